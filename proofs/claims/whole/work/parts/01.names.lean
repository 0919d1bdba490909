-- ===== PART A: goes FIRST, ahead of the names: the tables' words, and 'selects' of the private methods out of them =====
/-- a private method of a class that the tables say can be made, by its rows of tables_1 -/
def lw_okq (q : MethodName × Nat) : Prop := (q.1.cls ≠ "java/lang/invoke/MethodHandle" ∧ q.1.cls ≠ "java/lang/invoke/VarHandle") ∧ Cond.instantiable q.1.cls q.2 ∈ tables_1 ∧ Cond.privateMethod q.1 ∈ tables_1 ∧ Cond.instanceMethod q.1 ∈ tables_1
theorem lw_p0 : lw_okq (⟨"DriftKin", "yearsStand", "()Z"⟩, 9) := ⟨⟨by decide +kernel, by decide +kernel⟩, List.mem_of_getElem? (i := 14) (by decide +kernel), List.mem_of_getElem? (i := 378) (by decide +kernel), List.mem_of_getElem? (i := 379) (by decide +kernel)⟩
theorem lw_p1 : lw_okq (⟨"DriftKin", "firstWinningCut", "(I)I"⟩, 9) := ⟨⟨by decide +kernel, by decide +kernel⟩, List.mem_of_getElem? (i := 14) (by decide +kernel), List.mem_of_getElem? (i := 541) (by decide +kernel), List.mem_of_getElem? (i := 542) (by decide +kernel)⟩
theorem lw_p2 : lw_okq (⟨"DriftKin", "worth", "(III)I"⟩, 9) := ⟨⟨by decide +kernel, by decide +kernel⟩, List.mem_of_getElem? (i := 14) (by decide +kernel), List.mem_of_getElem? (i := 545) (by decide +kernel), List.mem_of_getElem? (i := 546) (by decide +kernel)⟩
theorem lw_p3 : lw_okq (⟨"DriftKinModel", "faultOf", "()I"⟩, 15) := ⟨⟨by decide +kernel, by decide +kernel⟩, List.mem_of_getElem? (i := 597) (by decide +kernel), List.mem_of_getElem? (i := 681) (by decide +kernel), List.mem_of_getElem? (i := 682) (by decide +kernel)⟩
theorem lw_p4 : lw_okq (⟨"DriftKinModel", "goYears", "()I"⟩, 15) := ⟨⟨by decide +kernel, by decide +kernel⟩, List.mem_of_getElem? (i := 597) (by decide +kernel), List.mem_of_getElem? (i := 695) (by decide +kernel), List.mem_of_getElem? (i := 696) (by decide +kernel)⟩
theorem lw_p5 : lw_okq (⟨"DriftKinModel", "asNow", "()V"⟩, 15) := ⟨⟨by decide +kernel, by decide +kernel⟩, List.mem_of_getElem? (i := 597) (by decide +kernel), List.mem_of_getElem? (i := 699) (by decide +kernel), List.mem_of_getElem? (i := 700) (by decide +kernel)⟩
theorem lw_p6 : lw_okq (⟨"DriftKinModel", "houseAct", "(III)I"⟩, 15) := ⟨⟨by decide +kernel, by decide +kernel⟩, List.mem_of_getElem? (i := 597) (by decide +kernel), List.mem_of_getElem? (i := 703) (by decide +kernel), List.mem_of_getElem? (i := 704) (by decide +kernel)⟩
theorem lw_p7 : lw_okq (⟨"DriftKinModel", "wed", "(II)I"⟩, 15) := ⟨⟨by decide +kernel, by decide +kernel⟩, List.mem_of_getElem? (i := 597) (by decide +kernel), List.mem_of_getElem? (i := 707) (by decide +kernel), List.mem_of_getElem? (i := 708) (by decide +kernel)⟩
theorem lw_p8 : lw_okq (⟨"DriftKinModel", "part", "(I)I"⟩, 15) := ⟨⟨by decide +kernel, by decide +kernel⟩, List.mem_of_getElem? (i := 597) (by decide +kernel), List.mem_of_getElem? (i := 711) (by decide +kernel), List.mem_of_getElem? (i := 712) (by decide +kernel)⟩
theorem lw_p9 : lw_okq (⟨"DriftKinModel", "burn", "(I)I"⟩, 15) := ⟨⟨by decide +kernel, by decide +kernel⟩, List.mem_of_getElem? (i := 597) (by decide +kernel), List.mem_of_getElem? (i := 715) (by decide +kernel), List.mem_of_getElem? (i := 716) (by decide +kernel)⟩
theorem lw_p10 : lw_okq (⟨"DriftKinModel", "take", "(II)I"⟩, 15) := ⟨⟨by decide +kernel, by decide +kernel⟩, List.mem_of_getElem? (i := 597) (by decide +kernel), List.mem_of_getElem? (i := 719) (by decide +kernel), List.mem_of_getElem? (i := 720) (by decide +kernel)⟩
theorem lw_p11 : lw_okq (⟨"DriftKinModel", "endYear", "()I"⟩, 15) := ⟨⟨by decide +kernel, by decide +kernel⟩, List.mem_of_getElem? (i := 597) (by decide +kernel), List.mem_of_getElem? (i := 723) (by decide +kernel), List.mem_of_getElem? (i := 724) (by decide +kernel)⟩
theorem lw_p12 : lw_okq (⟨"DriftKinModel", "comeIn", "(I)I"⟩, 15) := ⟨⟨by decide +kernel, by decide +kernel⟩, List.mem_of_getElem? (i := 597) (by decide +kernel), List.mem_of_getElem? (i := 727) (by decide +kernel), List.mem_of_getElem? (i := 728) (by decide +kernel)⟩
theorem lw_p13 : lw_okq (⟨"DriftKinModel", "barOfYears", "()I"⟩, 15) := ⟨⟨by decide +kernel, by decide +kernel⟩, List.mem_of_getElem? (i := 597) (by decide +kernel), List.mem_of_getElem? (i := 735) (by decide +kernel), List.mem_of_getElem? (i := 736) (by decide +kernel)⟩
theorem lw_p14 : lw_okq (⟨"DriftKinModel", "layPlanks", "()V"⟩, 15) := ⟨⟨by decide +kernel, by decide +kernel⟩, List.mem_of_getElem? (i := 597) (by decide +kernel), List.mem_of_getElem? (i := 758) (by decide +kernel), List.mem_of_getElem? (i := 759) (by decide +kernel)⟩
theorem lw_p15 : lw_okq (⟨"DriftKinModel", "joins", "(II)Z"⟩, 15) := ⟨⟨by decide +kernel, by decide +kernel⟩, List.mem_of_getElem? (i := 597) (by decide +kernel), List.mem_of_getElem? (i := 765) (by decide +kernel), List.mem_of_getElem? (i := 766) (by decide +kernel)⟩
def lw_privs_1 : List (MethodName × Nat) := [(⟨"DriftKin", "yearsStand", "()Z"⟩, 9), (⟨"DriftKin", "firstWinningCut", "(I)I"⟩, 9), (⟨"DriftKin", "worth", "(III)I"⟩, 9), (⟨"DriftKinModel", "faultOf", "()I"⟩, 15), (⟨"DriftKinModel", "goYears", "()I"⟩, 15), (⟨"DriftKinModel", "asNow", "()V"⟩, 15), (⟨"DriftKinModel", "houseAct", "(III)I"⟩, 15), (⟨"DriftKinModel", "wed", "(II)I"⟩, 15), (⟨"DriftKinModel", "part", "(I)I"⟩, 15), (⟨"DriftKinModel", "burn", "(I)I"⟩, 15), (⟨"DriftKinModel", "take", "(II)I"⟩, 15), (⟨"DriftKinModel", "endYear", "()I"⟩, 15), (⟨"DriftKinModel", "comeIn", "(I)I"⟩, 15), (⟨"DriftKinModel", "barOfYears", "()I"⟩, 15), (⟨"DriftKinModel", "layPlanks", "()V"⟩, 15), (⟨"DriftKinModel", "joins", "(II)Z"⟩, 15)]
theorem lw_r1 : ∀ q ∈ lw_privs_1, lw_okq q := List.forall_mem_cons.mpr ⟨lw_p0, List.forall_mem_cons.mpr ⟨lw_p1, List.forall_mem_cons.mpr ⟨lw_p2, List.forall_mem_cons.mpr ⟨lw_p3, List.forall_mem_cons.mpr ⟨lw_p4, List.forall_mem_cons.mpr ⟨lw_p5, List.forall_mem_cons.mpr ⟨lw_p6, List.forall_mem_cons.mpr ⟨lw_p7, List.forall_mem_cons.mpr ⟨lw_p8, List.forall_mem_cons.mpr ⟨lw_p9, List.forall_mem_cons.mpr ⟨lw_p10, List.forall_mem_cons.mpr ⟨lw_p11, List.forall_mem_cons.mpr ⟨lw_p12, List.forall_mem_cons.mpr ⟨lw_p13, List.forall_mem_cons.mpr ⟨lw_p14, List.forall_mem_cons.mpr ⟨lw_p15, fun _ h => absurd h List.not_mem_nil⟩⟩⟩⟩⟩⟩⟩⟩⟩⟩⟩⟩⟩⟩⟩⟩
theorem lw_p16 : lw_okq (⟨"DriftKinModel", "sameBy", "(III)I"⟩, 15) := ⟨⟨by decide +kernel, by decide +kernel⟩, List.mem_of_getElem? (i := 597) (by decide +kernel), List.mem_of_getElem? (i := 778) (by decide +kernel), List.mem_of_getElem? (i := 779) (by decide +kernel)⟩
theorem lw_p17 : lw_okq (⟨"DriftKinModel", "layTwos", "()V"⟩, 15) := ⟨⟨by decide +kernel, by decide +kernel⟩, List.mem_of_getElem? (i := 597) (by decide +kernel), List.mem_of_getElem? (i := 793) (by decide +kernel), List.mem_of_getElem? (i := 794) (by decide +kernel)⟩
theorem lw_p18 : lw_okq (⟨"DriftKinModel", "mayWed", "(II)Z"⟩, 15) := ⟨⟨by decide +kernel, by decide +kernel⟩, List.mem_of_getElem? (i := 597) (by decide +kernel), List.mem_of_getElem? (i := 797) (by decide +kernel), List.mem_of_getElem? (i := 798) (by decide +kernel)⟩
theorem lw_p19 : lw_okq (⟨"DriftKinModel", "wheelSet", "()I"⟩, 15) := ⟨⟨by decide +kernel, by decide +kernel⟩, List.mem_of_getElem? (i := 597) (by decide +kernel), List.mem_of_getElem? (i := 813) (by decide +kernel), List.mem_of_getElem? (i := 814) (by decide +kernel)⟩
def lw_privs_2 : List (MethodName × Nat) := [(⟨"DriftKinModel", "sameBy", "(III)I"⟩, 15), (⟨"DriftKinModel", "layTwos", "()V"⟩, 15), (⟨"DriftKinModel", "mayWed", "(II)Z"⟩, 15), (⟨"DriftKinModel", "wheelSet", "()I"⟩, 15)]
theorem lw_r2 : ∀ q ∈ lw_privs_2, lw_okq q := List.forall_mem_cons.mpr ⟨lw_p16, List.forall_mem_cons.mpr ⟨lw_p17, List.forall_mem_cons.mpr ⟨lw_p18, List.forall_mem_cons.mpr ⟨lw_p19, fun _ h => absurd h List.not_mem_nil⟩⟩⟩⟩
def lw_privs : List (MethodName × Nat) := lw_privs_1 ++ (lw_privs_2)
def lw_tbl : List Cond := k2_sels lw_privs ++ tables_1
theorem lw_privs_ok : ∀ q ∈ lw_privs, lw_okq q := by
  show ∀ q ∈ lw_privs_1 ++ (lw_privs_2), lw_okq q
  exact List.forall_mem_append.mpr ⟨lw_r1, lw_r2⟩
-- ===== end of PART A; then your names; then what follows =====
/-! ===== BEGIN printed: names, fields, word lists, decode rows ===== -/
def RX0 : String := "DriftKin$Houses"
def TX0 : u_T := fun k => match k with
  | 0 => ("DriftKin$Houses", "piece", "[I", true)
  | 1 => ("DriftKin$Houses", "partner", "[I", true)
  | _ => ("DriftKin$Houses", "children", "[I", true)
def tyX0 : Nat → FieldType := fun k => match k with
  | 0 => .array .int
  | 1 => .array .int
  | _ => .array .int
abbrev wsX00 : List Cond := u_ws RX0 TX0 3
theorem nmX0 : ∀ a, a < 3 → ∀ b, b < 3 → a ≠ b → (TX0 a).2.1 ≠ (TX0 b).2.1 := by decide +kernel
theorem tyX0_ok : ∀ k, k < 3 → parseFieldDescriptor (TX0 k).2.2.1 = some (tyX0 k) := by decide +kernel
abbrev cX0_init : ByteArray := prog_2_method_1_code
def yX0_init : MethodName := ⟨RX0, "<init>", "()V"⟩
abbrev cX0_become : ByteArray := prog_2_method_2_code
def yX0_become : MethodName := ⟨RX0, "become", "(LDriftKin$Houses;)V"⟩
abbrev cX0_detail : ByteArray := prog_2_method_3_code
def yX0_detail : MethodName := ⟨RX0, "detail", "(II)I"⟩
abbrev cX0_isOfNone : ByteArray := prog_2_method_4_code
def yX0_isOfNone : MethodName := ⟨RX0, "isOfNone", "(I)Z"⟩
abbrev cX0_isWed : ByteArray := prog_2_method_5_code
def yX0_isWed : MethodName := ⟨RX0, "isWed", "(I)Z"⟩
abbrev cX0_countOfPieces : ByteArray := prog_2_method_6_code
def yX0_countOfPieces : MethodName := ⟨RX0, "countOfPieces", "()I"⟩
abbrev cX0_allChildren : ByteArray := prog_2_method_7_code
def yX0_allChildren : MethodName := ⟨RX0, "allChildren", "()I"⟩
def RX1 : String := "DriftKin$Matches"
def TX1 : u_T := fun k => match k with
  | 0 => ("DriftKin$Matches", "might", "[I", true)
  | 1 => ("DriftKin$Matches", "most", "[I", true)
  | 2 => ("DriftKin$Matches", "mate", "[I", true)
  | _ => ("DriftKin$Matches", "count", "I", false)
def tyX1 : Nat → FieldType := fun k => match k with
  | 0 => .array .int
  | 1 => .array .int
  | 2 => .array .int
  | _ => .int
abbrev wsX10 : List Cond := u_ws RX1 TX1 4
theorem nmX1 : ∀ a, a < 4 → ∀ b, b < 4 → a ≠ b → (TX1 a).2.1 ≠ (TX1 b).2.1 := by decide +kernel
theorem tyX1_ok : ∀ k, k < 4 → parseFieldDescriptor (TX1 k).2.2.1 = some (tyX1 k) := by decide +kernel
abbrev cX1_init : ByteArray := prog_3_method_1_code
def yX1_init : MethodName := ⟨RX1, "<init>", "()V"⟩
abbrev cX1_find : ByteArray := prog_3_method_2_code
def yX1_find : MethodName := ⟨RX1, "find", "(LDriftKin$Shore;)V"⟩
abbrev cX1_mostOf : ByteArray := prog_3_method_3_code
def yX1_mostOf : MethodName := ⟨RX1, "mostOf", "(I)I"⟩
abbrev cX1_lowest : ByteArray := prog_3_method_4_code
def yX1_lowest : MethodName := ⟨RX1, "lowest", "(I)I"⟩
abbrev cX1_settle : ByteArray := prog_3_method_5_code
def yX1_settle : MethodName := ⟨RX1, "settle", "(II)I"⟩
def RX2 : String := "DriftKin$Pad"
def TX2 : u_T := fun k => match k with
  | 0 => ("DriftKin$Pad", "signs", "[I", true)
  | _ => ("DriftKin$Pad", "count", "I", false)
def tyX2 : Nat → FieldType := fun k => match k with
  | 0 => .array .int
  | _ => .int
abbrev wsX20 : List Cond := u_ws RX2 TX2 2
theorem nmX2 : ∀ a, a < 2 → ∀ b, b < 2 → a ≠ b → (TX2 a).2.1 ≠ (TX2 b).2.1 := by decide +kernel
theorem tyX2_ok : ∀ k, k < 2 → parseFieldDescriptor (TX2 k).2.2.1 = some (tyX2 k) := by decide +kernel
abbrev cX2_init : ByteArray := prog_4_method_1_code
def yX2_init : MethodName := ⟨RX2, "<init>", "()V"⟩
abbrev cX2_firstWrong : ByteArray := prog_4_method_2_code
def yX2_firstWrong : MethodName := ⟨RX2, "firstWrong", "()I"⟩
abbrev cX2_dueAfter : ByteArray := prog_4_method_3_code
def yX2_dueAfter : MethodName := ⟨RX2, "dueAfter", "(II)I"⟩
abbrev cX2_isPieceSign : ByteArray := prog_4_method_4_code
def yX2_isPieceSign : MethodName := ⟨RX2, "isPieceSign", "(I)Z"⟩
abbrev cX2_isHouseSign : ByteArray := prog_4_method_5_code
def yX2_isHouseSign : MethodName := ⟨RX2, "isHouseSign", "(I)Z"⟩
def RX3 : String := "DriftKin$Pieces"
def TX3 : u_T := fun k => match k with
  | 0 => ("DriftKin$Pieces", "wreck", "[I", true)
  | 1 => ("DriftKin$Pieces", "wood", "[I", true)
  | 2 => ("DriftKin$Pieces", "length", "[I", true)
  | 3 => ("DriftKin$Pieces", "left", "[I", true)
  | 4 => ("DriftKin$Pieces", "right", "[I", true)
  | 5 => ("DriftKin$Pieces", "place", "[I", true)
  | _ => ("DriftKin$Pieces", "rings", "[I", true)
def tyX3 : Nat → FieldType := fun k => match k with
  | 0 => .array .int
  | 1 => .array .int
  | 2 => .array .int
  | 3 => .array .int
  | 4 => .array .int
  | 5 => .array .int
  | _ => .array .int
abbrev wsX30 : List Cond := u_ws RX3 TX3 7
theorem nmX3 : ∀ a, a < 7 → ∀ b, b < 7 → a ≠ b → (TX3 a).2.1 ≠ (TX3 b).2.1 := by decide +kernel
theorem tyX3_ok : ∀ k, k < 7 → parseFieldDescriptor (TX3 k).2.2.1 = some (tyX3 k) := by decide +kernel
abbrev cX3_init : ByteArray := prog_5_method_1_code
def yX3_init : MethodName := ⟨RX3, "<init>", "()V"⟩
abbrev cX3_become : ByteArray := prog_5_method_2_code
def yX3_become : MethodName := ⟨RX3, "become", "(LDriftKin$Pieces;)V"⟩
abbrev cX3_detail : ByteArray := prog_5_method_3_code
def yX3_detail : MethodName := ⟨RX3, "detail", "(II)I"⟩
abbrev cX3_bitsAt : ByteArray := prog_5_method_4_code
def yX3_bitsAt : MethodName := ⟨RX3, "bitsAt", "(I)I"⟩
abbrev cX3_bitsNotBurnt : ByteArray := prog_5_method_5_code
def yX3_bitsNotBurnt : MethodName := ⟨RX3, "bitsNotBurnt", "()I"⟩
abbrev cX3_lengthOf : ByteArray := prog_5_method_6_code
def yX3_lengthOf : MethodName := ⟨RX3, "lengthOf", "(I)I"⟩
abbrev cX3_joins : ByteArray := prog_5_method_7_code
def yX3_joins : MethodName := ⟨RX3, "joins", "(II)Z"⟩
def RX4 : String := "DriftKin$Planks"
def TX4 : u_T := fun k => match k with
  | 0 => ("DriftKin$Planks", "before", "[I", true)
  | 1 => ("DriftKin$Planks", "fewest", "[I", true)
  | 2 => ("DriftKin$Planks", "lasts", "[I", true)
  | _ => ("DriftKin$Planks", "usable", "I", false)
def tyX4 : Nat → FieldType := fun k => match k with
  | 0 => .array .int
  | 1 => .array .int
  | 2 => .array .int
  | _ => .int
abbrev wsX40 : List Cond := u_ws RX4 TX4 4
theorem nmX4 : ∀ a, a < 4 → ∀ b, b < 4 → a ≠ b → (TX4 a).2.1 ≠ (TX4 b).2.1 := by decide +kernel
theorem tyX4_ok : ∀ k, k < 4 → parseFieldDescriptor (TX4 k).2.2.1 = some (tyX4 k) := by decide +kernel
abbrev cX4_init : ByteArray := prog_6_method_1_code
def yX4_init : MethodName := ⟨RX4, "<init>", "()V"⟩
abbrev cX4_lay : ByteArray := prog_6_method_2_code
def yX4_lay : MethodName := ⟨RX4, "lay", "(LDriftKin$Pieces;)V"⟩
abbrev cX4_joinedBy : ByteArray := prog_6_method_3_code
def yX4_joinedBy : MethodName := ⟨RX4, "joinedBy", "(LDriftKin$Pieces;I)I"⟩
abbrev cX4_layLast : ByteArray := prog_6_method_4_code
def yX4_layLast : MethodName := ⟨RX4, "layLast", "(I)V"⟩
abbrev cX4_longestBits : ByteArray := prog_6_method_5_code
def yX4_longestBits : MethodName := ⟨RX4, "longestBits", "(LDriftKin$Pieces;)I"⟩
def RX5 : String := "DriftKin$Shore"
def TX5 : u_T := fun k => match k with
  | 0 => ("DriftKin$Shore", "pieces", "LDriftKin$Pieces;", true)
  | 1 => ("DriftKin$Shore", "houses", "LDriftKin$Houses;", true)
  | 2 => ("DriftKin$Shore", "sights", "LDriftKin$Sights;", true)
  | _ => ("DriftKin$Shore", "year", "I", false)
def tyX5 : Nat → FieldType := fun k => match k with
  | 0 => .object "DriftKin$Pieces"
  | 1 => .object "DriftKin$Houses"
  | 2 => .object "DriftKin$Sights"
  | _ => .int
abbrev wsX50 : List Cond := u_ws RX5 TX5 4
theorem nmX5 : ∀ a, a < 4 → ∀ b, b < 4 → a ≠ b → (TX5 a).2.1 ≠ (TX5 b).2.1 := by decide +kernel
theorem tyX5_ok : ∀ k, k < 4 → parseFieldDescriptor (TX5 k).2.2.1 = some (tyX5 k) := by decide +kernel
abbrev cX5_init : ByteArray := prog_7_method_1_code
def yX5_init : MethodName := ⟨RX5, "<init>", "()V"⟩
abbrev cX5_become : ByteArray := prog_7_method_2_code
def yX5_become : MethodName := ⟨RX5, "become", "(LDriftKin$Shore;)V"⟩
abbrev cX5_comeIn : ByteArray := prog_7_method_3_code
def yX5_comeIn : MethodName := ⟨RX5, "comeIn", "(I)I"⟩
abbrev cX5_takeHome : ByteArray := prog_7_method_4_code
def yX5_takeHome : MethodName := ⟨RX5, "takeHome", "(II)I"⟩
abbrev cX5_marry : ByteArray := prog_7_method_5_code
def yX5_marry : MethodName := ⟨RX5, "marry", "(II)I"⟩
abbrev cX5_part : ByteArray := prog_7_method_6_code
def yX5_part : MethodName := ⟨RX5, "part", "(I)I"⟩
abbrev cX5_burn : ByteArray := prog_7_method_7_code
def yX5_burn : MethodName := ⟨RX5, "burn", "(I)I"⟩
abbrev cX5_passYear : ByteArray := prog_7_method_8_code
def yX5_passYear : MethodName := ⟨RX5, "passYear", "()I"⟩
abbrev cX5_wreckOf : ByteArray := prog_7_method_9_code
def yX5_wreckOf : MethodName := ⟨RX5, "wreckOf", "(I)I"⟩
abbrev cX5_mightWed : ByteArray := prog_7_method_10_code
def yX5_mightWed : MethodName := ⟨RX5, "mightWed", "(II)Z"⟩
abbrev cX5_isFree : ByteArray := prog_7_method_11_code
def yX5_isFree : MethodName := ⟨RX5, "isFree", "(I)Z"⟩
def RX6 : String := "DriftKin$Sights"
def TX6 : u_T := fun k => match k with
  | 0 => ("DriftKin$Sights", "house", "[I", true)
  | 1 => ("DriftKin$Sights", "reach", "[I", true)
  | 2 => ("DriftKin$Sights", "sounded", "[I", true)
  | _ => ("DriftKin$Sights", "count", "I", false)
def tyX6 : Nat → FieldType := fun k => match k with
  | 0 => .array .int
  | 1 => .array .int
  | 2 => .array .int
  | _ => .int
abbrev wsX60 : List Cond := u_ws RX6 TX6 4
theorem nmX6 : ∀ a, a < 4 → ∀ b, b < 4 → a ≠ b → (TX6 a).2.1 ≠ (TX6 b).2.1 := by decide +kernel
theorem tyX6_ok : ∀ k, k < 4 → parseFieldDescriptor (TX6 k).2.2.1 = some (tyX6 k) := by decide +kernel
abbrev cX6_init : ByteArray := prog_8_method_1_code
def yX6_init : MethodName := ⟨RX6, "<init>", "()V"⟩
abbrev cX6_become : ByteArray := prog_8_method_2_code
def yX6_become : MethodName := ⟨RX6, "become", "(LDriftKin$Sights;)V"⟩
abbrev cX6_add : ByteArray := prog_8_method_3_code
def yX6_add : MethodName := ⟨RX6, "add", "(IIZ)V"⟩
abbrev cX6_bitsLeft : ByteArray := prog_8_method_4_code
def yX6_bitsLeft : MethodName := ⟨RX6, "bitsLeft", "()I"⟩
def RX7 : String := "DriftKin$Years"
def TX7 : u_T := fun k => match k with
  | 0 => ("DriftKin$Years", "end", "LDriftKin$Shore;", true)
  | 1 => ("DriftKin$Years", "acts", "I", false)
  | 2 => ("DriftKin$Years", "why", "I", false)
  | _ => ("DriftKin$Years", "weddings", "I", false)
def tyX7 : Nat → FieldType := fun k => match k with
  | 0 => .object "DriftKin$Shore"
  | 1 => .int
  | 2 => .int
  | _ => .int
abbrev wsX70 : List Cond := u_ws RX7 TX7 4
theorem nmX7 : ∀ a, a < 4 → ∀ b, b < 4 → a ≠ b → (TX7 a).2.1 ≠ (TX7 b).2.1 := by decide +kernel
theorem tyX7_ok : ∀ k, k < 4 → parseFieldDescriptor (TX7 k).2.2.1 = some (tyX7 k) := by decide +kernel
abbrev cX7_init : ByteArray := prog_9_method_1_code
def yX7_init : MethodName := ⟨RX7, "<init>", "()V"⟩
abbrev cX7_begin : ByteArray := prog_9_method_2_code
def yX7_begin : MethodName := ⟨RX7, "begin", "(LDriftKin$Shore;)V"⟩
abbrev cX7_tell : ByteArray := prog_9_method_3_code
def yX7_tell : MethodName := ⟨RX7, "tell", "(LDriftKin$Pad;LDriftKin$Shore;)V"⟩
abbrev cX7_homeAct : ByteArray := prog_9_method_4_code
def yX7_homeAct : MethodName := ⟨RX7, "homeAct", "(II)I"⟩
abbrev cX7_wed : ByteArray := prog_9_method_5_code
def yX7_wed : MethodName := ⟨RX7, "wed", "(II)I"⟩
abbrev cX7_draw : ByteArray := prog_9_method_6_code
def yX7_draw : MethodName := ⟨RX7, "draw", "(IILDriftKin$Shore;)V"⟩
abbrev cX7_drawnAct : ByteArray := prog_9_method_7_code
def yX7_drawnAct : MethodName := ⟨RX7, "drawnAct", "(IIII)V"⟩
def RX8 : String := "DriftKin"
def TX8 : u_T := fun k => match k with
  | 0 => ("DriftKin", "now", "LDriftKin$Shore;", true)
  | 1 => ("DriftKin", "firstImage", "LDriftKin$Shore;", true)
  | 2 => ("DriftKin", "secondImage", "LDriftKin$Shore;", true)
  | 3 => ("DriftKin", "firstKept", "Z", false)
  | 4 => ("DriftKin", "secondKept", "Z", false)
  | 5 => ("DriftKin", "pad", "LDriftKin$Pad;", true)
  | 6 => ("DriftKin", "years", "LDriftKin$Years;", true)
  | 7 => ("DriftKin", "planks", "LDriftKin$Planks;", true)
  | _ => ("DriftKin", "matches", "LDriftKin$Matches;", true)
def tyX8 : Nat → FieldType := fun k => match k with
  | 0 => .object "DriftKin$Shore"
  | 1 => .object "DriftKin$Shore"
  | 2 => .object "DriftKin$Shore"
  | 3 => .boolean
  | 4 => .boolean
  | 5 => .object "DriftKin$Pad"
  | 6 => .object "DriftKin$Years"
  | 7 => .object "DriftKin$Planks"
  | _ => .object "DriftKin$Matches"
abbrev wsX80 : List Cond := u_ws RX8 TX8 9
theorem nmX8 : ∀ a, a < 9 → ∀ b, b < 9 → a ≠ b → (TX8 a).2.1 ≠ (TX8 b).2.1 := by decide +kernel
theorem tyX8_ok : ∀ k, k < 9 → parseFieldDescriptor (TX8 k).2.2.1 = some (tyX8 k) := by decide +kernel
abbrev cX8_init : ByteArray := prog_1_method_1_code
def yX8_init : MethodName := ⟨RX8, "<init>", "()V"⟩
abbrev cX8_piece : ByteArray := prog_1_method_2_code
def yX8_piece : MethodName := ⟨RX8, "piece", "(IIII)I"⟩
abbrev cX8_ends : ByteArray := prog_1_method_3_code
def yX8_ends : MethodName := ⟨RX8, "ends", "(III)I"⟩
abbrev cX8_rings : ByteArray := prog_1_method_4_code
def yX8_rings : MethodName := ⟨RX8, "rings", "(II)I"⟩
abbrev cX8_say : ByteArray := prog_1_method_5_code
def yX8_say : MethodName := ⟨RX8, "say", "(I)I"⟩
abbrev cX8_wipe : ByteArray := prog_1_method_6_code
def yX8_wipe : MethodName := ⟨RX8, "wipe", "()I"⟩
abbrev cX8_fault : ByteArray := prog_1_method_7_code
def yX8_fault : MethodName := ⟨RX8, "fault", "()I"⟩
abbrev cX8_judge : ByteArray := prog_1_method_8_code
def yX8_judge : MethodName := ⟨RX8, "judge", "(I)I"⟩
abbrev cX8_done : ByteArray := prog_1_method_9_code
def yX8_done : MethodName := ⟨RX8, "done", "()I"⟩
abbrev cX8_where : ByteArray := prog_1_method_10_code
def yX8_where : MethodName := ⟨RX8, "where", "(I)I"⟩
abbrev cX8_behind : ByteArray := prog_1_method_11_code
def yX8_behind : MethodName := ⟨RX8, "behind", "(II)I"⟩
abbrev cX8_then : ByteArray := prog_1_method_12_code
def yX8_then : MethodName := ⟨RX8, "then", "(I)I"⟩
abbrev cX8_yearsStand : ByteArray := prog_1_method_13_code
def yX8_yearsStand : MethodName := ⟨RX8, "yearsStand", "()Z"⟩
abbrev cX8_longest : ByteArray := prog_1_method_14_code
def yX8_longest : MethodName := ⟨RX8, "longest", "(I)I"⟩
abbrev cX8_deck : ByteArray := prog_1_method_15_code
def yX8_deck : MethodName := ⟨RX8, "deck", "()I"⟩
abbrev cX8_same : ByteArray := prog_1_method_16_code
def yX8_same : MethodName := ⟨RX8, "same", "(III)I"⟩
abbrev cX8_lie : ByteArray := prog_1_method_17_code
def yX8_lie : MethodName := ⟨RX8, "lie", "(III)I"⟩
abbrev cX8_match : ByteArray := prog_1_method_18_code
def yX8_match : MethodName := ⟨RX8, "match", "(I)I"⟩
abbrev cX8_heard : ByteArray := prog_1_method_19_code
def yX8_heard : MethodName := ⟨RX8, "heard", "(IIZ)I"⟩
abbrev cX8_forget : ByteArray := prog_1_method_20_code
def yX8_forget : MethodName := ⟨RX8, "forget", "()I"⟩
abbrev cX8_wheel : ByteArray := prog_1_method_21_code
def yX8_wheel : MethodName := ⟨RX8, "wheel", "()I"⟩
abbrev cX8_ask : ByteArray := prog_1_method_22_code
def yX8_ask : MethodName := ⟨RX8, "ask", "(I)I"⟩
abbrev cX8_saw : ByteArray := prog_1_method_23_code
def yX8_saw : MethodName := ⟨RX8, "saw", "(II)I"⟩
abbrev cX8_soon : ByteArray := prog_1_method_24_code
def yX8_soon : MethodName := ⟨RX8, "soon", "(IIII)J"⟩
abbrev cX8_book : ByteArray := prog_1_method_25_code
def yX8_book : MethodName := ⟨RX8, "book", "(III)I"⟩
abbrev cX8_image : ByteArray := prog_1_method_26_code
def yX8_image : MethodName := ⟨RX8, "image", "(I)I"⟩
abbrev cX8_restore : ByteArray := prog_1_method_27_code
def yX8_restore : MethodName := ⟨RX8, "restore", "(I)I"⟩
abbrev cX8_told : ByteArray := prog_1_method_28_code
def yX8_told : MethodName := ⟨RX8, "told", "(I)I"⟩
abbrev cX8_within : ByteArray := prog_1_method_29_code
def yX8_within : MethodName := ⟨RX8, "within", "(III)Z"⟩
abbrev cX8_isPiece : ByteArray := prog_1_method_30_code
def yX8_isPiece : MethodName := ⟨RX8, "isPiece", "(I)Z"⟩
abbrev cX8_isHouse : ByteArray := prog_1_method_31_code
def yX8_isHouse : MethodName := ⟨RX8, "isHouse", "(I)Z"⟩
abbrev cX8_has : ByteArray := prog_1_method_32_code
def yX8_has : MethodName := ⟨RX8, "has", "(II)Z"⟩
abbrev cX8_at : ByteArray := prog_1_method_33_code
def yX8_at : MethodName := ⟨RX8, "at", "([II)I"⟩
abbrev cX8_put : ByteArray := prog_1_method_34_code
def yX8_put : MethodName := ⟨RX8, "put", "([III)V"⟩
abbrev cX8_fill : ByteArray := prog_1_method_35_code
def yX8_fill : MethodName := ⟨RX8, "fill", "([II)V"⟩
abbrev cX8_copy : ByteArray := prog_1_method_36_code
def yX8_copy : MethodName := ⟨RX8, "copy", "([I[I)V"⟩
abbrev cX8_digit : ByteArray := prog_1_method_37_code
def yX8_digit : MethodName := ⟨RX8, "digit", "(II)I"⟩
abbrev cX8_alike : ByteArray := prog_1_method_38_code
def yX8_alike : MethodName := ⟨RX8, "alike", "(III)I"⟩
abbrev cX8_bitsNear : ByteArray := prog_1_method_39_code
def yX8_bitsNear : MethodName := ⟨RX8, "bitsNear", "(II)I"⟩
abbrev cX8_firstWinningCut : ByteArray := prog_1_method_40_code
def yX8_firstWinningCut : MethodName := ⟨RX8, "firstWinningCut", "(I)I"⟩
abbrev cX8_worth : ByteArray := prog_1_method_41_code
def yX8_worth : MethodName := ⟨RX8, "worth", "(III)I"⟩
abbrev cX8_power : ByteArray := prog_1_method_42_code
def yX8_power : MethodName := ⟨RX8, "power", "(II)J"⟩
abbrev cX8_greatestDivisor : ByteArray := prog_1_method_43_code
def yX8_greatestDivisor : MethodName := ⟨RX8, "greatestDivisor", "(JJ)J"⟩
def RX9 : String := "DriftKinModel"
def TX9 : u_T := fun k => match k with
  | 0 => ("DriftKinModel", "book", "[I", true)
  | 1 => ("DriftKinModel", "now", "[I", true)
  | 2 => ("DriftKinModel", "of", "[I", true)
  | 3 => ("DriftKinModel", "sights", "I", false)
  | 4 => ("DriftKinModel", "sight", "[I", true)
  | 5 => ("DriftKinModel", "signs", "I", false)
  | 6 => ("DriftKinModel", "pad", "[I", true)
  | 7 => ("DriftKinModel", "weddings", "I", false)
  | 8 => ("DriftKinModel", "reason", "I", false)
  | 9 => ("DriftKinModel", "acts", "I", false)
  | 10 => ("DriftKinModel", "lasts", "[I", true)
  | 11 => ("DriftKinModel", "fewest", "[I", true)
  | 12 => ("DriftKinModel", "twos", "[I", true)
  | 13 => ("DriftKinModel", "image", "[I", true)
  | _ => ("DriftKinModel", "isKept", "[Z", true)
def tyX9 : Nat → FieldType := fun k => match k with
  | 0 => .array .int
  | 1 => .array .int
  | 2 => .array .int
  | 3 => .int
  | 4 => .array .int
  | 5 => .int
  | 6 => .array .int
  | 7 => .int
  | 8 => .int
  | 9 => .int
  | 10 => .array .int
  | 11 => .array .int
  | 12 => .array .int
  | 13 => .array .int
  | _ => .array .boolean
abbrev wsX90 : List Cond := u_ws RX9 TX9 15
theorem nmX9 : ∀ a, a < 15 → ∀ b, b < 15 → a ≠ b → (TX9 a).2.1 ≠ (TX9 b).2.1 := by decide +kernel
theorem tyX9_ok : ∀ k, k < 15 → parseFieldDescriptor (TX9 k).2.2.1 = some (tyX9 k) := by decide +kernel
abbrev cX9_init : ByteArray := prog_11_method_1_code
def yX9_init : MethodName := ⟨RX9, "<init>", "()V"⟩
abbrev cX9_in : ByteArray := prog_11_method_2_code
def yX9_in : MethodName := ⟨RX9, "in", "(III)Z"⟩
abbrev cX9_has : ByteArray := prog_11_method_3_code
def yX9_has : MethodName := ⟨RX9, "has", "(II)Z"⟩
abbrev cX9_bits : ByteArray := prog_11_method_4_code
def yX9_bits : MethodName := ⟨RX9, "bits", "(I)I"⟩
abbrev cX9_isPiece : ByteArray := prog_11_method_5_code
def yX9_isPiece : MethodName := ⟨RX9, "isPiece", "(I)Z"⟩
abbrev cX9_isHouse : ByteArray := prog_11_method_6_code
def yX9_isHouse : MethodName := ⟨RX9, "isHouse", "(I)Z"⟩
abbrev cX9_piece : ByteArray := prog_11_method_7_code
def yX9_piece : MethodName := ⟨RX9, "piece", "(IIII)I"⟩
abbrev cX9_ends : ByteArray := prog_11_method_8_code
def yX9_ends : MethodName := ⟨RX9, "ends", "(III)I"⟩
abbrev cX9_rings : ByteArray := prog_11_method_9_code
def yX9_rings : MethodName := ⟨RX9, "rings", "(II)I"⟩
abbrev cX9_say : ByteArray := prog_11_method_10_code
def yX9_say : MethodName := ⟨RX9, "say", "(I)I"⟩
abbrev cX9_wipe : ByteArray := prog_11_method_11_code
def yX9_wipe : MethodName := ⟨RX9, "wipe", "()I"⟩
abbrev cX9_isLetter : ByteArray := prog_11_method_12_code
def yX9_isLetter : MethodName := ⟨RX9, "isLetter", "(I)Z"⟩
abbrev cX9_isDigit : ByteArray := prog_11_method_13_code
def yX9_isDigit : MethodName := ⟨RX9, "isDigit", "(I)Z"⟩
abbrev cX9_faultOf : ByteArray := prog_11_method_14_code
def yX9_faultOf : MethodName := ⟨RX9, "faultOf", "()I"⟩
abbrev cX9_fault : ByteArray := prog_11_method_15_code
def yX9_fault : MethodName := ⟨RX9, "fault", "()I"⟩
abbrev cX9_asNow : ByteArray := prog_11_method_16_code
def yX9_asNow : MethodName := ⟨RX9, "asNow", "()V"⟩
abbrev cX9_comeIn : ByteArray := prog_11_method_17_code
def yX9_comeIn : MethodName := ⟨RX9, "comeIn", "(I)I"⟩
abbrev cX9_take : ByteArray := prog_11_method_18_code
def yX9_take : MethodName := ⟨RX9, "take", "(II)I"⟩
abbrev cX9_wed : ByteArray := prog_11_method_19_code
def yX9_wed : MethodName := ⟨RX9, "wed", "(II)I"⟩
abbrev cX9_part : ByteArray := prog_11_method_20_code
def yX9_part : MethodName := ⟨RX9, "part", "(I)I"⟩
abbrev cX9_burn : ByteArray := prog_11_method_21_code
def yX9_burn : MethodName := ⟨RX9, "burn", "(I)I"⟩
abbrev cX9_endYear : ByteArray := prog_11_method_22_code
def yX9_endYear : MethodName := ⟨RX9, "endYear", "()I"⟩
abbrev cX9_houseAct : ByteArray := prog_11_method_23_code
def yX9_houseAct : MethodName := ⟨RX9, "houseAct", "(III)I"⟩
abbrev cX9_goYears : ByteArray := prog_11_method_24_code
def yX9_goYears : MethodName := ⟨RX9, "goYears", "()I"⟩
abbrev cX9_judge : ByteArray := prog_11_method_25_code
def yX9_judge : MethodName := ⟨RX9, "judge", "(I)I"⟩
abbrev cX9_barOfYears : ByteArray := prog_11_method_26_code
def yX9_barOfYears : MethodName := ⟨RX9, "barOfYears", "()I"⟩
abbrev cX9_done : ByteArray := prog_11_method_27_code
def yX9_done : MethodName := ⟨RX9, "done", "()I"⟩
abbrev cX9_where : ByteArray := prog_11_method_28_code
def yX9_where : MethodName := ⟨RX9, "where", "(I)I"⟩
abbrev cX9_behind : ByteArray := prog_11_method_29_code
def yX9_behind : MethodName := ⟨RX9, "behind", "(II)I"⟩
abbrev cX9_then : ByteArray := prog_11_method_30_code
def yX9_then : MethodName := ⟨RX9, "then", "(I)I"⟩
abbrev cX9_joins : ByteArray := prog_11_method_31_code
def yX9_joins : MethodName := ⟨RX9, "joins", "(II)Z"⟩
abbrev cX9_layPlanks : ByteArray := prog_11_method_32_code
def yX9_layPlanks : MethodName := ⟨RX9, "layPlanks", "()V"⟩
abbrev cX9_longest : ByteArray := prog_11_method_33_code
def yX9_longest : MethodName := ⟨RX9, "longest", "(I)I"⟩
abbrev cX9_deck : ByteArray := prog_11_method_34_code
def yX9_deck : MethodName := ⟨RX9, "deck", "()I"⟩
abbrev cX9_digit : ByteArray := prog_11_method_35_code
def yX9_digit : MethodName := ⟨RX9, "digit", "(II)I"⟩
abbrev cX9_sameBy : ByteArray := prog_11_method_36_code
def yX9_sameBy : MethodName := ⟨RX9, "sameBy", "(III)I"⟩
abbrev cX9_same : ByteArray := prog_11_method_37_code
def yX9_same : MethodName := ⟨RX9, "same", "(III)I"⟩
abbrev cX9_lie : ByteArray := prog_11_method_38_code
def yX9_lie : MethodName := ⟨RX9, "lie", "(III)I"⟩
abbrev cX9_mayWed : ByteArray := prog_11_method_39_code
def yX9_mayWed : MethodName := ⟨RX9, "mayWed", "(II)Z"⟩
abbrev cX9_layTwos : ByteArray := prog_11_method_40_code
def yX9_layTwos : MethodName := ⟨RX9, "layTwos", "()V"⟩
abbrev cX9_match : ByteArray := prog_11_method_41_code
def yX9_match : MethodName := ⟨RX9, "match", "(I)I"⟩
abbrev cX9_heard : ByteArray := prog_11_method_42_code
def yX9_heard : MethodName := ⟨RX9, "heard", "(IIZ)I"⟩
abbrev cX9_forget : ByteArray := prog_11_method_43_code
def yX9_forget : MethodName := ⟨RX9, "forget", "()I"⟩
abbrev cX9_wheelSet : ByteArray := prog_11_method_44_code
def yX9_wheelSet : MethodName := ⟨RX9, "wheelSet", "()I"⟩
abbrev cX9_wheel : ByteArray := prog_11_method_45_code
def yX9_wheel : MethodName := ⟨RX9, "wheel", "()I"⟩
abbrev cX9_ask : ByteArray := prog_11_method_46_code
def yX9_ask : MethodName := ⟨RX9, "ask", "(I)I"⟩
abbrev cX9_saw : ByteArray := prog_11_method_47_code
def yX9_saw : MethodName := ⟨RX9, "saw", "(II)I"⟩
abbrev cX9_power : ByteArray := prog_11_method_48_code
def yX9_power : MethodName := ⟨RX9, "power", "(JI)J"⟩
abbrev cX9_soon : ByteArray := prog_11_method_49_code
def yX9_soon : MethodName := ⟨RX9, "soon", "(IIII)J"⟩
abbrev cX9_book : ByteArray := prog_11_method_50_code
def yX9_book : MethodName := ⟨RX9, "book", "(III)I"⟩
abbrev cX9_image : ByteArray := prog_11_method_51_code
def yX9_image : MethodName := ⟨RX9, "image", "(I)I"⟩
abbrev cX9_restore : ByteArray := prog_11_method_52_code
def yX9_restore : MethodName := ⟨RX9, "restore", "(I)I"⟩
abbrev cX9_told : ByteArray := prog_11_method_53_code
def yX9_told : MethodName := ⟨RX9, "told", "(I)I"⟩
def RJ6 : String := "java/lang/Integer"
def TJ6 : u_T := fun k => match k with
  | _ => ("", "", "", false)
def tyJ6 : Nat → FieldType := fun k => match k with
  | _ => .int
abbrev wsJ60 : List Cond := u_ws RJ6 TJ6 0
theorem nmJ6 : ∀ a, a < 0 → ∀ b, b < 0 → a ≠ b → (TJ6 a).2.1 ≠ (TJ6 b).2.1 := by decide +kernel
theorem tyJ6_ok : ∀ k, k < 0 → parseFieldDescriptor (TJ6 k).2.2.1 = some (tyJ6 k) := by decide +kernel
abbrev cJ6_bitCount_0f7a4 : ByteArray := prog_12_method_49_code
def yJ6_bitCount_0f7a4 : MethodName := ⟨RJ6, "bitCount", "(I)I"⟩
def RJ9 : String := "java/lang/Math"
def TJ9 : u_T := fun k => match k with
  | _ => ("", "", "", false)
def tyJ9 : Nat → FieldType := fun k => match k with
  | _ => .int
abbrev wsJ90 : List Cond := u_ws RJ9 TJ9 0
theorem nmJ9 : ∀ a, a < 0 → ∀ b, b < 0 → a ≠ b → (TJ9 a).2.1 ≠ (TJ9 b).2.1 := by decide +kernel
theorem tyJ9_ok : ∀ k, k < 0 → parseFieldDescriptor (TJ9 k).2.2.1 = some (tyJ9 k) := by decide +kernel
abbrev cJ9_abs_0f7a4 : ByteArray := prog_13_method_59_code
def yJ9_abs_0f7a4 : MethodName := ⟨RJ9, "abs", "(I)I"⟩
abbrev cJ9_max_7cf53 : ByteArray := prog_13_method_65_code
def yJ9_max_7cf53 : MethodName := ⟨RJ9, "max", "(II)I"⟩
def RL : String := "DriftKinLaw"
abbrev cL_law : ByteArray := code
def yL_law : MethodName := ⟨RL, "law", "([I)Z"⟩
