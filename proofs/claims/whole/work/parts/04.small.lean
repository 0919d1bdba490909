theorem dX2_isPieceSign_0 : decode cX2_isPieceSign 0 = .ok (.iload_n 0, 1) := by decide +kernel
theorem dX2_isPieceSign_1 : decode cX2_isPieceSign 1 = .ok (.bipush 48, 2) := by decide +kernel
theorem dX2_isPieceSign_3 : decode cX2_isPieceSign 3 = .ok (.isub, 1) := by decide +kernel
theorem dX2_isPieceSign_4 : decode cX2_isPieceSign 4 = .ok (.invokestatic 34, 3) := by decide +kernel
theorem dX2_isPieceSign_7 : decode cX2_isPieceSign 7 = .ok (.ireturn, 1) := by decide +kernel
def wtX2_isPieceSign : List Cond := .code yX2_isPieceSign cX2_isPieceSign 1 (some .boolean) :: (([.static yX8_isPiece, .initialized RX8]) ++ ((wtX8_isPiece) ++ []))
theorem imX2_isPieceSign_own : ∀ w ∈ ([.static yX8_isPiece, .initialized RX8] : List Cond), w ∈ wtX2_isPieceSign := fun w h => List.mem_cons_of_mem _ (inl h)
theorem imX2_isPieceSign_c_X8_isPiece : ∀ w ∈ (wtX8_isPiece : List Cond), w ∈ wtX2_isPieceSign := fun w h => List.mem_cons_of_mem _ (inr (inl h))
theorem gdX2_isPieceSign : ∀ w ∈ wtX2_isPieceSign, Gd w := gdc rfl (gda (gdl (by decide +kernel)) (gda gdX8_isPiece gdn))
theorem gcX2_isPieceSign_X8_isPiece : GoodIn wtX2_isPieceSign (wtX8_isPiece) := fun w h => ⟨imX2_isPieceSign_c_X8_isPiece w h, gdX8_isPiece w h⟩
def fX2_isPieceSign (x0 : Int32) : Option (Int32) :=
  (fX8_isPiece (x0 - (48 : Int32))).bind (fun r1 =>
    (bz r1).bind (fun r2 =>
      some r2))
def wdX2_isPieceSign (cI cZ : ClassId)    : va_W := []
abbrev rmX2_isPieceSign : Jvm.Room := { frames := 2, cells := 0, slots := 0, locals := 42 }
theorem hyX2_isPieceSign : yX2_isPieceSign.cls ≠ "java/lang/invoke/MethodHandle" ∧ yX2_isPieceSign.cls ≠ "java/lang/invoke/VarHandle" ∧ (parseMethodDescriptor yX2_isPieceSign.desc).map (fun d => d.parameters.length) = some 1 := by decide +kernel
set_option maxHeartbeats 4000000 in
set_option maxRecDepth 100000 in
theorem mX2_isPieceSign (l : Launch) (D : va_G) (cI cZ : ClassId) (x0 : Int32) (z : Int32) (hF : fX2_isPieceSign x0 = some z) : mp l yX2_isPieceSign wtX2_isPieceSign rmX2_isPieceSign D cI cZ [.int x0] (wdX2_isPieceSign cI cZ ) (some (.int z)) (wdX2_isPieceSign cI cZ ) := by
  refine mp_z (lv0 := [(0, .int x0)]) cX2_isPieceSign 1 z (by decide) rfl (Nat.le_of_ble_eq_true rfl) rfl (fun E h hend0 => ?_)
  have hend : ∀ (z' : Int32), some z' = some z → ∀ (pc : Nat) (lv : List (Nat × Value)), z' = z' &&& 1 → decode cX2_isPieceSign pc = .ok (.ireturn, 1) → G l D E 1 0 0 (wdX2_isPieceSign cI cZ ) pc lv [.int z'] := fun z' e => by cases e; exact hend0
  clear hend0
  unfold fX2_isPieceSign at hF
  refine g_iload_n (np := 1) h 0 rfl rfl dX2_isPieceSign_0 rfl ?_
  refine g_bipush (np := 3) (v := (48 : Int32)) h (by decide) dX2_isPieceSign_1 rfl ?_
  refine g_isub (np := 4) h dX2_isPieceSign_3 rfl ?_
  obtain ⟨r1, hr1, hF⟩ := Option.bind_eq_some_iff.mp hF
  refine g_callN (np := 7) (Wd' := (wdX2_isPieceSign cI cZ )) (As := [.int (x0 - (48 : Int32))]) h (mX8_isPiece l D cI cZ (x0 - (48 : Int32)) r1 hr1) gcX2_isPieceSign_X8_isPiece rfl ⟨rfl, rfl⟩ (List.mem_of_getElem? (i := 11) rfl) (imX2_isPieceSign_own _ (List.mem_of_getElem? (i := 1) rfl)) (imX2_isPieceSign_own _ (List.mem_of_getElem? (i := 0) rfl)) hyX8_isPiece rfl rfl rfl rfl ⟨Nat.zero_le _, Nat.zero_le _⟩ [] [] (N := 0) (by decide +kernel) rfl rfl rfl rfl rfl dX2_isPieceSign_4 rfl ?_
  obtain ⟨r2, hr2, hF⟩ := Option.bind_eq_some_iff.mp hF
  obtain ⟨hbr2, her2⟩ := bz_e hr2
  subst her2
  exact hend _ hF _ _ hbr2 dX2_isPieceSign_7
theorem dX2_isHouseSign_0 : decode cX2_isHouseSign 0 = .ok (.iload_n 0, 1) := by decide +kernel
theorem dX2_isHouseSign_1 : decode cX2_isHouseSign 1 = .ok (.bipush 65, 2) := by decide +kernel
theorem dX2_isHouseSign_3 : decode cX2_isHouseSign 3 = .ok (.isub, 1) := by decide +kernel
theorem dX2_isHouseSign_4 : decode cX2_isHouseSign 4 = .ok (.invokestatic 37, 3) := by decide +kernel
theorem dX2_isHouseSign_7 : decode cX2_isHouseSign 7 = .ok (.ireturn, 1) := by decide +kernel
def wtX2_isHouseSign : List Cond := .code yX2_isHouseSign cX2_isHouseSign 1 (some .boolean) :: (([.static yX8_isHouse, .initialized RX8]) ++ ((wtX8_isHouse) ++ []))
theorem imX2_isHouseSign_own : ∀ w ∈ ([.static yX8_isHouse, .initialized RX8] : List Cond), w ∈ wtX2_isHouseSign := fun w h => List.mem_cons_of_mem _ (inl h)
theorem imX2_isHouseSign_c_X8_isHouse : ∀ w ∈ (wtX8_isHouse : List Cond), w ∈ wtX2_isHouseSign := fun w h => List.mem_cons_of_mem _ (inr (inl h))
theorem gdX2_isHouseSign : ∀ w ∈ wtX2_isHouseSign, Gd w := gdc rfl (gda (gdl (by decide +kernel)) (gda gdX8_isHouse gdn))
theorem gcX2_isHouseSign_X8_isHouse : GoodIn wtX2_isHouseSign (wtX8_isHouse) := fun w h => ⟨imX2_isHouseSign_c_X8_isHouse w h, gdX8_isHouse w h⟩
def fX2_isHouseSign (x0 : Int32) : Option (Int32) :=
  (fX8_isHouse (x0 - (65 : Int32))).bind (fun r1 =>
    (bz r1).bind (fun r2 =>
      some r2))
def wdX2_isHouseSign (cI cZ : ClassId)    : va_W := []
abbrev rmX2_isHouseSign : Jvm.Room := { frames := 2, cells := 0, slots := 0, locals := 42 }
theorem hyX2_isHouseSign : yX2_isHouseSign.cls ≠ "java/lang/invoke/MethodHandle" ∧ yX2_isHouseSign.cls ≠ "java/lang/invoke/VarHandle" ∧ (parseMethodDescriptor yX2_isHouseSign.desc).map (fun d => d.parameters.length) = some 1 := by decide +kernel
set_option maxHeartbeats 4000000 in
set_option maxRecDepth 100000 in
theorem mX2_isHouseSign (l : Launch) (D : va_G) (cI cZ : ClassId) (x0 : Int32) (z : Int32) (hF : fX2_isHouseSign x0 = some z) : mp l yX2_isHouseSign wtX2_isHouseSign rmX2_isHouseSign D cI cZ [.int x0] (wdX2_isHouseSign cI cZ ) (some (.int z)) (wdX2_isHouseSign cI cZ ) := by
  refine mp_z (lv0 := [(0, .int x0)]) cX2_isHouseSign 1 z (by decide) rfl (Nat.le_of_ble_eq_true rfl) rfl (fun E h hend0 => ?_)
  have hend : ∀ (z' : Int32), some z' = some z → ∀ (pc : Nat) (lv : List (Nat × Value)), z' = z' &&& 1 → decode cX2_isHouseSign pc = .ok (.ireturn, 1) → G l D E 1 0 0 (wdX2_isHouseSign cI cZ ) pc lv [.int z'] := fun z' e => by cases e; exact hend0
  clear hend0
  unfold fX2_isHouseSign at hF
  refine g_iload_n (np := 1) h 0 rfl rfl dX2_isHouseSign_0 rfl ?_
  refine g_bipush (np := 3) (v := (65 : Int32)) h (by decide) dX2_isHouseSign_1 rfl ?_
  refine g_isub (np := 4) h dX2_isHouseSign_3 rfl ?_
  obtain ⟨r1, hr1, hF⟩ := Option.bind_eq_some_iff.mp hF
  refine g_callN (np := 7) (Wd' := (wdX2_isHouseSign cI cZ )) (As := [.int (x0 - (65 : Int32))]) h (mX8_isHouse l D cI cZ (x0 - (65 : Int32)) r1 hr1) gcX2_isHouseSign_X8_isHouse rfl ⟨rfl, rfl⟩ (List.mem_of_getElem? (i := 10) rfl) (imX2_isHouseSign_own _ (List.mem_of_getElem? (i := 1) rfl)) (imX2_isHouseSign_own _ (List.mem_of_getElem? (i := 0) rfl)) hyX8_isHouse rfl rfl rfl rfl ⟨Nat.zero_le _, Nat.zero_le _⟩ [] [] (N := 0) (by decide +kernel) rfl rfl rfl rfl rfl dX2_isHouseSign_4 rfl ?_
  obtain ⟨r2, hr2, hF⟩ := Option.bind_eq_some_iff.mp hF
  obtain ⟨hbr2, her2⟩ := bz_e hr2
  subst her2
  exact hend _ hF _ _ hbr2 dX2_isHouseSign_7
theorem dX2_dueAfter_0 : decode cX2_dueAfter 0 = .ok (.iload_n 0, 1) := by decide +kernel
theorem dX2_dueAfter_1 : decode cX2_dueAfter 1 = .ok (.ifCond .ne 31, 3) := by decide +kernel
theorem dX2_dueAfter_4 : decode cX2_dueAfter 4 = .ok (.iload_n 1, 1) := by decide +kernel
theorem dX2_dueAfter_5 : decode cX2_dueAfter 5 = .ok (.invokestatic 27, 3) := by decide +kernel
theorem dX2_dueAfter_8 : decode cX2_dueAfter 8 = .ok (.ifCond .eq 5, 3) := by decide +kernel
theorem dX2_dueAfter_11 : decode cX2_dueAfter 11 = .ok (.iconst 1, 1) := by decide +kernel
theorem dX2_dueAfter_12 : decode cX2_dueAfter 12 = .ok (.ireturn, 1) := by decide +kernel
theorem dX2_dueAfter_13 : decode cX2_dueAfter 13 = .ok (.iload_n 1, 1) := by decide +kernel
theorem dX2_dueAfter_14 : decode cX2_dueAfter 14 = .ok (.invokestatic 31, 3) := by decide +kernel
theorem dX2_dueAfter_17 : decode cX2_dueAfter 17 = .ok (.ifCond .ne 9, 3) := by decide +kernel
theorem dX2_dueAfter_20 : decode cX2_dueAfter 20 = .ok (.iload_n 1, 1) := by decide +kernel
theorem dX2_dueAfter_21 : decode cX2_dueAfter 21 = .ok (.bipush 46, 2) := by decide +kernel
theorem dX2_dueAfter_23 : decode cX2_dueAfter 23 = .ok (.if_icmp .ne 7, 3) := by decide +kernel
theorem dX2_dueAfter_26 : decode cX2_dueAfter 26 = .ok (.iconst 0, 1) := by decide +kernel
theorem dX2_dueAfter_27 : decode cX2_dueAfter 27 = .ok (.goto 4, 3) := by decide +kernel
theorem dX2_dueAfter_30 : decode cX2_dueAfter 30 = .ok (.iconst 3, 1) := by decide +kernel
theorem dX2_dueAfter_31 : decode cX2_dueAfter 31 = .ok (.ireturn, 1) := by decide +kernel
theorem dX2_dueAfter_32 : decode cX2_dueAfter 32 = .ok (.iload_n 0, 1) := by decide +kernel
theorem dX2_dueAfter_33 : decode cX2_dueAfter 33 = .ok (.iconst 1, 1) := by decide +kernel
theorem dX2_dueAfter_34 : decode cX2_dueAfter 34 = .ok (.if_icmp .ne 36, 3) := by decide +kernel
theorem dX2_dueAfter_37 : decode cX2_dueAfter 37 = .ok (.iload_n 1, 1) := by decide +kernel
theorem dX2_dueAfter_38 : decode cX2_dueAfter 38 = .ok (.bipush 43, 2) := by decide +kernel
theorem dX2_dueAfter_40 : decode cX2_dueAfter 40 = .ok (.if_icmp .ne 5, 3) := by decide +kernel
theorem dX2_dueAfter_43 : decode cX2_dueAfter 43 = .ok (.iconst 2, 1) := by decide +kernel
theorem dX2_dueAfter_44 : decode cX2_dueAfter 44 = .ok (.ireturn, 1) := by decide +kernel
theorem dX2_dueAfter_45 : decode cX2_dueAfter 45 = .ok (.iload_n 1, 1) := by decide +kernel
theorem dX2_dueAfter_46 : decode cX2_dueAfter 46 = .ok (.invokestatic 31, 3) := by decide +kernel
theorem dX2_dueAfter_49 : decode cX2_dueAfter 49 = .ok (.ifCond .ne 15, 3) := by decide +kernel
theorem dX2_dueAfter_52 : decode cX2_dueAfter 52 = .ok (.iload_n 1, 1) := by decide +kernel
theorem dX2_dueAfter_53 : decode cX2_dueAfter 53 = .ok (.bipush 45, 2) := by decide +kernel
theorem dX2_dueAfter_55 : decode cX2_dueAfter 55 = .ok (.if_icmp .eq 9, 3) := by decide +kernel
theorem dX2_dueAfter_58 : decode cX2_dueAfter 58 = .ok (.iload_n 1, 1) := by decide +kernel
theorem dX2_dueAfter_59 : decode cX2_dueAfter 59 = .ok (.bipush 42, 2) := by decide +kernel
theorem dX2_dueAfter_61 : decode cX2_dueAfter 61 = .ok (.if_icmp .ne 7, 3) := by decide +kernel
theorem dX2_dueAfter_64 : decode cX2_dueAfter 64 = .ok (.iconst 0, 1) := by decide +kernel
theorem dX2_dueAfter_65 : decode cX2_dueAfter 65 = .ok (.goto 4, 3) := by decide +kernel
theorem dX2_dueAfter_68 : decode cX2_dueAfter 68 = .ok (.iconst 3, 1) := by decide +kernel
theorem dX2_dueAfter_69 : decode cX2_dueAfter 69 = .ok (.ireturn, 1) := by decide +kernel
theorem dX2_dueAfter_70 : decode cX2_dueAfter 70 = .ok (.iload_n 1, 1) := by decide +kernel
theorem dX2_dueAfter_71 : decode cX2_dueAfter 71 = .ok (.invokestatic 27, 3) := by decide +kernel
theorem dX2_dueAfter_74 : decode cX2_dueAfter 74 = .ok (.ifCond .eq 7, 3) := by decide +kernel
theorem dX2_dueAfter_77 : decode cX2_dueAfter 77 = .ok (.iconst 0, 1) := by decide +kernel
theorem dX2_dueAfter_78 : decode cX2_dueAfter 78 = .ok (.goto 4, 3) := by decide +kernel
theorem dX2_dueAfter_81 : decode cX2_dueAfter 81 = .ok (.iconst 3, 1) := by decide +kernel
theorem dX2_dueAfter_82 : decode cX2_dueAfter 82 = .ok (.ireturn, 1) := by decide +kernel
def wtX2_dueAfter : List Cond := .code yX2_dueAfter cX2_dueAfter 2 (some .int) :: (([]) ++ ((va_wsS RX2 27 yX2_isHouseSign wtX2_isHouseSign) ++ ((va_wsS RX2 31 yX2_isPieceSign wtX2_isPieceSign) ++ [])))
theorem imX2_dueAfter_own : ∀ w ∈ ([] : List Cond), w ∈ wtX2_dueAfter := fun w h => List.mem_cons_of_mem _ (inl h)
theorem imX2_dueAfter_c_X2_isHouseSign : ∀ w ∈ (va_wsS RX2 27 yX2_isHouseSign wtX2_isHouseSign : List Cond), w ∈ wtX2_dueAfter := fun w h => List.mem_cons_of_mem _ (inr (inl h))
theorem imX2_dueAfter_c_X2_isPieceSign : ∀ w ∈ (va_wsS RX2 31 yX2_isPieceSign wtX2_isPieceSign : List Cond), w ∈ wtX2_dueAfter := fun w h => List.mem_cons_of_mem _ (inr (inr (inl h)))
theorem gdX2_dueAfter : ∀ w ∈ wtX2_dueAfter, Gd w := gdc rfl (gda (gdl (by decide +kernel)) (gda (gda (gdl (by decide +kernel)) gdX2_isHouseSign) (gda (gda (gdl (by decide +kernel)) gdX2_isPieceSign) gdn)))
theorem gcX2_dueAfter_X2_isHouseSign : GoodIn wtX2_dueAfter (va_wsS RX2 27 yX2_isHouseSign wtX2_isHouseSign) := fun w h => ⟨imX2_dueAfter_c_X2_isHouseSign w h, (gda (gdl (by decide +kernel)) gdX2_isHouseSign) w h⟩
theorem gcX2_dueAfter_X2_isPieceSign : GoodIn wtX2_dueAfter (va_wsS RX2 31 yX2_isPieceSign wtX2_isPieceSign) := fun w h => ⟨imX2_dueAfter_c_X2_isPieceSign w h, (gda (gdl (by decide +kernel)) gdX2_isPieceSign) w h⟩
def fX2_dueAfter (x0 : Int32) (x1 : Int32) : Option (Int32) :=
  if x0 = (0 : Int32) then
    (fX2_isHouseSign x1).bind (fun r10 =>
      if r10 = (0 : Int32) then
        (fX2_isPieceSign x1).bind (fun r12 =>
          if r12 = (0 : Int32) then
            if x1 = (46 : Int32) then
              some (0 : Int32)
            else
              some (3 : Int32)
          else
            some (0 : Int32))
      else
        some (1 : Int32))
  else
    if x0 = (1 : Int32) then
      if x1 = (43 : Int32) then
        some (2 : Int32)
      else
        (fX2_isPieceSign x1).bind (fun r6 =>
          if r6 = (0 : Int32) then
            if x1 = (45 : Int32) then
              some (0 : Int32)
            else
              if x1 = (42 : Int32) then
                some (0 : Int32)
              else
                some (3 : Int32)
          else
            some (0 : Int32))
    else
      (fX2_isHouseSign x1).bind (fun r3 =>
        if r3 = (0 : Int32) then
          some (3 : Int32)
        else
          some (0 : Int32))
def wdX2_dueAfter (cI cZ : ClassId)    : va_W := []
abbrev rmX2_dueAfter : Jvm.Room := { frames := 3, cells := 0, slots := 0, locals := 62 }
theorem hyX2_dueAfter : yX2_dueAfter.cls ≠ "java/lang/invoke/MethodHandle" ∧ yX2_dueAfter.cls ≠ "java/lang/invoke/VarHandle" ∧ (parseMethodDescriptor yX2_dueAfter.desc).map (fun d => d.parameters.length) = some 2 := by decide +kernel
set_option maxHeartbeats 4000000 in
set_option maxRecDepth 100000 in
theorem mX2_dueAfter (l : Launch) (D : va_G) (cI cZ : ClassId) (x0 : Int32) (x1 : Int32) (z : Int32) (hF : fX2_dueAfter x0 x1 = some z) : mp l yX2_dueAfter wtX2_dueAfter rmX2_dueAfter D cI cZ [.int x0, .int x1] (wdX2_dueAfter cI cZ ) (some (.int z)) (wdX2_dueAfter cI cZ ) := by
  refine mp_i (lv0 := [(0, .int x0), (1, .int x1)]) cX2_dueAfter 2 z (by decide) rfl (Nat.le_of_ble_eq_true rfl) rfl (fun E h hend0 => ?_)
  have hend : ∀ (z' : Int32), some z' = some z → ∀ (pc : Nat) (lv : List (Nat × Value)), decode cX2_dueAfter pc = .ok (.ireturn, 1) → G l D E 2 0 0 (wdX2_dueAfter cI cZ ) pc lv [.int z'] := fun z' e => by cases e; exact hend0
  clear hend0
  unfold fX2_dueAfter at hF
  refine g_iload_n (np := 1) h 0 rfl rfl dX2_dueAfter_0 rfl ?_
  refine g_if_ne h hF dX2_dueAfter_1 (np := 4) rfl (tg := 32) rfl (fun c1 hF => ?_) (fun c1 hF => ?_)
  · refine g_iload_n (np := 33) h 0 rfl rfl dX2_dueAfter_32 rfl ?_
    refine g_iconst (np := 34) (v := (1 : Int32)) h (by decide) dX2_dueAfter_33 rfl ?_
    refine g_icmp_ne h hF dX2_dueAfter_34 (np := 37) rfl (tg := 70) rfl (fun c2 hF => ?_) (fun c2 hF => ?_)
    · refine g_iload_n (np := 71) h 1 rfl rfl dX2_dueAfter_70 rfl ?_
      obtain ⟨r3, hr3, hF⟩ := Option.bind_eq_some_iff.mp hF
      refine g_callS (np := 74) (Wd' := (wdX2_dueAfter cI cZ )) (As := [.int x1]) h (mX2_isHouseSign l D cI cZ x1 r3 hr3) gcX2_dueAfter_X2_isHouseSign rfl ⟨rfl, rfl⟩ hyX2_isHouseSign rfl rfl rfl rfl ⟨Nat.zero_le _, Nat.zero_le _⟩ [] [] (N := 0) (by decide +kernel) rfl rfl rfl rfl rfl dX2_dueAfter_71 rfl ?_
      refine g_if_eq h hF dX2_dueAfter_74 (np := 77) rfl (tg := 81) rfl (fun c4 hF => ?_) (fun c4 hF => ?_)
      · refine g_iconst (np := 82) (v := (3 : Int32)) h (by decide) dX2_dueAfter_81 rfl ?_
        exact hend _ hF _ _ dX2_dueAfter_82
      · refine g_iconst (np := 78) (v := (0 : Int32)) h (by decide) dX2_dueAfter_77 rfl ?_
        refine g_goto h dX2_dueAfter_78 (np := 82) rfl ?_
        exact hend _ hF _ _ dX2_dueAfter_82
    · refine g_iload_n (np := 38) h 1 rfl rfl dX2_dueAfter_37 rfl ?_
      refine g_bipush (np := 40) (v := (43 : Int32)) h (by decide) dX2_dueAfter_38 rfl ?_
      refine g_icmp_ne h hF dX2_dueAfter_40 (np := 43) rfl (tg := 45) rfl (fun c5 hF => ?_) (fun c5 hF => ?_)
      · refine g_iload_n (np := 46) h 1 rfl rfl dX2_dueAfter_45 rfl ?_
        obtain ⟨r6, hr6, hF⟩ := Option.bind_eq_some_iff.mp hF
        refine g_callS (np := 49) (Wd' := (wdX2_dueAfter cI cZ )) (As := [.int x1]) h (mX2_isPieceSign l D cI cZ x1 r6 hr6) gcX2_dueAfter_X2_isPieceSign rfl ⟨rfl, rfl⟩ hyX2_isPieceSign rfl rfl rfl rfl ⟨Nat.zero_le _, Nat.zero_le _⟩ [] [] (N := 0) (by decide +kernel) rfl rfl rfl rfl rfl dX2_dueAfter_46 rfl ?_
        refine g_if_ne h hF dX2_dueAfter_49 (np := 52) rfl (tg := 64) rfl (fun c7 hF => ?_) (fun c7 hF => ?_)
        · refine g_iconst (np := 65) (v := (0 : Int32)) h (by decide) dX2_dueAfter_64 rfl ?_
          refine g_goto h dX2_dueAfter_65 (np := 69) rfl ?_
          exact hend _ hF _ _ dX2_dueAfter_69
        · refine g_iload_n (np := 53) h 1 rfl rfl dX2_dueAfter_52 rfl ?_
          refine g_bipush (np := 55) (v := (45 : Int32)) h (by decide) dX2_dueAfter_53 rfl ?_
          refine g_icmp_eq h hF dX2_dueAfter_55 (np := 58) rfl (tg := 64) rfl (fun c8 hF => ?_) (fun c8 hF => ?_)
          · refine g_iconst (np := 65) (v := (0 : Int32)) h (by decide) dX2_dueAfter_64 rfl ?_
            refine g_goto h dX2_dueAfter_65 (np := 69) rfl ?_
            exact hend _ hF _ _ dX2_dueAfter_69
          · refine g_iload_n (np := 59) h 1 rfl rfl dX2_dueAfter_58 rfl ?_
            refine g_bipush (np := 61) (v := (42 : Int32)) h (by decide) dX2_dueAfter_59 rfl ?_
            refine g_icmp_ne h hF dX2_dueAfter_61 (np := 64) rfl (tg := 68) rfl (fun c9 hF => ?_) (fun c9 hF => ?_)
            · refine g_iconst (np := 69) (v := (3 : Int32)) h (by decide) dX2_dueAfter_68 rfl ?_
              exact hend _ hF _ _ dX2_dueAfter_69
            · refine g_iconst (np := 65) (v := (0 : Int32)) h (by decide) dX2_dueAfter_64 rfl ?_
              refine g_goto h dX2_dueAfter_65 (np := 69) rfl ?_
              exact hend _ hF _ _ dX2_dueAfter_69
      · refine g_iconst (np := 44) (v := (2 : Int32)) h (by decide) dX2_dueAfter_43 rfl ?_
        exact hend _ hF _ _ dX2_dueAfter_44
  · refine g_iload_n (np := 5) h 1 rfl rfl dX2_dueAfter_4 rfl ?_
    obtain ⟨r10, hr10, hF⟩ := Option.bind_eq_some_iff.mp hF
    refine g_callS (np := 8) (Wd' := (wdX2_dueAfter cI cZ )) (As := [.int x1]) h (mX2_isHouseSign l D cI cZ x1 r10 hr10) gcX2_dueAfter_X2_isHouseSign rfl ⟨rfl, rfl⟩ hyX2_isHouseSign rfl rfl rfl rfl ⟨Nat.zero_le _, Nat.zero_le _⟩ [] [] (N := 0) (by decide +kernel) rfl rfl rfl rfl rfl dX2_dueAfter_5 rfl ?_
    refine g_if_eq h hF dX2_dueAfter_8 (np := 11) rfl (tg := 13) rfl (fun c11 hF => ?_) (fun c11 hF => ?_)
    · refine g_iload_n (np := 14) h 1 rfl rfl dX2_dueAfter_13 rfl ?_
      obtain ⟨r12, hr12, hF⟩ := Option.bind_eq_some_iff.mp hF
      refine g_callS (np := 17) (Wd' := (wdX2_dueAfter cI cZ )) (As := [.int x1]) h (mX2_isPieceSign l D cI cZ x1 r12 hr12) gcX2_dueAfter_X2_isPieceSign rfl ⟨rfl, rfl⟩ hyX2_isPieceSign rfl rfl rfl rfl ⟨Nat.zero_le _, Nat.zero_le _⟩ [] [] (N := 0) (by decide +kernel) rfl rfl rfl rfl rfl dX2_dueAfter_14 rfl ?_
      refine g_if_ne h hF dX2_dueAfter_17 (np := 20) rfl (tg := 26) rfl (fun c13 hF => ?_) (fun c13 hF => ?_)
      · refine g_iconst (np := 27) (v := (0 : Int32)) h (by decide) dX2_dueAfter_26 rfl ?_
        refine g_goto h dX2_dueAfter_27 (np := 31) rfl ?_
        exact hend _ hF _ _ dX2_dueAfter_31
      · refine g_iload_n (np := 21) h 1 rfl rfl dX2_dueAfter_20 rfl ?_
        refine g_bipush (np := 23) (v := (46 : Int32)) h (by decide) dX2_dueAfter_21 rfl ?_
        refine g_icmp_ne h hF dX2_dueAfter_23 (np := 26) rfl (tg := 30) rfl (fun c14 hF => ?_) (fun c14 hF => ?_)
        · refine g_iconst (np := 31) (v := (3 : Int32)) h (by decide) dX2_dueAfter_30 rfl ?_
          exact hend _ hF _ _ dX2_dueAfter_31
        · refine g_iconst (np := 27) (v := (0 : Int32)) h (by decide) dX2_dueAfter_26 rfl ?_
          refine g_goto h dX2_dueAfter_27 (np := 31) rfl ?_
          exact hend _ hF _ _ dX2_dueAfter_31
    · refine g_iconst (np := 12) (v := (1 : Int32)) h (by decide) dX2_dueAfter_11 rfl ?_
      exact hend _ hF _ _ dX2_dueAfter_12
theorem dX2_firstWrong_0 : decode cX2_firstWrong 0 = .ok (.iconst 0, 1) := by decide +kernel
theorem dX2_firstWrong_1 : decode cX2_firstWrong 1 = .ok (.istore_n 1, 1) := by decide +kernel
theorem dX2_firstWrong_2 : decode cX2_firstWrong 2 = .ok (.iconst 0, 1) := by decide +kernel
theorem dX2_firstWrong_3 : decode cX2_firstWrong 3 = .ok (.istore_n 2, 1) := by decide +kernel
theorem dX2_firstWrong_4 : decode cX2_firstWrong 4 = .ok (.iload_n 2, 1) := by decide +kernel
theorem dX2_firstWrong_5 : decode cX2_firstWrong 5 = .ok (.aload_n 0, 1) := by decide +kernel
theorem dX2_firstWrong_6 : decode cX2_firstWrong 6 = .ok (.getfield 15, 3) := by decide +kernel
theorem dX2_firstWrong_9 : decode cX2_firstWrong 9 = .ok (.if_icmp .ge 29, 3) := by decide +kernel
theorem dX2_firstWrong_12 : decode cX2_firstWrong 12 = .ok (.iload_n 1, 1) := by decide +kernel
theorem dX2_firstWrong_13 : decode cX2_firstWrong 13 = .ok (.aload_n 0, 1) := by decide +kernel
theorem dX2_firstWrong_14 : decode cX2_firstWrong 14 = .ok (.getfield 9, 3) := by decide +kernel
theorem dX2_firstWrong_17 : decode cX2_firstWrong 17 = .ok (.iload_n 2, 1) := by decide +kernel
theorem dX2_firstWrong_18 : decode cX2_firstWrong 18 = .ok (.invokestatic 19, 3) := by decide +kernel
theorem dX2_firstWrong_21 : decode cX2_firstWrong 21 = .ok (.invokestatic 23, 3) := by decide +kernel
theorem dX2_firstWrong_24 : decode cX2_firstWrong 24 = .ok (.istore_n 1, 1) := by decide +kernel
theorem dX2_firstWrong_25 : decode cX2_firstWrong 25 = .ok (.iload_n 1, 1) := by decide +kernel
theorem dX2_firstWrong_26 : decode cX2_firstWrong 26 = .ok (.iconst 3, 1) := by decide +kernel
theorem dX2_firstWrong_27 : decode cX2_firstWrong 27 = .ok (.if_icmp .ne 5, 3) := by decide +kernel
theorem dX2_firstWrong_30 : decode cX2_firstWrong 30 = .ok (.iload_n 2, 1) := by decide +kernel
theorem dX2_firstWrong_31 : decode cX2_firstWrong 31 = .ok (.ireturn, 1) := by decide +kernel
theorem dX2_firstWrong_32 : decode cX2_firstWrong 32 = .ok (.iinc 2 1, 3) := by decide +kernel
theorem dX2_firstWrong_35 : decode cX2_firstWrong 35 = .ok (.goto (-31), 3) := by decide +kernel
theorem dX2_firstWrong_38 : decode cX2_firstWrong 38 = .ok (.iload_n 1, 1) := by decide +kernel
theorem dX2_firstWrong_39 : decode cX2_firstWrong 39 = .ok (.ifCond .ne 8, 3) := by decide +kernel
theorem dX2_firstWrong_42 : decode cX2_firstWrong 42 = .ok (.bipush (-6), 2) := by decide +kernel
theorem dX2_firstWrong_44 : decode cX2_firstWrong 44 = .ok (.goto 7, 3) := by decide +kernel
theorem dX2_firstWrong_47 : decode cX2_firstWrong 47 = .ok (.aload_n 0, 1) := by decide +kernel
theorem dX2_firstWrong_48 : decode cX2_firstWrong 48 = .ok (.getfield 15, 3) := by decide +kernel
theorem dX2_firstWrong_51 : decode cX2_firstWrong 51 = .ok (.ireturn, 1) := by decide +kernel
def wtX2_firstWrong : List Cond := .code yX2_firstWrong cX2_firstWrong 3 (some .int) :: (([.fieldLink RX2 15 "DriftKin$Pad" "count" "I", .fieldLink RX2 9 "DriftKin$Pad" "signs" "[I", .static yX8_at, .initialized RX8]) ++ ((u_ws RX2 TX2 2) ++ ((wtX8_at) ++ ((va_wsS RX2 23 yX2_dueAfter wtX2_dueAfter) ++ []))))
theorem imX2_firstWrong_own : ∀ w ∈ ([.fieldLink RX2 15 "DriftKin$Pad" "count" "I", .fieldLink RX2 9 "DriftKin$Pad" "signs" "[I", .static yX8_at, .initialized RX8] : List Cond), w ∈ wtX2_firstWrong := fun w h => List.mem_cons_of_mem _ (inl h)
theorem imX2_firstWrong_u_X2 : ∀ w ∈ (u_ws RX2 TX2 2 : List Cond), w ∈ wtX2_firstWrong := fun w h => List.mem_cons_of_mem _ (inr (inl h))
theorem imX2_firstWrong_c_X8_at : ∀ w ∈ (wtX8_at : List Cond), w ∈ wtX2_firstWrong := fun w h => List.mem_cons_of_mem _ (inr (inr (inl h)))
theorem imX2_firstWrong_c_X2_dueAfter : ∀ w ∈ (va_wsS RX2 23 yX2_dueAfter wtX2_dueAfter : List Cond), w ∈ wtX2_firstWrong := fun w h => List.mem_cons_of_mem _ (inr (inr (inr (inl h))))
theorem gdX2_firstWrong : ∀ w ∈ wtX2_firstWrong, Gd w := gdc rfl (gda (gdl (by decide +kernel)) (gda (gdu _ _ _) (gda gdX8_at (gda (gda (gdl (by decide +kernel)) gdX2_dueAfter) gdn))))
theorem gcX2_firstWrong_X8_at : GoodIn wtX2_firstWrong (wtX8_at) := fun w h => ⟨imX2_firstWrong_c_X8_at w h, gdX8_at w h⟩
theorem gcX2_firstWrong_X2_dueAfter : GoodIn wtX2_firstWrong (va_wsS RX2 23 yX2_dueAfter wtX2_dueAfter) := fun w h => ⟨imX2_firstWrong_c_X2_dueAfter w h, (gda (gdl (by decide +kernel)) gdX2_dueAfter) w h⟩
def fX2_firstWrong_4 (v_count : Int32) (v_signs : Nat → Int32) : Nat → Int32 → Int32 → Option (Int32)
  | 0, _, _ => none
  | n + 1, x1, x2 =>
    if v_count ≤ x2 then
      if x1 = (0 : Int32) then
        some (-6 : Int32)
      else
        some v_count
    else
      (fX8_at 60 v_signs x2).bind (fun r1003 =>
        (fX2_dueAfter x1 r1003).bind (fun r1004 =>
          if r1004 = (3 : Int32) then
            some x2
          else
            fX2_firstWrong_4 v_count v_signs n r1004 (x2 + (1 : Int32))))
def fX2_firstWrong (v_count : Int32) (v_signs : Nat → Int32) : Option (Int32) :=
  fX2_firstWrong_4 v_count v_signs 2000 (0 : Int32) (0 : Int32)
def wdX2_firstWrong (cI cZ : ClassId) (q0 : Nat) (q1 : Nat)  (v_count : Int32) (v_signs : Nat → Int32) : va_W := [(q0, .inr (2, [.ref q1, .int v_count])), (q1, .inl (cI, 60, .inl v_signs))]
abbrev rmX2_firstWrong : Jvm.Room := { frames := 4, cells := 0, slots := 0, locals := 83 }
theorem hyX2_firstWrong : yX2_firstWrong.cls ≠ "java/lang/invoke/MethodHandle" ∧ yX2_firstWrong.cls ≠ "java/lang/invoke/VarHandle" ∧ (parseMethodDescriptor yX2_firstWrong.desc).map (fun d => d.parameters.length) = some 0 := by decide +kernel
set_option maxHeartbeats 4000000 in
set_option maxRecDepth 100000 in
theorem mX2_firstWrong (l : Launch) (D : va_G) (cI cZ : ClassId) (q0 : Nat) (q1 : Nat) (v_count : Int32) (v_signs : Nat → Int32) (z : Int32) (hF : fX2_firstWrong v_count v_signs = some z) : mp l yX2_firstWrong wtX2_firstWrong rmX2_firstWrong D cI cZ [.ref q0] (wdX2_firstWrong cI cZ q0 q1 v_count v_signs) (some (.int z)) (wdX2_firstWrong cI cZ q0 q1 v_count v_signs) := by
  refine mp_i (lv0 := [(0, .ref q0)]) cX2_firstWrong 3 z (by decide) rfl (Nat.le_of_ble_eq_true rfl) rfl (fun E h hend0 => ?_)
  have hend : ∀ (z' : Int32), some z' = some z → ∀ (pc : Nat) (lv : List (Nat × Value)), decode cX2_firstWrong pc = .ok (.ireturn, 1) → G l D E 3 0 0 (wdX2_firstWrong cI cZ q0 q1 v_count v_signs) pc lv [.int z'] := fun z' e => by cases e; exact hend0
  clear hend0
  have hL4 : ∀ (n4 : Nat) (x1 : Int32) (x2 : Int32), fX2_firstWrong_4 v_count v_signs n4 x1 x2 = some z → G l D E 3 0 0 (wdX2_firstWrong cI cZ q0 q1 v_count v_signs) 4 [(0, .ref q0), (1, .int x1), (2, .int x2)] [] := by
    intro n4
    induction n4 with
    | zero =>
      intro x1 x2 hF
      rw [fX2_firstWrong_4] at hF
      cases hF
    | succ n4 ih4 =>
      intro x1 x2 hF
      rw [fX2_firstWrong_4] at hF
      refine g_iload_n (np := 5) h 2 rfl rfl dX2_firstWrong_4 rfl ?_
      refine g_aload_n (np := 6) h 0 rfl rfl dX2_firstWrong_5 rfl ?_
      refine g_get (np := 9) (T := TX2) h imX2_firstWrong_u_X2 0 2 rfl rfl 1 (by decide) (imX2_firstWrong_own _ (List.mem_of_getElem? (i := 0) rfl)) rfl dX2_firstWrong_6 rfl ?_
      refine g_icmp_ge h hF dX2_firstWrong_9 (np := 12) rfl (tg := 38) rfl (fun c1001 hF => ?_) (fun c1001 hF => ?_)
      · refine g_iload_n (np := 39) h 1 rfl rfl dX2_firstWrong_38 rfl ?_
        refine g_if_ne h hF dX2_firstWrong_39 (np := 42) rfl (tg := 47) rfl (fun c1002 hF => ?_) (fun c1002 hF => ?_)
        · refine g_aload_n (np := 48) h 0 rfl rfl dX2_firstWrong_47 rfl ?_
          refine g_get (np := 51) (T := TX2) h imX2_firstWrong_u_X2 0 2 rfl rfl 1 (by decide) (imX2_firstWrong_own _ (List.mem_of_getElem? (i := 0) rfl)) rfl dX2_firstWrong_48 rfl ?_
          exact hend _ hF _ _ dX2_firstWrong_51
        · refine g_bipush (np := 44) (v := (-6 : Int32)) h (by decide) dX2_firstWrong_42 rfl ?_
          refine g_goto h dX2_firstWrong_44 (np := 51) rfl ?_
          exact hend _ hF _ _ dX2_firstWrong_51
      · refine g_iload_n (np := 13) h 1 rfl rfl dX2_firstWrong_12 rfl ?_
        refine g_aload_n (np := 14) h 0 rfl rfl dX2_firstWrong_13 rfl ?_
        refine g_get (np := 17) (T := TX2) h imX2_firstWrong_u_X2 0 2 rfl rfl 0 (by decide) (imX2_firstWrong_own _ (List.mem_of_getElem? (i := 1) rfl)) rfl dX2_firstWrong_14 rfl ?_
        refine g_iload_n (np := 18) h 2 rfl rfl dX2_firstWrong_17 rfl ?_
        obtain ⟨r1003, hr1003, hF⟩ := Option.bind_eq_some_iff.mp hF
        refine g_callN (np := 21) (Wd' := (wdX2_firstWrong cI cZ q0 q1 v_count v_signs)) (As := [.ref q1, .int x2]) h (mX8_at l D cI cZ q1 60 v_signs x2 r1003 hr1003) gcX2_firstWrong_X8_at rfl ⟨rfl, rfl⟩ (List.mem_of_getElem? (i := 9) rfl) (imX2_firstWrong_own _ (List.mem_of_getElem? (i := 3) rfl)) (imX2_firstWrong_own _ (List.mem_of_getElem? (i := 2) rfl)) hyX8_at rfl rfl rfl rfl ⟨Nat.zero_le _, Nat.zero_le _⟩ [1] [0] (N := 2) (by decide +kernel) rfl rfl rfl rfl rfl dX2_firstWrong_18 rfl ?_
        obtain ⟨r1004, hr1004, hF⟩ := Option.bind_eq_some_iff.mp hF
        refine g_callS (np := 24) (Wd' := (wdX2_firstWrong cI cZ q0 q1 v_count v_signs)) (As := [.int x1, .int r1003]) h (mX2_dueAfter l D cI cZ x1 r1003 r1004 hr1004) gcX2_firstWrong_X2_dueAfter rfl ⟨rfl, rfl⟩ hyX2_dueAfter rfl rfl rfl rfl ⟨Nat.zero_le _, Nat.zero_le _⟩ [] [0, 1] (N := 2) (by decide +kernel) rfl rfl rfl rfl rfl dX2_firstWrong_21 rfl ?_
        refine g_istore_n (np := 25) (lv' := [(1, .int r1004), (0, .ref q0), (2, .int x2)]) h rfl (by decide) rfl dX2_firstWrong_24 rfl ?_
        refine g_iload_n (np := 26) h 0 rfl rfl dX2_firstWrong_25 rfl ?_
        refine g_iconst (np := 27) (v := (3 : Int32)) h (by decide) dX2_firstWrong_26 rfl ?_
        refine g_icmp_ne h hF dX2_firstWrong_27 (np := 30) rfl (tg := 32) rfl (fun c1005 hF => ?_) (fun c1005 hF => ?_)
        · refine g_iinc (np := 35) (v := (x2 + (1 : Int32))) (lv' := [(2, .int (x2 + (1 : Int32))), (1, .int r1004), (0, .ref q0)]) h 2 rfl rfl (by decide) rfl dX2_firstWrong_32 rfl ?_
          refine g_goto h dX2_firstWrong_35 (np := 4) rfl ?_
          refine g_lv [2, 1, 0] rfl ?_
          exact ih4 r1004 (x2 + (1 : Int32)) hF
        · refine g_iload_n (np := 31) h 2 rfl rfl dX2_firstWrong_30 rfl ?_
          exact hend _ hF _ _ dX2_firstWrong_31
  unfold fX2_firstWrong at hF
  refine g_iconst (np := 1) (v := (0 : Int32)) h (by decide) dX2_firstWrong_0 rfl ?_
  refine g_istore_n (np := 2) (lv' := [(1, .int (0 : Int32)), (0, .ref q0)]) h rfl (by decide) rfl dX2_firstWrong_1 rfl ?_
  refine g_iconst (np := 3) (v := (0 : Int32)) h (by decide) dX2_firstWrong_2 rfl ?_
  refine g_istore_n (np := 4) (lv' := [(2, .int (0 : Int32)), (1, .int (0 : Int32)), (0, .ref q0)]) h rfl (by decide) rfl dX2_firstWrong_3 rfl ?_
  refine g_lv [2, 1, 0] rfl ?_
  exact hL4 _ (0 : Int32) (0 : Int32) hF
theorem dX0_become_0 : decode cX0_become 0 = .ok (.aload_n 1, 1) := by decide +kernel
theorem dX0_become_1 : decode cX0_become 1 = .ok (.getfield 9, 3) := by decide +kernel
theorem dX0_become_4 : decode cX0_become 4 = .ok (.aload_n 0, 1) := by decide +kernel
theorem dX0_become_5 : decode cX0_become 5 = .ok (.getfield 9, 3) := by decide +kernel
theorem dX0_become_8 : decode cX0_become 8 = .ok (.invokestatic 25, 3) := by decide +kernel
theorem dX0_become_11 : decode cX0_become 11 = .ok (.aload_n 1, 1) := by decide +kernel
theorem dX0_become_12 : decode cX0_become 12 = .ok (.getfield 15, 3) := by decide +kernel
theorem dX0_become_15 : decode cX0_become 15 = .ok (.aload_n 0, 1) := by decide +kernel
theorem dX0_become_16 : decode cX0_become 16 = .ok (.getfield 15, 3) := by decide +kernel
theorem dX0_become_19 : decode cX0_become 19 = .ok (.invokestatic 25, 3) := by decide +kernel
theorem dX0_become_22 : decode cX0_become 22 = .ok (.aload_n 1, 1) := by decide +kernel
theorem dX0_become_23 : decode cX0_become 23 = .ok (.getfield 18, 3) := by decide +kernel
theorem dX0_become_26 : decode cX0_become 26 = .ok (.aload_n 0, 1) := by decide +kernel
theorem dX0_become_27 : decode cX0_become 27 = .ok (.getfield 18, 3) := by decide +kernel
theorem dX0_become_30 : decode cX0_become 30 = .ok (.invokestatic 25, 3) := by decide +kernel
theorem dX0_become_33 : decode cX0_become 33 = .ok (.return_, 1) := by decide +kernel
def wtX0_become : List Cond := .code yX0_become cX0_become 2 none :: (([.fieldLink RX0 9 "DriftKin$Houses" "piece" "[I", .static yX8_copy, .initialized RX8, .fieldLink RX0 15 "DriftKin$Houses" "partner" "[I", .fieldLink RX0 18 "DriftKin$Houses" "children" "[I"]) ++ ((u_ws RX0 TX0 3) ++ ((wtX8_copy) ++ [])))
theorem imX0_become_own : ∀ w ∈ ([.fieldLink RX0 9 "DriftKin$Houses" "piece" "[I", .static yX8_copy, .initialized RX8, .fieldLink RX0 15 "DriftKin$Houses" "partner" "[I", .fieldLink RX0 18 "DriftKin$Houses" "children" "[I"] : List Cond), w ∈ wtX0_become := fun w h => List.mem_cons_of_mem _ (inl h)
theorem imX0_become_u_X0 : ∀ w ∈ (u_ws RX0 TX0 3 : List Cond), w ∈ wtX0_become := fun w h => List.mem_cons_of_mem _ (inr (inl h))
theorem imX0_become_c_X8_copy : ∀ w ∈ (wtX8_copy : List Cond), w ∈ wtX0_become := fun w h => List.mem_cons_of_mem _ (inr (inr (inl h)))
theorem gdX0_become : ∀ w ∈ wtX0_become, Gd w := gdc rfl (gda (gdl (by decide +kernel)) (gda (gdu _ _ _) (gda gdX8_copy gdn)))
theorem gcX0_become_X8_copy : GoodIn wtX0_become (wtX8_copy) := fun w h => ⟨imX0_become_c_X8_copy w h, gdX8_copy w h⟩
def fX0_become (v_piece : Nat → Int32) (v_partner : Nat → Int32) (v_children : Nat → Int32) (v_piece2 : Nat → Int32) (v_partner2 : Nat → Int32) (v_children2 : Nat → Int32) : Option ((Nat → Int32) × (Nat → Int32) × (Nat → Int32)) :=
  (fX8_copy 8 8 v_piece2 v_piece).bind (fun r1 =>
    (fX8_copy 8 8 v_partner2 v_partner).bind (fun r2 =>
      (fX8_copy 8 8 v_children2 v_children).bind (fun r3 =>
        some (r1, r2, r3))))
def wdX0_become (cI cZ : ClassId) (q0 : Nat) (q1 : Nat) (q2 : Nat) (q3 : Nat) (q4 : Nat) (q5 : Nat) (q6 : Nat) (q7 : Nat)  (v_piece : Nat → Int32) (v_partner : Nat → Int32) (v_children : Nat → Int32) (v_piece2 : Nat → Int32) (v_partner2 : Nat → Int32) (v_children2 : Nat → Int32) : va_W := [(q0, .inr (0, [.ref q1, .ref q2, .ref q3])), (q1, .inl (cI, 8, .inl v_piece)), (q2, .inl (cI, 8, .inl v_partner)), (q3, .inl (cI, 8, .inl v_children)), (q4, .inr (0, [.ref q5, .ref q6, .ref q7])), (q5, .inl (cI, 8, .inl v_piece2)), (q6, .inl (cI, 8, .inl v_partner2)), (q7, .inl (cI, 8, .inl v_children2))]
abbrev rmX0_become : Jvm.Room := { frames := 1, cells := 0, slots := 0, locals := 22 }
theorem hyX0_become : yX0_become.cls ≠ "java/lang/invoke/MethodHandle" ∧ yX0_become.cls ≠ "java/lang/invoke/VarHandle" ∧ (parseMethodDescriptor yX0_become.desc).map (fun d => d.parameters.length) = some 1 := by decide +kernel
set_option maxHeartbeats 4000000 in
set_option maxRecDepth 100000 in
theorem mX0_become (l : Launch) (D : va_G) (cI cZ : ClassId) (q0 : Nat) (q1 : Nat) (q2 : Nat) (q3 : Nat) (q4 : Nat) (q5 : Nat) (q6 : Nat) (q7 : Nat) (v_piece : Nat → Int32) (v_partner : Nat → Int32) (v_children : Nat → Int32) (v_piece2 : Nat → Int32) (v_partner2 : Nat → Int32) (v_children2 : Nat → Int32) (z : (Nat → Int32) × (Nat → Int32) × (Nat → Int32)) (hF : fX0_become v_piece v_partner v_children v_piece2 v_partner2 v_children2 = some z) : mp l yX0_become wtX0_become rmX0_become D cI cZ [.ref q0, .ref q4] (wdX0_become cI cZ q0 q1 q2 q3 q4 q5 q6 q7 v_piece v_partner v_children v_piece2 v_partner2 v_children2) none (wdX0_become cI cZ q0 q1 q2 q3 q4 q5 q6 q7 z.1 z.2.1 z.2.2 v_piece2 v_partner2 v_children2) := by
  refine mp_v (lv0 := [(0, .ref q0), (1, .ref q4)]) cX0_become 2 (by decide) rfl (Nat.le_of_ble_eq_true rfl) rfl (fun E h hend0 => ?_)
  have hend : ∀ (z' : (Nat → Int32) × (Nat → Int32) × (Nat → Int32)), some z' = some z → ∀ (pc : Nat) (lv : List (Nat × Value)), decode cX0_become pc = .ok (.return_, 1) → G l D E 2 0 0 (wdX0_become cI cZ q0 q1 q2 q3 q4 q5 q6 q7 (z'.1) (z'.2.1) (z'.2.2) v_piece2 v_partner2 v_children2) pc lv [] := fun z' e => by cases e; exact hend0
  clear hend0
  unfold fX0_become at hF
  refine g_aload_n (np := 1) h 1 rfl rfl dX0_become_0 rfl ?_
  refine g_get (np := 4) (T := TX0) h imX0_become_u_X0 4 0 rfl rfl 0 (by decide) (imX0_become_own _ (List.mem_of_getElem? (i := 0) rfl)) rfl dX0_become_1 rfl ?_
  refine g_aload_n (np := 5) h 0 rfl rfl dX0_become_4 rfl ?_
  refine g_get (np := 8) (T := TX0) h imX0_become_u_X0 0 0 rfl rfl 0 (by decide) (imX0_become_own _ (List.mem_of_getElem? (i := 0) rfl)) rfl dX0_become_5 rfl ?_
  obtain ⟨r1, hr1, hF⟩ := Option.bind_eq_some_iff.mp hF
  refine g_callN (np := 11) (Wd' := (wdX0_become cI cZ q0 q1 q2 q3 q4 q5 q6 q7 r1 v_partner v_children v_piece2 v_partner2 v_children2)) (As := [.ref q5, .ref q1]) h (mX8_copy l D cI cZ q5 q1 8 8 v_piece2 v_piece r1 hr1) gcX0_become_X8_copy rfl ⟨rfl, rfl⟩ (List.mem_of_getElem? (i := 13) rfl) (imX0_become_own _ (List.mem_of_getElem? (i := 2) rfl)) (imX0_become_own _ (List.mem_of_getElem? (i := 1) rfl)) hyX8_copy rfl rfl rfl rfl ⟨Nat.zero_le _, Nat.zero_le _⟩ [5, 1] [0, 2, 3, 4, 6, 7] (N := 8) (by decide +kernel) rfl rfl rfl rfl rfl dX0_become_8 rfl ?_
  refine g_aload_n (np := 12) h 1 rfl rfl dX0_become_11 rfl ?_
  refine g_get (np := 15) (T := TX0) h imX0_become_u_X0 4 0 rfl rfl 1 (by decide) (imX0_become_own _ (List.mem_of_getElem? (i := 3) rfl)) rfl dX0_become_12 rfl ?_
  refine g_aload_n (np := 16) h 0 rfl rfl dX0_become_15 rfl ?_
  refine g_get (np := 19) (T := TX0) h imX0_become_u_X0 0 0 rfl rfl 1 (by decide) (imX0_become_own _ (List.mem_of_getElem? (i := 3) rfl)) rfl dX0_become_16 rfl ?_
  obtain ⟨r2, hr2, hF⟩ := Option.bind_eq_some_iff.mp hF
  refine g_callN (np := 22) (Wd' := (wdX0_become cI cZ q0 q1 q2 q3 q4 q5 q6 q7 r1 r2 v_children v_piece2 v_partner2 v_children2)) (As := [.ref q6, .ref q2]) h (mX8_copy l D cI cZ q6 q2 8 8 v_partner2 v_partner r2 hr2) gcX0_become_X8_copy rfl ⟨rfl, rfl⟩ (List.mem_of_getElem? (i := 13) rfl) (imX0_become_own _ (List.mem_of_getElem? (i := 2) rfl)) (imX0_become_own _ (List.mem_of_getElem? (i := 1) rfl)) hyX8_copy rfl rfl rfl rfl ⟨Nat.zero_le _, Nat.zero_le _⟩ [6, 2] [0, 1, 3, 4, 5, 7] (N := 8) (by decide +kernel) rfl rfl rfl rfl rfl dX0_become_19 rfl ?_
  refine g_aload_n (np := 23) h 1 rfl rfl dX0_become_22 rfl ?_
  refine g_get (np := 26) (T := TX0) h imX0_become_u_X0 4 0 rfl rfl 2 (by decide) (imX0_become_own _ (List.mem_of_getElem? (i := 4) rfl)) rfl dX0_become_23 rfl ?_
  refine g_aload_n (np := 27) h 0 rfl rfl dX0_become_26 rfl ?_
  refine g_get (np := 30) (T := TX0) h imX0_become_u_X0 0 0 rfl rfl 2 (by decide) (imX0_become_own _ (List.mem_of_getElem? (i := 4) rfl)) rfl dX0_become_27 rfl ?_
  obtain ⟨r3, hr3, hF⟩ := Option.bind_eq_some_iff.mp hF
  refine g_callN (np := 33) (Wd' := (wdX0_become cI cZ q0 q1 q2 q3 q4 q5 q6 q7 r1 r2 r3 v_piece2 v_partner2 v_children2)) (As := [.ref q7, .ref q3]) h (mX8_copy l D cI cZ q7 q3 8 8 v_children2 v_children r3 hr3) gcX0_become_X8_copy rfl ⟨rfl, rfl⟩ (List.mem_of_getElem? (i := 13) rfl) (imX0_become_own _ (List.mem_of_getElem? (i := 2) rfl)) (imX0_become_own _ (List.mem_of_getElem? (i := 1) rfl)) hyX8_copy rfl rfl rfl rfl ⟨Nat.zero_le _, Nat.zero_le _⟩ [7, 3] [0, 1, 2, 4, 5, 6] (N := 8) (by decide +kernel) rfl rfl rfl rfl rfl dX0_become_30 rfl ?_
  exact hend _ hF _ _ dX0_become_33
theorem dX0_detail_0 : decode cX0_detail 0 = .ok (.iload_n 2, 1) := by decide +kernel
theorem dX0_detail_1 : decode cX0_detail 1 = .ok (.ifCond .ne 12, 3) := by decide +kernel
theorem dX0_detail_4 : decode cX0_detail 4 = .ok (.aload_n 0, 1) := by decide +kernel
theorem dX0_detail_5 : decode cX0_detail 5 = .ok (.getfield 9, 3) := by decide +kernel
theorem dX0_detail_8 : decode cX0_detail 8 = .ok (.iload_n 1, 1) := by decide +kernel
theorem dX0_detail_9 : decode cX0_detail 9 = .ok (.invokestatic 29, 3) := by decide +kernel
theorem dX0_detail_12 : decode cX0_detail 12 = .ok (.ireturn, 1) := by decide +kernel
theorem dX0_detail_13 : decode cX0_detail 13 = .ok (.iload_n 2, 1) := by decide +kernel
theorem dX0_detail_14 : decode cX0_detail 14 = .ok (.iconst 1, 1) := by decide +kernel
theorem dX0_detail_15 : decode cX0_detail 15 = .ok (.if_icmp .ne 14, 3) := by decide +kernel
theorem dX0_detail_18 : decode cX0_detail 18 = .ok (.aload_n 0, 1) := by decide +kernel
theorem dX0_detail_19 : decode cX0_detail 19 = .ok (.getfield 15, 3) := by decide +kernel
theorem dX0_detail_22 : decode cX0_detail 22 = .ok (.iload_n 1, 1) := by decide +kernel
theorem dX0_detail_23 : decode cX0_detail 23 = .ok (.invokestatic 29, 3) := by decide +kernel
theorem dX0_detail_26 : decode cX0_detail 26 = .ok (.goto 11, 3) := by decide +kernel
theorem dX0_detail_29 : decode cX0_detail 29 = .ok (.aload_n 0, 1) := by decide +kernel
theorem dX0_detail_30 : decode cX0_detail 30 = .ok (.getfield 18, 3) := by decide +kernel
theorem dX0_detail_33 : decode cX0_detail 33 = .ok (.iload_n 1, 1) := by decide +kernel
theorem dX0_detail_34 : decode cX0_detail 34 = .ok (.invokestatic 29, 3) := by decide +kernel
theorem dX0_detail_37 : decode cX0_detail 37 = .ok (.ireturn, 1) := by decide +kernel
def wtX0_detail : List Cond := .code yX0_detail cX0_detail 3 (some .int) :: (([.fieldLink RX0 9 "DriftKin$Houses" "piece" "[I", .static yX8_at, .initialized RX8, .fieldLink RX0 15 "DriftKin$Houses" "partner" "[I", .fieldLink RX0 18 "DriftKin$Houses" "children" "[I"]) ++ ((u_ws RX0 TX0 3) ++ ((wtX8_at) ++ [])))
theorem imX0_detail_own : ∀ w ∈ ([.fieldLink RX0 9 "DriftKin$Houses" "piece" "[I", .static yX8_at, .initialized RX8, .fieldLink RX0 15 "DriftKin$Houses" "partner" "[I", .fieldLink RX0 18 "DriftKin$Houses" "children" "[I"] : List Cond), w ∈ wtX0_detail := fun w h => List.mem_cons_of_mem _ (inl h)
theorem imX0_detail_u_X0 : ∀ w ∈ (u_ws RX0 TX0 3 : List Cond), w ∈ wtX0_detail := fun w h => List.mem_cons_of_mem _ (inr (inl h))
theorem imX0_detail_c_X8_at : ∀ w ∈ (wtX8_at : List Cond), w ∈ wtX0_detail := fun w h => List.mem_cons_of_mem _ (inr (inr (inl h)))
theorem gdX0_detail : ∀ w ∈ wtX0_detail, Gd w := gdc rfl (gda (gdl (by decide +kernel)) (gda (gdu _ _ _) (gda gdX8_at gdn)))
theorem gcX0_detail_X8_at : GoodIn wtX0_detail (wtX8_at) := fun w h => ⟨imX0_detail_c_X8_at w h, gdX8_at w h⟩
def fX0_detail (v_piece : Nat → Int32) (v_partner : Nat → Int32) (v_children : Nat → Int32) (x1 : Int32) (x2 : Int32) : Option (Int32) :=
  if x2 = (0 : Int32) then
    (fX8_at 8 v_piece x1).bind (fun r5 =>
      some r5)
  else
    if x2 = (1 : Int32) then
      (fX8_at 8 v_partner x1).bind (fun r4 =>
        some r4)
    else
      (fX8_at 8 v_children x1).bind (fun r3 =>
        some r3)
def wdX0_detail (cI cZ : ClassId) (q0 : Nat) (q1 : Nat) (q2 : Nat) (q3 : Nat)  (v_piece : Nat → Int32) (v_partner : Nat → Int32) (v_children : Nat → Int32) : va_W := [(q0, .inr (0, [.ref q1, .ref q2, .ref q3])), (q1, .inl (cI, 8, .inl v_piece)), (q2, .inl (cI, 8, .inl v_partner)), (q3, .inl (cI, 8, .inl v_children))]
abbrev rmX0_detail : Jvm.Room := { frames := 1, cells := 0, slots := 0, locals := 21 }
theorem hyX0_detail : yX0_detail.cls ≠ "java/lang/invoke/MethodHandle" ∧ yX0_detail.cls ≠ "java/lang/invoke/VarHandle" ∧ (parseMethodDescriptor yX0_detail.desc).map (fun d => d.parameters.length) = some 2 := by decide +kernel
set_option maxHeartbeats 4000000 in
set_option maxRecDepth 100000 in
theorem mX0_detail (l : Launch) (D : va_G) (cI cZ : ClassId) (q0 : Nat) (q1 : Nat) (q2 : Nat) (q3 : Nat) (v_piece : Nat → Int32) (v_partner : Nat → Int32) (v_children : Nat → Int32) (x1 : Int32) (x2 : Int32) (z : Int32) (hF : fX0_detail v_piece v_partner v_children x1 x2 = some z) : mp l yX0_detail wtX0_detail rmX0_detail D cI cZ [.ref q0, .int x1, .int x2] (wdX0_detail cI cZ q0 q1 q2 q3 v_piece v_partner v_children) (some (.int z)) (wdX0_detail cI cZ q0 q1 q2 q3 v_piece v_partner v_children) := by
  refine mp_i (lv0 := [(0, .ref q0), (1, .int x1), (2, .int x2)]) cX0_detail 3 z (by decide) rfl (Nat.le_of_ble_eq_true rfl) rfl (fun E h hend0 => ?_)
  have hend : ∀ (z' : Int32), some z' = some z → ∀ (pc : Nat) (lv : List (Nat × Value)), decode cX0_detail pc = .ok (.ireturn, 1) → G l D E 3 0 0 (wdX0_detail cI cZ q0 q1 q2 q3 v_piece v_partner v_children) pc lv [.int z'] := fun z' e => by cases e; exact hend0
  clear hend0
  unfold fX0_detail at hF
  refine g_iload_n (np := 1) h 2 rfl rfl dX0_detail_0 rfl ?_
  refine g_if_ne h hF dX0_detail_1 (np := 4) rfl (tg := 13) rfl (fun c1 hF => ?_) (fun c1 hF => ?_)
  · refine g_iload_n (np := 14) h 2 rfl rfl dX0_detail_13 rfl ?_
    refine g_iconst (np := 15) (v := (1 : Int32)) h (by decide) dX0_detail_14 rfl ?_
    refine g_icmp_ne h hF dX0_detail_15 (np := 18) rfl (tg := 29) rfl (fun c2 hF => ?_) (fun c2 hF => ?_)
    · refine g_aload_n (np := 30) h 0 rfl rfl dX0_detail_29 rfl ?_
      refine g_get (np := 33) (T := TX0) h imX0_detail_u_X0 0 0 rfl rfl 2 (by decide) (imX0_detail_own _ (List.mem_of_getElem? (i := 4) rfl)) rfl dX0_detail_30 rfl ?_
      refine g_iload_n (np := 34) h 1 rfl rfl dX0_detail_33 rfl ?_
      obtain ⟨r3, hr3, hF⟩ := Option.bind_eq_some_iff.mp hF
      refine g_callN (np := 37) (Wd' := (wdX0_detail cI cZ q0 q1 q2 q3 v_piece v_partner v_children)) (As := [.ref q3, .int x1]) h (mX8_at l D cI cZ q3 8 v_children x1 r3 hr3) gcX0_detail_X8_at rfl ⟨rfl, rfl⟩ (List.mem_of_getElem? (i := 17) rfl) (imX0_detail_own _ (List.mem_of_getElem? (i := 2) rfl)) (imX0_detail_own _ (List.mem_of_getElem? (i := 1) rfl)) hyX8_at rfl rfl rfl rfl ⟨Nat.zero_le _, Nat.zero_le _⟩ [3] [0, 1, 2] (N := 4) (by decide +kernel) rfl rfl rfl rfl rfl dX0_detail_34 rfl ?_
      exact hend _ hF _ _ dX0_detail_37
    · refine g_aload_n (np := 19) h 0 rfl rfl dX0_detail_18 rfl ?_
      refine g_get (np := 22) (T := TX0) h imX0_detail_u_X0 0 0 rfl rfl 1 (by decide) (imX0_detail_own _ (List.mem_of_getElem? (i := 3) rfl)) rfl dX0_detail_19 rfl ?_
      refine g_iload_n (np := 23) h 1 rfl rfl dX0_detail_22 rfl ?_
      obtain ⟨r4, hr4, hF⟩ := Option.bind_eq_some_iff.mp hF
      refine g_callN (np := 26) (Wd' := (wdX0_detail cI cZ q0 q1 q2 q3 v_piece v_partner v_children)) (As := [.ref q2, .int x1]) h (mX8_at l D cI cZ q2 8 v_partner x1 r4 hr4) gcX0_detail_X8_at rfl ⟨rfl, rfl⟩ (List.mem_of_getElem? (i := 17) rfl) (imX0_detail_own _ (List.mem_of_getElem? (i := 2) rfl)) (imX0_detail_own _ (List.mem_of_getElem? (i := 1) rfl)) hyX8_at rfl rfl rfl rfl ⟨Nat.zero_le _, Nat.zero_le _⟩ [2] [0, 1, 3] (N := 4) (by decide +kernel) rfl rfl rfl rfl rfl dX0_detail_23 rfl ?_
      refine g_goto h dX0_detail_26 (np := 37) rfl ?_
      exact hend _ hF _ _ dX0_detail_37
  · refine g_aload_n (np := 5) h 0 rfl rfl dX0_detail_4 rfl ?_
    refine g_get (np := 8) (T := TX0) h imX0_detail_u_X0 0 0 rfl rfl 0 (by decide) (imX0_detail_own _ (List.mem_of_getElem? (i := 0) rfl)) rfl dX0_detail_5 rfl ?_
    refine g_iload_n (np := 9) h 1 rfl rfl dX0_detail_8 rfl ?_
    obtain ⟨r5, hr5, hF⟩ := Option.bind_eq_some_iff.mp hF
    refine g_callN (np := 12) (Wd' := (wdX0_detail cI cZ q0 q1 q2 q3 v_piece v_partner v_children)) (As := [.ref q1, .int x1]) h (mX8_at l D cI cZ q1 8 v_piece x1 r5 hr5) gcX0_detail_X8_at rfl ⟨rfl, rfl⟩ (List.mem_of_getElem? (i := 17) rfl) (imX0_detail_own _ (List.mem_of_getElem? (i := 2) rfl)) (imX0_detail_own _ (List.mem_of_getElem? (i := 1) rfl)) hyX8_at rfl rfl rfl rfl ⟨Nat.zero_le _, Nat.zero_le _⟩ [1] [0, 2, 3] (N := 4) (by decide +kernel) rfl rfl rfl rfl rfl dX0_detail_9 rfl ?_
    exact hend _ hF _ _ dX0_detail_12
theorem dX0_isOfNone_0 : decode cX0_isOfNone 0 = .ok (.aload_n 0, 1) := by decide +kernel
theorem dX0_isOfNone_1 : decode cX0_isOfNone 1 = .ok (.getfield 9, 3) := by decide +kernel
theorem dX0_isOfNone_4 : decode cX0_isOfNone 4 = .ok (.iload_n 1, 1) := by decide +kernel
theorem dX0_isOfNone_5 : decode cX0_isOfNone 5 = .ok (.invokestatic 29, 3) := by decide +kernel
theorem dX0_isOfNone_8 : decode cX0_isOfNone 8 = .ok (.bipush (-6), 2) := by decide +kernel
theorem dX0_isOfNone_10 : decode cX0_isOfNone 10 = .ok (.if_icmp .ne 7, 3) := by decide +kernel
theorem dX0_isOfNone_13 : decode cX0_isOfNone 13 = .ok (.iconst 1, 1) := by decide +kernel
theorem dX0_isOfNone_14 : decode cX0_isOfNone 14 = .ok (.goto 4, 3) := by decide +kernel
theorem dX0_isOfNone_17 : decode cX0_isOfNone 17 = .ok (.iconst 0, 1) := by decide +kernel
theorem dX0_isOfNone_18 : decode cX0_isOfNone 18 = .ok (.ireturn, 1) := by decide +kernel
def wtX0_isOfNone : List Cond := .code yX0_isOfNone cX0_isOfNone 2 (some .boolean) :: (([.fieldLink RX0 9 "DriftKin$Houses" "piece" "[I", .static yX8_at, .initialized RX8]) ++ ((u_ws RX0 TX0 3) ++ ((wtX8_at) ++ [])))
theorem imX0_isOfNone_own : ∀ w ∈ ([.fieldLink RX0 9 "DriftKin$Houses" "piece" "[I", .static yX8_at, .initialized RX8] : List Cond), w ∈ wtX0_isOfNone := fun w h => List.mem_cons_of_mem _ (inl h)
theorem imX0_isOfNone_u_X0 : ∀ w ∈ (u_ws RX0 TX0 3 : List Cond), w ∈ wtX0_isOfNone := fun w h => List.mem_cons_of_mem _ (inr (inl h))
theorem imX0_isOfNone_c_X8_at : ∀ w ∈ (wtX8_at : List Cond), w ∈ wtX0_isOfNone := fun w h => List.mem_cons_of_mem _ (inr (inr (inl h)))
theorem gdX0_isOfNone : ∀ w ∈ wtX0_isOfNone, Gd w := gdc rfl (gda (gdl (by decide +kernel)) (gda (gdu _ _ _) (gda gdX8_at gdn)))
theorem gcX0_isOfNone_X8_at : GoodIn wtX0_isOfNone (wtX8_at) := fun w h => ⟨imX0_isOfNone_c_X8_at w h, gdX8_at w h⟩
def fX0_isOfNone (v_piece : Nat → Int32) (x1 : Int32) : Option (Int32) :=
  (fX8_at 8 v_piece x1).bind (fun r1 =>
    if r1 = (-6 : Int32) then
      some (1 : Int32)
    else
      some (0 : Int32))
def wdX0_isOfNone (cI cZ : ClassId) (q0 : Nat) (q1 : Nat) (d2 : Nat) (d3 : Nat)  (v_piece : Nat → Int32) : va_W := [(q0, .inr (0, [.ref q1, .ref d2, .ref d3])), (q1, .inl (cI, 8, .inl v_piece))]
abbrev rmX0_isOfNone : Jvm.Room := { frames := 1, cells := 0, slots := 0, locals := 21 }
theorem hyX0_isOfNone : yX0_isOfNone.cls ≠ "java/lang/invoke/MethodHandle" ∧ yX0_isOfNone.cls ≠ "java/lang/invoke/VarHandle" ∧ (parseMethodDescriptor yX0_isOfNone.desc).map (fun d => d.parameters.length) = some 1 := by decide +kernel
set_option maxHeartbeats 4000000 in
set_option maxRecDepth 100000 in
theorem mX0_isOfNone (l : Launch) (D : va_G) (cI cZ : ClassId) (q0 : Nat) (q1 : Nat) (d2 : Nat) (d3 : Nat) (v_piece : Nat → Int32) (x1 : Int32) (z : Int32) (hF : fX0_isOfNone v_piece x1 = some z) : mp l yX0_isOfNone wtX0_isOfNone rmX0_isOfNone D cI cZ [.ref q0, .int x1] (wdX0_isOfNone cI cZ q0 q1 d2 d3 v_piece) (some (.int z)) (wdX0_isOfNone cI cZ q0 q1 d2 d3 v_piece) := by
  refine mp_z (lv0 := [(0, .ref q0), (1, .int x1)]) cX0_isOfNone 2 z (by decide) rfl (Nat.le_of_ble_eq_true rfl) rfl (fun E h hend0 => ?_)
  have hend : ∀ (z' : Int32), some z' = some z → ∀ (pc : Nat) (lv : List (Nat × Value)), z' = z' &&& 1 → decode cX0_isOfNone pc = .ok (.ireturn, 1) → G l D E 2 0 0 (wdX0_isOfNone cI cZ q0 q1 d2 d3 v_piece) pc lv [.int z'] := fun z' e => by cases e; exact hend0
  clear hend0
  unfold fX0_isOfNone at hF
  refine g_aload_n (np := 1) h 0 rfl rfl dX0_isOfNone_0 rfl ?_
  refine g_get (np := 4) (T := TX0) h imX0_isOfNone_u_X0 0 0 rfl rfl 0 (by decide) (imX0_isOfNone_own _ (List.mem_of_getElem? (i := 0) rfl)) rfl dX0_isOfNone_1 rfl ?_
  refine g_iload_n (np := 5) h 1 rfl rfl dX0_isOfNone_4 rfl ?_
  obtain ⟨r1, hr1, hF⟩ := Option.bind_eq_some_iff.mp hF
  refine g_callN (np := 8) (Wd' := (wdX0_isOfNone cI cZ q0 q1 d2 d3 v_piece)) (As := [.ref q1, .int x1]) h (mX8_at l D cI cZ q1 8 v_piece x1 r1 hr1) gcX0_isOfNone_X8_at rfl ⟨rfl, rfl⟩ (List.mem_of_getElem? (i := 17) rfl) (imX0_isOfNone_own _ (List.mem_of_getElem? (i := 2) rfl)) (imX0_isOfNone_own _ (List.mem_of_getElem? (i := 1) rfl)) hyX8_at rfl rfl rfl rfl ⟨Nat.zero_le _, Nat.zero_le _⟩ [1] [0] (N := 2) (by decide +kernel) rfl rfl rfl rfl rfl dX0_isOfNone_5 rfl ?_
  refine g_bipush (np := 10) (v := (-6 : Int32)) h (by decide) dX0_isOfNone_8 rfl ?_
  refine g_icmp_ne h hF dX0_isOfNone_10 (np := 13) rfl (tg := 17) rfl (fun c2 hF => ?_) (fun c2 hF => ?_)
  · refine g_iconst (np := 18) (v := (0 : Int32)) h (by decide) dX0_isOfNone_17 rfl ?_
    exact hend _ hF _ _ zb0 dX0_isOfNone_18
  · refine g_iconst (np := 14) (v := (1 : Int32)) h (by decide) dX0_isOfNone_13 rfl ?_
    refine g_goto h dX0_isOfNone_14 (np := 18) rfl ?_
    exact hend _ hF _ _ zb1 dX0_isOfNone_18
theorem dX0_isWed_0 : decode cX0_isWed 0 = .ok (.aload_n 0, 1) := by decide +kernel
theorem dX0_isWed_1 : decode cX0_isWed 1 = .ok (.getfield 15, 3) := by decide +kernel
theorem dX0_isWed_4 : decode cX0_isWed 4 = .ok (.iload_n 1, 1) := by decide +kernel
theorem dX0_isWed_5 : decode cX0_isWed 5 = .ok (.invokestatic 29, 3) := by decide +kernel
theorem dX0_isWed_8 : decode cX0_isWed 8 = .ok (.bipush (-6), 2) := by decide +kernel
theorem dX0_isWed_10 : decode cX0_isWed 10 = .ok (.if_icmp .eq 7, 3) := by decide +kernel
theorem dX0_isWed_13 : decode cX0_isWed 13 = .ok (.iconst 1, 1) := by decide +kernel
theorem dX0_isWed_14 : decode cX0_isWed 14 = .ok (.goto 4, 3) := by decide +kernel
theorem dX0_isWed_17 : decode cX0_isWed 17 = .ok (.iconst 0, 1) := by decide +kernel
theorem dX0_isWed_18 : decode cX0_isWed 18 = .ok (.ireturn, 1) := by decide +kernel
def wtX0_isWed : List Cond := .code yX0_isWed cX0_isWed 2 (some .boolean) :: (([.fieldLink RX0 15 "DriftKin$Houses" "partner" "[I", .static yX8_at, .initialized RX8]) ++ ((u_ws RX0 TX0 3) ++ ((wtX8_at) ++ [])))
theorem imX0_isWed_own : ∀ w ∈ ([.fieldLink RX0 15 "DriftKin$Houses" "partner" "[I", .static yX8_at, .initialized RX8] : List Cond), w ∈ wtX0_isWed := fun w h => List.mem_cons_of_mem _ (inl h)
theorem imX0_isWed_u_X0 : ∀ w ∈ (u_ws RX0 TX0 3 : List Cond), w ∈ wtX0_isWed := fun w h => List.mem_cons_of_mem _ (inr (inl h))
theorem imX0_isWed_c_X8_at : ∀ w ∈ (wtX8_at : List Cond), w ∈ wtX0_isWed := fun w h => List.mem_cons_of_mem _ (inr (inr (inl h)))
theorem gdX0_isWed : ∀ w ∈ wtX0_isWed, Gd w := gdc rfl (gda (gdl (by decide +kernel)) (gda (gdu _ _ _) (gda gdX8_at gdn)))
theorem gcX0_isWed_X8_at : GoodIn wtX0_isWed (wtX8_at) := fun w h => ⟨imX0_isWed_c_X8_at w h, gdX8_at w h⟩
def fX0_isWed (v_partner : Nat → Int32) (x1 : Int32) : Option (Int32) :=
  (fX8_at 8 v_partner x1).bind (fun r1 =>
    if r1 = (-6 : Int32) then
      some (0 : Int32)
    else
      some (1 : Int32))
def wdX0_isWed (cI cZ : ClassId) (q0 : Nat) (q1 : Nat) (d2 : Nat) (d3 : Nat)  (v_partner : Nat → Int32) : va_W := [(q0, .inr (0, [.ref d2, .ref q1, .ref d3])), (q1, .inl (cI, 8, .inl v_partner))]
abbrev rmX0_isWed : Jvm.Room := { frames := 1, cells := 0, slots := 0, locals := 21 }
theorem hyX0_isWed : yX0_isWed.cls ≠ "java/lang/invoke/MethodHandle" ∧ yX0_isWed.cls ≠ "java/lang/invoke/VarHandle" ∧ (parseMethodDescriptor yX0_isWed.desc).map (fun d => d.parameters.length) = some 1 := by decide +kernel
set_option maxHeartbeats 4000000 in
set_option maxRecDepth 100000 in
theorem mX0_isWed (l : Launch) (D : va_G) (cI cZ : ClassId) (q0 : Nat) (q1 : Nat) (d2 : Nat) (d3 : Nat) (v_partner : Nat → Int32) (x1 : Int32) (z : Int32) (hF : fX0_isWed v_partner x1 = some z) : mp l yX0_isWed wtX0_isWed rmX0_isWed D cI cZ [.ref q0, .int x1] (wdX0_isWed cI cZ q0 q1 d2 d3 v_partner) (some (.int z)) (wdX0_isWed cI cZ q0 q1 d2 d3 v_partner) := by
  refine mp_z (lv0 := [(0, .ref q0), (1, .int x1)]) cX0_isWed 2 z (by decide) rfl (Nat.le_of_ble_eq_true rfl) rfl (fun E h hend0 => ?_)
  have hend : ∀ (z' : Int32), some z' = some z → ∀ (pc : Nat) (lv : List (Nat × Value)), z' = z' &&& 1 → decode cX0_isWed pc = .ok (.ireturn, 1) → G l D E 2 0 0 (wdX0_isWed cI cZ q0 q1 d2 d3 v_partner) pc lv [.int z'] := fun z' e => by cases e; exact hend0
  clear hend0
  unfold fX0_isWed at hF
  refine g_aload_n (np := 1) h 0 rfl rfl dX0_isWed_0 rfl ?_
  refine g_get (np := 4) (T := TX0) h imX0_isWed_u_X0 0 0 rfl rfl 1 (by decide) (imX0_isWed_own _ (List.mem_of_getElem? (i := 0) rfl)) rfl dX0_isWed_1 rfl ?_
  refine g_iload_n (np := 5) h 1 rfl rfl dX0_isWed_4 rfl ?_
  obtain ⟨r1, hr1, hF⟩ := Option.bind_eq_some_iff.mp hF
  refine g_callN (np := 8) (Wd' := (wdX0_isWed cI cZ q0 q1 d2 d3 v_partner)) (As := [.ref q1, .int x1]) h (mX8_at l D cI cZ q1 8 v_partner x1 r1 hr1) gcX0_isWed_X8_at rfl ⟨rfl, rfl⟩ (List.mem_of_getElem? (i := 17) rfl) (imX0_isWed_own _ (List.mem_of_getElem? (i := 2) rfl)) (imX0_isWed_own _ (List.mem_of_getElem? (i := 1) rfl)) hyX8_at rfl rfl rfl rfl ⟨Nat.zero_le _, Nat.zero_le _⟩ [1] [0] (N := 2) (by decide +kernel) rfl rfl rfl rfl rfl dX0_isWed_5 rfl ?_
  refine g_bipush (np := 10) (v := (-6 : Int32)) h (by decide) dX0_isWed_8 rfl ?_
  refine g_icmp_eq h hF dX0_isWed_10 (np := 13) rfl (tg := 17) rfl (fun c2 hF => ?_) (fun c2 hF => ?_)
  · refine g_iconst (np := 18) (v := (0 : Int32)) h (by decide) dX0_isWed_17 rfl ?_
    exact hend _ hF _ _ zb0 dX0_isWed_18
  · refine g_iconst (np := 14) (v := (1 : Int32)) h (by decide) dX0_isWed_13 rfl ?_
    refine g_goto h dX0_isWed_14 (np := 18) rfl ?_
    exact hend _ hF _ _ zb1 dX0_isWed_18
theorem dX0_countOfPieces_0 : decode cX0_countOfPieces 0 = .ok (.iconst 0, 1) := by decide +kernel
theorem dX0_countOfPieces_1 : decode cX0_countOfPieces 1 = .ok (.istore_n 1, 1) := by decide +kernel
theorem dX0_countOfPieces_2 : decode cX0_countOfPieces 2 = .ok (.iconst 0, 1) := by decide +kernel
theorem dX0_countOfPieces_3 : decode cX0_countOfPieces 3 = .ok (.istore_n 2, 1) := by decide +kernel
theorem dX0_countOfPieces_4 : decode cX0_countOfPieces 4 = .ok (.iload_n 2, 1) := by decide +kernel
theorem dX0_countOfPieces_5 : decode cX0_countOfPieces 5 = .ok (.aload_n 0, 1) := by decide +kernel
theorem dX0_countOfPieces_6 : decode cX0_countOfPieces 6 = .ok (.getfield 9, 3) := by decide +kernel
theorem dX0_countOfPieces_9 : decode cX0_countOfPieces 9 = .ok (.arraylength, 1) := by decide +kernel
theorem dX0_countOfPieces_10 : decode cX0_countOfPieces 10 = .ok (.if_icmp .ge 23, 3) := by decide +kernel
theorem dX0_countOfPieces_13 : decode cX0_countOfPieces 13 = .ok (.aload_n 0, 1) := by decide +kernel
theorem dX0_countOfPieces_14 : decode cX0_countOfPieces 14 = .ok (.getfield 9, 3) := by decide +kernel
theorem dX0_countOfPieces_17 : decode cX0_countOfPieces 17 = .ok (.iload_n 2, 1) := by decide +kernel
theorem dX0_countOfPieces_18 : decode cX0_countOfPieces 18 = .ok (.iaload, 1) := by decide +kernel
theorem dX0_countOfPieces_19 : decode cX0_countOfPieces 19 = .ok (.bipush (-6), 2) := by decide +kernel
theorem dX0_countOfPieces_21 : decode cX0_countOfPieces 21 = .ok (.if_icmp .eq 6, 3) := by decide +kernel
theorem dX0_countOfPieces_24 : decode cX0_countOfPieces 24 = .ok (.iinc 1 1, 3) := by decide +kernel
theorem dX0_countOfPieces_27 : decode cX0_countOfPieces 27 = .ok (.iinc 2 1, 3) := by decide +kernel
theorem dX0_countOfPieces_30 : decode cX0_countOfPieces 30 = .ok (.goto (-26), 3) := by decide +kernel
theorem dX0_countOfPieces_33 : decode cX0_countOfPieces 33 = .ok (.iload_n 1, 1) := by decide +kernel
theorem dX0_countOfPieces_34 : decode cX0_countOfPieces 34 = .ok (.ireturn, 1) := by decide +kernel
def wtX0_countOfPieces : List Cond := .code yX0_countOfPieces cX0_countOfPieces 3 (some .int) :: (([.fieldLink RX0 9 "DriftKin$Houses" "piece" "[I"]) ++ ((u_ws RX0 TX0 3) ++ []))
theorem imX0_countOfPieces_own : ∀ w ∈ ([.fieldLink RX0 9 "DriftKin$Houses" "piece" "[I"] : List Cond), w ∈ wtX0_countOfPieces := fun w h => List.mem_cons_of_mem _ (inl h)
theorem imX0_countOfPieces_u_X0 : ∀ w ∈ (u_ws RX0 TX0 3 : List Cond), w ∈ wtX0_countOfPieces := fun w h => List.mem_cons_of_mem _ (inr (inl h))
theorem gdX0_countOfPieces : ∀ w ∈ wtX0_countOfPieces, Gd w := gdc rfl (gda (gdl (by decide +kernel)) (gda (gdu _ _ _) gdn))
def fX0_countOfPieces_4 (v_piece : Nat → Int32) : Nat → Int32 → Int32 → Option (Int32)
  | 0, _, _ => none
  | n + 1, x1, x2 =>
    if (8 : Int32) ≤ x2 then
      some x1
    else
      chk x2 8 (
        if (rd v_piece x2) = (-6 : Int32) then
          fX0_countOfPieces_4 v_piece n x1 (x2 + (1 : Int32))
        else
          fX0_countOfPieces_4 v_piece n (x1 + (1 : Int32)) (x2 + (1 : Int32)))
def fX0_countOfPieces (v_piece : Nat → Int32) : Option (Int32) :=
  fX0_countOfPieces_4 v_piece 2000 (0 : Int32) (0 : Int32)
def wdX0_countOfPieces (cI cZ : ClassId) (q0 : Nat) (q1 : Nat) (d2 : Nat) (d3 : Nat)  (v_piece : Nat → Int32) : va_W := [(q0, .inr (0, [.ref q1, .ref d2, .ref d3])), (q1, .inl (cI, 8, .inl v_piece))]
abbrev rmX0_countOfPieces : Jvm.Room := { frames := 0, cells := 0, slots := 0, locals := 0 }
theorem hyX0_countOfPieces : yX0_countOfPieces.cls ≠ "java/lang/invoke/MethodHandle" ∧ yX0_countOfPieces.cls ≠ "java/lang/invoke/VarHandle" ∧ (parseMethodDescriptor yX0_countOfPieces.desc).map (fun d => d.parameters.length) = some 0 := by decide +kernel
set_option maxHeartbeats 4000000 in
set_option maxRecDepth 100000 in
theorem mX0_countOfPieces (l : Launch) (D : va_G) (cI cZ : ClassId) (q0 : Nat) (q1 : Nat) (d2 : Nat) (d3 : Nat) (v_piece : Nat → Int32) (z : Int32) (hF : fX0_countOfPieces v_piece = some z) : mp l yX0_countOfPieces wtX0_countOfPieces rmX0_countOfPieces D cI cZ [.ref q0] (wdX0_countOfPieces cI cZ q0 q1 d2 d3 v_piece) (some (.int z)) (wdX0_countOfPieces cI cZ q0 q1 d2 d3 v_piece) := by
  refine mp_i (lv0 := [(0, .ref q0)]) cX0_countOfPieces 3 z (by decide) rfl (Nat.le_of_ble_eq_true rfl) rfl (fun E h hend0 => ?_)
  have hend : ∀ (z' : Int32), some z' = some z → ∀ (pc : Nat) (lv : List (Nat × Value)), decode cX0_countOfPieces pc = .ok (.ireturn, 1) → G l D E 3 0 0 (wdX0_countOfPieces cI cZ q0 q1 d2 d3 v_piece) pc lv [.int z'] := fun z' e => by cases e; exact hend0
  clear hend0
  have hL4 : ∀ (n4 : Nat) (x1 : Int32) (x2 : Int32), fX0_countOfPieces_4 v_piece n4 x1 x2 = some z → G l D E 3 0 0 (wdX0_countOfPieces cI cZ q0 q1 d2 d3 v_piece) 4 [(0, .ref q0), (1, .int x1), (2, .int x2)] [] := by
    intro n4
    induction n4 with
    | zero =>
      intro x1 x2 hF
      rw [fX0_countOfPieces_4] at hF
      cases hF
    | succ n4 ih4 =>
      intro x1 x2 hF
      rw [fX0_countOfPieces_4] at hF
      refine g_iload_n (np := 5) h 2 rfl rfl dX0_countOfPieces_4 rfl ?_
      refine g_aload_n (np := 6) h 0 rfl rfl dX0_countOfPieces_5 rfl ?_
      refine g_get (np := 9) (T := TX0) h imX0_countOfPieces_u_X0 0 0 rfl rfl 0 (by decide) (imX0_countOfPieces_own _ (List.mem_of_getElem? (i := 0) rfl)) rfl dX0_countOfPieces_6 rfl ?_
      refine g_alen (np := 10) (v := (8 : Int32)) h 1 rfl (by decide) dX0_countOfPieces_9 rfl ?_
      refine g_icmp_ge h hF dX0_countOfPieces_10 (np := 13) rfl (tg := 33) rfl (fun c1001 hF => ?_) (fun c1001 hF => ?_)
      · refine g_iload_n (np := 34) h 1 rfl rfl dX0_countOfPieces_33 rfl ?_
        exact hend _ hF _ _ dX0_countOfPieces_34
      · refine g_aload_n (np := 14) h 0 rfl rfl dX0_countOfPieces_13 rfl ?_
        refine g_get (np := 17) (T := TX0) h imX0_countOfPieces_u_X0 0 0 rfl rfl 0 (by decide) (imX0_countOfPieces_own _ (List.mem_of_getElem? (i := 0) rfl)) rfl dX0_countOfPieces_14 rfl ?_
        refine g_iload_n (np := 18) h 2 rfl rfl dX0_countOfPieces_17 rfl ?_
        refine g_iald (np := 19) h 1 rfl hF dX0_countOfPieces_18 rfl (fun hi1002 hF => ?_)
        refine g_bipush (np := 21) (v := (-6 : Int32)) h (by decide) dX0_countOfPieces_19 rfl ?_
        refine g_icmp_eq h hF dX0_countOfPieces_21 (np := 24) rfl (tg := 27) rfl (fun c1003 hF => ?_) (fun c1003 hF => ?_)
        · refine g_iinc (np := 30) (v := (x2 + (1 : Int32))) (lv' := [(2, .int (x2 + (1 : Int32))), (0, .ref q0), (1, .int x1)]) h 2 rfl rfl (by decide) rfl dX0_countOfPieces_27 rfl ?_
          refine g_goto h dX0_countOfPieces_30 (np := 4) rfl ?_
          refine g_lv [1, 2, 0] rfl ?_
          exact ih4 x1 (x2 + (1 : Int32)) hF
        · refine g_iinc (np := 27) (v := (x1 + (1 : Int32))) (lv' := [(1, .int (x1 + (1 : Int32))), (0, .ref q0), (2, .int x2)]) h 1 rfl rfl (by decide) rfl dX0_countOfPieces_24 rfl ?_
          refine g_iinc (np := 30) (v := (x2 + (1 : Int32))) (lv' := [(2, .int (x2 + (1 : Int32))), (1, .int (x1 + (1 : Int32))), (0, .ref q0)]) h 2 rfl rfl (by decide) rfl dX0_countOfPieces_27 rfl ?_
          refine g_goto h dX0_countOfPieces_30 (np := 4) rfl ?_
          refine g_lv [2, 1, 0] rfl ?_
          exact ih4 (x1 + (1 : Int32)) (x2 + (1 : Int32)) hF
  unfold fX0_countOfPieces at hF
  refine g_iconst (np := 1) (v := (0 : Int32)) h (by decide) dX0_countOfPieces_0 rfl ?_
  refine g_istore_n (np := 2) (lv' := [(1, .int (0 : Int32)), (0, .ref q0)]) h rfl (by decide) rfl dX0_countOfPieces_1 rfl ?_
  refine g_iconst (np := 3) (v := (0 : Int32)) h (by decide) dX0_countOfPieces_2 rfl ?_
  refine g_istore_n (np := 4) (lv' := [(2, .int (0 : Int32)), (1, .int (0 : Int32)), (0, .ref q0)]) h rfl (by decide) rfl dX0_countOfPieces_3 rfl ?_
  refine g_lv [2, 1, 0] rfl ?_
  exact hL4 _ (0 : Int32) (0 : Int32) hF
theorem dX0_allChildren_0 : decode cX0_allChildren 0 = .ok (.iconst 0, 1) := by decide +kernel
theorem dX0_allChildren_1 : decode cX0_allChildren 1 = .ok (.istore_n 1, 1) := by decide +kernel
theorem dX0_allChildren_2 : decode cX0_allChildren 2 = .ok (.iconst 0, 1) := by decide +kernel
theorem dX0_allChildren_3 : decode cX0_allChildren 3 = .ok (.istore_n 2, 1) := by decide +kernel
theorem dX0_allChildren_4 : decode cX0_allChildren 4 = .ok (.iload_n 2, 1) := by decide +kernel
theorem dX0_allChildren_5 : decode cX0_allChildren 5 = .ok (.aload_n 0, 1) := by decide +kernel
theorem dX0_allChildren_6 : decode cX0_allChildren 6 = .ok (.getfield 18, 3) := by decide +kernel
theorem dX0_allChildren_9 : decode cX0_allChildren 9 = .ok (.arraylength, 1) := by decide +kernel
theorem dX0_allChildren_10 : decode cX0_allChildren 10 = .ok (.if_icmp .ge 18, 3) := by decide +kernel
theorem dX0_allChildren_13 : decode cX0_allChildren 13 = .ok (.iload_n 1, 1) := by decide +kernel
theorem dX0_allChildren_14 : decode cX0_allChildren 14 = .ok (.aload_n 0, 1) := by decide +kernel
theorem dX0_allChildren_15 : decode cX0_allChildren 15 = .ok (.getfield 18, 3) := by decide +kernel
theorem dX0_allChildren_18 : decode cX0_allChildren 18 = .ok (.iload_n 2, 1) := by decide +kernel
theorem dX0_allChildren_19 : decode cX0_allChildren 19 = .ok (.iaload, 1) := by decide +kernel
theorem dX0_allChildren_20 : decode cX0_allChildren 20 = .ok (.iadd, 1) := by decide +kernel
theorem dX0_allChildren_21 : decode cX0_allChildren 21 = .ok (.istore_n 1, 1) := by decide +kernel
theorem dX0_allChildren_22 : decode cX0_allChildren 22 = .ok (.iinc 2 1, 3) := by decide +kernel
theorem dX0_allChildren_25 : decode cX0_allChildren 25 = .ok (.goto (-21), 3) := by decide +kernel
theorem dX0_allChildren_28 : decode cX0_allChildren 28 = .ok (.iload_n 1, 1) := by decide +kernel
theorem dX0_allChildren_29 : decode cX0_allChildren 29 = .ok (.ireturn, 1) := by decide +kernel
def wtX0_allChildren : List Cond := .code yX0_allChildren cX0_allChildren 3 (some .int) :: (([.fieldLink RX0 18 "DriftKin$Houses" "children" "[I"]) ++ ((u_ws RX0 TX0 3) ++ []))
theorem imX0_allChildren_own : ∀ w ∈ ([.fieldLink RX0 18 "DriftKin$Houses" "children" "[I"] : List Cond), w ∈ wtX0_allChildren := fun w h => List.mem_cons_of_mem _ (inl h)
theorem imX0_allChildren_u_X0 : ∀ w ∈ (u_ws RX0 TX0 3 : List Cond), w ∈ wtX0_allChildren := fun w h => List.mem_cons_of_mem _ (inr (inl h))
theorem gdX0_allChildren : ∀ w ∈ wtX0_allChildren, Gd w := gdc rfl (gda (gdl (by decide +kernel)) (gda (gdu _ _ _) gdn))
def fX0_allChildren_4 (v_children : Nat → Int32) : Nat → Int32 → Int32 → Option (Int32)
  | 0, _, _ => none
  | n + 1, x1, x2 =>
    if (8 : Int32) ≤ x2 then
      some x1
    else
      chk x2 8 (
        fX0_allChildren_4 v_children n (x1 + (rd v_children x2)) (x2 + (1 : Int32)))
def fX0_allChildren (v_children : Nat → Int32) : Option (Int32) :=
  fX0_allChildren_4 v_children 2000 (0 : Int32) (0 : Int32)
def wdX0_allChildren (cI cZ : ClassId) (q0 : Nat) (q1 : Nat) (d2 : Nat) (d3 : Nat)  (v_children : Nat → Int32) : va_W := [(q0, .inr (0, [.ref d2, .ref d3, .ref q1])), (q1, .inl (cI, 8, .inl v_children))]
abbrev rmX0_allChildren : Jvm.Room := { frames := 0, cells := 0, slots := 0, locals := 0 }
theorem hyX0_allChildren : yX0_allChildren.cls ≠ "java/lang/invoke/MethodHandle" ∧ yX0_allChildren.cls ≠ "java/lang/invoke/VarHandle" ∧ (parseMethodDescriptor yX0_allChildren.desc).map (fun d => d.parameters.length) = some 0 := by decide +kernel
set_option maxHeartbeats 4000000 in
set_option maxRecDepth 100000 in
theorem mX0_allChildren (l : Launch) (D : va_G) (cI cZ : ClassId) (q0 : Nat) (q1 : Nat) (d2 : Nat) (d3 : Nat) (v_children : Nat → Int32) (z : Int32) (hF : fX0_allChildren v_children = some z) : mp l yX0_allChildren wtX0_allChildren rmX0_allChildren D cI cZ [.ref q0] (wdX0_allChildren cI cZ q0 q1 d2 d3 v_children) (some (.int z)) (wdX0_allChildren cI cZ q0 q1 d2 d3 v_children) := by
  refine mp_i (lv0 := [(0, .ref q0)]) cX0_allChildren 3 z (by decide) rfl (Nat.le_of_ble_eq_true rfl) rfl (fun E h hend0 => ?_)
  have hend : ∀ (z' : Int32), some z' = some z → ∀ (pc : Nat) (lv : List (Nat × Value)), decode cX0_allChildren pc = .ok (.ireturn, 1) → G l D E 3 0 0 (wdX0_allChildren cI cZ q0 q1 d2 d3 v_children) pc lv [.int z'] := fun z' e => by cases e; exact hend0
  clear hend0
  have hL4 : ∀ (n4 : Nat) (x1 : Int32) (x2 : Int32), fX0_allChildren_4 v_children n4 x1 x2 = some z → G l D E 3 0 0 (wdX0_allChildren cI cZ q0 q1 d2 d3 v_children) 4 [(0, .ref q0), (1, .int x1), (2, .int x2)] [] := by
    intro n4
    induction n4 with
    | zero =>
      intro x1 x2 hF
      rw [fX0_allChildren_4] at hF
      cases hF
    | succ n4 ih4 =>
      intro x1 x2 hF
      rw [fX0_allChildren_4] at hF
      refine g_iload_n (np := 5) h 2 rfl rfl dX0_allChildren_4 rfl ?_
      refine g_aload_n (np := 6) h 0 rfl rfl dX0_allChildren_5 rfl ?_
      refine g_get (np := 9) (T := TX0) h imX0_allChildren_u_X0 0 0 rfl rfl 2 (by decide) (imX0_allChildren_own _ (List.mem_of_getElem? (i := 0) rfl)) rfl dX0_allChildren_6 rfl ?_
      refine g_alen (np := 10) (v := (8 : Int32)) h 1 rfl (by decide) dX0_allChildren_9 rfl ?_
      refine g_icmp_ge h hF dX0_allChildren_10 (np := 13) rfl (tg := 28) rfl (fun c1001 hF => ?_) (fun c1001 hF => ?_)
      · refine g_iload_n (np := 29) h 1 rfl rfl dX0_allChildren_28 rfl ?_
        exact hend _ hF _ _ dX0_allChildren_29
      · refine g_iload_n (np := 14) h 1 rfl rfl dX0_allChildren_13 rfl ?_
        refine g_aload_n (np := 15) h 0 rfl rfl dX0_allChildren_14 rfl ?_
        refine g_get (np := 18) (T := TX0) h imX0_allChildren_u_X0 0 0 rfl rfl 2 (by decide) (imX0_allChildren_own _ (List.mem_of_getElem? (i := 0) rfl)) rfl dX0_allChildren_15 rfl ?_
        refine g_iload_n (np := 19) h 2 rfl rfl dX0_allChildren_18 rfl ?_
        refine g_iald (np := 20) h 1 rfl hF dX0_allChildren_19 rfl (fun hi1002 hF => ?_)
        refine g_iadd (np := 21) h dX0_allChildren_20 rfl ?_
        refine g_istore_n (np := 22) (lv' := [(1, .int (x1 + (rd v_children x2))), (0, .ref q0), (2, .int x2)]) h rfl (by decide) rfl dX0_allChildren_21 rfl ?_
        refine g_iinc (np := 25) (v := (x2 + (1 : Int32))) (lv' := [(2, .int (x2 + (1 : Int32))), (1, .int (x1 + (rd v_children x2))), (0, .ref q0)]) h 2 rfl rfl (by decide) rfl dX0_allChildren_22 rfl ?_
        refine g_goto h dX0_allChildren_25 (np := 4) rfl ?_
        refine g_lv [2, 1, 0] rfl ?_
        exact ih4 (x1 + (rd v_children x2)) (x2 + (1 : Int32)) hF
  unfold fX0_allChildren at hF
  refine g_iconst (np := 1) (v := (0 : Int32)) h (by decide) dX0_allChildren_0 rfl ?_
  refine g_istore_n (np := 2) (lv' := [(1, .int (0 : Int32)), (0, .ref q0)]) h rfl (by decide) rfl dX0_allChildren_1 rfl ?_
  refine g_iconst (np := 3) (v := (0 : Int32)) h (by decide) dX0_allChildren_2 rfl ?_
  refine g_istore_n (np := 4) (lv' := [(2, .int (0 : Int32)), (1, .int (0 : Int32)), (0, .ref q0)]) h rfl (by decide) rfl dX0_allChildren_3 rfl ?_
  refine g_lv [2, 1, 0] rfl ?_
  exact hL4 _ (0 : Int32) (0 : Int32) hF
theorem dX3_become_0 : decode cX3_become 0 = .ok (.aload_n 1, 1) := by decide +kernel
theorem dX3_become_1 : decode cX3_become 1 = .ok (.getfield 9, 3) := by decide +kernel
theorem dX3_become_4 : decode cX3_become 4 = .ok (.aload_n 0, 1) := by decide +kernel
theorem dX3_become_5 : decode cX3_become 5 = .ok (.getfield 9, 3) := by decide +kernel
theorem dX3_become_8 : decode cX3_become 8 = .ok (.invokestatic 37, 3) := by decide +kernel
theorem dX3_become_11 : decode cX3_become 11 = .ok (.aload_n 1, 1) := by decide +kernel
theorem dX3_become_12 : decode cX3_become 12 = .ok (.getfield 15, 3) := by decide +kernel
theorem dX3_become_15 : decode cX3_become 15 = .ok (.aload_n 0, 1) := by decide +kernel
theorem dX3_become_16 : decode cX3_become 16 = .ok (.getfield 15, 3) := by decide +kernel
theorem dX3_become_19 : decode cX3_become 19 = .ok (.invokestatic 37, 3) := by decide +kernel
theorem dX3_become_22 : decode cX3_become 22 = .ok (.aload_n 1, 1) := by decide +kernel
theorem dX3_become_23 : decode cX3_become 23 = .ok (.getfield 18, 3) := by decide +kernel
theorem dX3_become_26 : decode cX3_become 26 = .ok (.aload_n 0, 1) := by decide +kernel
theorem dX3_become_27 : decode cX3_become 27 = .ok (.getfield 18, 3) := by decide +kernel
theorem dX3_become_30 : decode cX3_become 30 = .ok (.invokestatic 37, 3) := by decide +kernel
theorem dX3_become_33 : decode cX3_become 33 = .ok (.aload_n 1, 1) := by decide +kernel
theorem dX3_become_34 : decode cX3_become 34 = .ok (.getfield 21, 3) := by decide +kernel
theorem dX3_become_37 : decode cX3_become 37 = .ok (.aload_n 0, 1) := by decide +kernel
theorem dX3_become_38 : decode cX3_become 38 = .ok (.getfield 21, 3) := by decide +kernel
theorem dX3_become_41 : decode cX3_become 41 = .ok (.invokestatic 37, 3) := by decide +kernel
theorem dX3_become_44 : decode cX3_become 44 = .ok (.aload_n 1, 1) := by decide +kernel
theorem dX3_become_45 : decode cX3_become 45 = .ok (.getfield 24, 3) := by decide +kernel
theorem dX3_become_48 : decode cX3_become 48 = .ok (.aload_n 0, 1) := by decide +kernel
theorem dX3_become_49 : decode cX3_become 49 = .ok (.getfield 24, 3) := by decide +kernel
theorem dX3_become_52 : decode cX3_become 52 = .ok (.invokestatic 37, 3) := by decide +kernel
theorem dX3_become_55 : decode cX3_become 55 = .ok (.aload_n 1, 1) := by decide +kernel
theorem dX3_become_56 : decode cX3_become 56 = .ok (.getfield 27, 3) := by decide +kernel
theorem dX3_become_59 : decode cX3_become 59 = .ok (.aload_n 0, 1) := by decide +kernel
theorem dX3_become_60 : decode cX3_become 60 = .ok (.getfield 27, 3) := by decide +kernel
theorem dX3_become_63 : decode cX3_become 63 = .ok (.invokestatic 37, 3) := by decide +kernel
theorem dX3_become_66 : decode cX3_become 66 = .ok (.aload_n 1, 1) := by decide +kernel
theorem dX3_become_67 : decode cX3_become 67 = .ok (.getfield 30, 3) := by decide +kernel
theorem dX3_become_70 : decode cX3_become 70 = .ok (.aload_n 0, 1) := by decide +kernel
theorem dX3_become_71 : decode cX3_become 71 = .ok (.getfield 30, 3) := by decide +kernel
theorem dX3_become_74 : decode cX3_become 74 = .ok (.invokestatic 37, 3) := by decide +kernel
theorem dX3_become_77 : decode cX3_become 77 = .ok (.return_, 1) := by decide +kernel
def wtX3_become : List Cond := .code yX3_become cX3_become 2 none :: (([.fieldLink RX3 9 "DriftKin$Pieces" "wreck" "[I", .static yX8_copy, .initialized RX8, .fieldLink RX3 15 "DriftKin$Pieces" "wood" "[I", .fieldLink RX3 18 "DriftKin$Pieces" "length" "[I", .fieldLink RX3 21 "DriftKin$Pieces" "left" "[I", .fieldLink RX3 24 "DriftKin$Pieces" "right" "[I", .fieldLink RX3 27 "DriftKin$Pieces" "place" "[I", .fieldLink RX3 30 "DriftKin$Pieces" "rings" "[I"]) ++ ((u_ws RX3 TX3 7) ++ ((wtX8_copy) ++ [])))
theorem imX3_become_own : ∀ w ∈ ([.fieldLink RX3 9 "DriftKin$Pieces" "wreck" "[I", .static yX8_copy, .initialized RX8, .fieldLink RX3 15 "DriftKin$Pieces" "wood" "[I", .fieldLink RX3 18 "DriftKin$Pieces" "length" "[I", .fieldLink RX3 21 "DriftKin$Pieces" "left" "[I", .fieldLink RX3 24 "DriftKin$Pieces" "right" "[I", .fieldLink RX3 27 "DriftKin$Pieces" "place" "[I", .fieldLink RX3 30 "DriftKin$Pieces" "rings" "[I"] : List Cond), w ∈ wtX3_become := fun w h => List.mem_cons_of_mem _ (inl h)
theorem imX3_become_u_X3 : ∀ w ∈ (u_ws RX3 TX3 7 : List Cond), w ∈ wtX3_become := fun w h => List.mem_cons_of_mem _ (inr (inl h))
theorem imX3_become_c_X8_copy : ∀ w ∈ (wtX8_copy : List Cond), w ∈ wtX3_become := fun w h => List.mem_cons_of_mem _ (inr (inr (inl h)))
theorem gdX3_become : ∀ w ∈ wtX3_become, Gd w := gdc rfl (gda (gdl (by decide +kernel)) (gda (gdu _ _ _) (gda gdX8_copy gdn)))
theorem gcX3_become_X8_copy : GoodIn wtX3_become (wtX8_copy) := fun w h => ⟨imX3_become_c_X8_copy w h, gdX8_copy w h⟩
def fX3_become (v_wreck : Nat → Int32) (v_wood : Nat → Int32) (v_length : Nat → Int32) (v_left : Nat → Int32) (v_right : Nat → Int32) (v_place : Nat → Int32) (v_rings : Nat → Int32) (v_wreck2 : Nat → Int32) (v_wood2 : Nat → Int32) (v_length2 : Nat → Int32) (v_left2 : Nat → Int32) (v_right2 : Nat → Int32) (v_place2 : Nat → Int32) (v_rings2 : Nat → Int32) : Option ((Nat → Int32) × (Nat → Int32) × (Nat → Int32) × (Nat → Int32) × (Nat → Int32) × (Nat → Int32) × (Nat → Int32)) :=
  (fX8_copy 10 10 v_wreck2 v_wreck).bind (fun r1 =>
    (fX8_copy 10 10 v_wood2 v_wood).bind (fun r2 =>
      (fX8_copy 10 10 v_length2 v_length).bind (fun r3 =>
        (fX8_copy 10 10 v_left2 v_left).bind (fun r4 =>
          (fX8_copy 10 10 v_right2 v_right).bind (fun r5 =>
            (fX8_copy 10 10 v_place2 v_place).bind (fun r6 =>
              (fX8_copy 10 10 v_rings2 v_rings).bind (fun r7 =>
                some (r1, r2, r3, r4, r5, r6, r7))))))))
def wdX3_become (cI cZ : ClassId) (q0 : Nat) (q1 : Nat) (q2 : Nat) (q3 : Nat) (q4 : Nat) (q5 : Nat) (q6 : Nat) (q7 : Nat) (q8 : Nat) (q9 : Nat) (q10 : Nat) (q11 : Nat) (q12 : Nat) (q13 : Nat) (q14 : Nat) (q15 : Nat)  (v_wreck : Nat → Int32) (v_wood : Nat → Int32) (v_length : Nat → Int32) (v_left : Nat → Int32) (v_right : Nat → Int32) (v_place : Nat → Int32) (v_rings : Nat → Int32) (v_wreck2 : Nat → Int32) (v_wood2 : Nat → Int32) (v_length2 : Nat → Int32) (v_left2 : Nat → Int32) (v_right2 : Nat → Int32) (v_place2 : Nat → Int32) (v_rings2 : Nat → Int32) : va_W := [(q0, .inr (3, [.ref q1, .ref q2, .ref q3, .ref q4, .ref q5, .ref q6, .ref q7])), (q1, .inl (cI, 10, .inl v_wreck)), (q2, .inl (cI, 10, .inl v_wood)), (q3, .inl (cI, 10, .inl v_length)), (q4, .inl (cI, 10, .inl v_left)), (q5, .inl (cI, 10, .inl v_right)), (q6, .inl (cI, 10, .inl v_place)), (q7, .inl (cI, 10, .inl v_rings)), (q8, .inr (3, [.ref q9, .ref q10, .ref q11, .ref q12, .ref q13, .ref q14, .ref q15])), (q9, .inl (cI, 10, .inl v_wreck2)), (q10, .inl (cI, 10, .inl v_wood2)), (q11, .inl (cI, 10, .inl v_length2)), (q12, .inl (cI, 10, .inl v_left2)), (q13, .inl (cI, 10, .inl v_right2)), (q14, .inl (cI, 10, .inl v_place2)), (q15, .inl (cI, 10, .inl v_rings2))]
abbrev rmX3_become : Jvm.Room := { frames := 1, cells := 0, slots := 0, locals := 22 }
theorem hyX3_become : yX3_become.cls ≠ "java/lang/invoke/MethodHandle" ∧ yX3_become.cls ≠ "java/lang/invoke/VarHandle" ∧ (parseMethodDescriptor yX3_become.desc).map (fun d => d.parameters.length) = some 1 := by decide +kernel
set_option maxHeartbeats 4000000 in
set_option maxRecDepth 100000 in
theorem mX3_become (l : Launch) (D : va_G) (cI cZ : ClassId) (q0 : Nat) (q1 : Nat) (q2 : Nat) (q3 : Nat) (q4 : Nat) (q5 : Nat) (q6 : Nat) (q7 : Nat) (q8 : Nat) (q9 : Nat) (q10 : Nat) (q11 : Nat) (q12 : Nat) (q13 : Nat) (q14 : Nat) (q15 : Nat) (v_wreck : Nat → Int32) (v_wood : Nat → Int32) (v_length : Nat → Int32) (v_left : Nat → Int32) (v_right : Nat → Int32) (v_place : Nat → Int32) (v_rings : Nat → Int32) (v_wreck2 : Nat → Int32) (v_wood2 : Nat → Int32) (v_length2 : Nat → Int32) (v_left2 : Nat → Int32) (v_right2 : Nat → Int32) (v_place2 : Nat → Int32) (v_rings2 : Nat → Int32) (z : (Nat → Int32) × (Nat → Int32) × (Nat → Int32) × (Nat → Int32) × (Nat → Int32) × (Nat → Int32) × (Nat → Int32)) (hF : fX3_become v_wreck v_wood v_length v_left v_right v_place v_rings v_wreck2 v_wood2 v_length2 v_left2 v_right2 v_place2 v_rings2 = some z) : mp l yX3_become wtX3_become rmX3_become D cI cZ [.ref q0, .ref q8] (wdX3_become cI cZ q0 q1 q2 q3 q4 q5 q6 q7 q8 q9 q10 q11 q12 q13 q14 q15 v_wreck v_wood v_length v_left v_right v_place v_rings v_wreck2 v_wood2 v_length2 v_left2 v_right2 v_place2 v_rings2) none (wdX3_become cI cZ q0 q1 q2 q3 q4 q5 q6 q7 q8 q9 q10 q11 q12 q13 q14 q15 z.1 z.2.1 z.2.2.1 z.2.2.2.1 z.2.2.2.2.1 z.2.2.2.2.2.1 z.2.2.2.2.2.2 v_wreck2 v_wood2 v_length2 v_left2 v_right2 v_place2 v_rings2) := by
  refine mp_v (lv0 := [(0, .ref q0), (1, .ref q8)]) cX3_become 2 (by decide) rfl (Nat.le_of_ble_eq_true rfl) rfl (fun E h hend0 => ?_)
  have hend : ∀ (z' : (Nat → Int32) × (Nat → Int32) × (Nat → Int32) × (Nat → Int32) × (Nat → Int32) × (Nat → Int32) × (Nat → Int32)), some z' = some z → ∀ (pc : Nat) (lv : List (Nat × Value)), decode cX3_become pc = .ok (.return_, 1) → G l D E 2 0 0 (wdX3_become cI cZ q0 q1 q2 q3 q4 q5 q6 q7 q8 q9 q10 q11 q12 q13 q14 q15 (z'.1) (z'.2.1) (z'.2.2.1) (z'.2.2.2.1) (z'.2.2.2.2.1) (z'.2.2.2.2.2.1) (z'.2.2.2.2.2.2) v_wreck2 v_wood2 v_length2 v_left2 v_right2 v_place2 v_rings2) pc lv [] := fun z' e => by cases e; exact hend0
  clear hend0
  unfold fX3_become at hF
  refine g_aload_n (np := 1) h 1 rfl rfl dX3_become_0 rfl ?_
  refine g_get (np := 4) (T := TX3) h imX3_become_u_X3 8 3 rfl rfl 0 (by decide) (imX3_become_own _ (List.mem_of_getElem? (i := 0) rfl)) rfl dX3_become_1 rfl ?_
  refine g_aload_n (np := 5) h 0 rfl rfl dX3_become_4 rfl ?_
  refine g_get (np := 8) (T := TX3) h imX3_become_u_X3 0 3 rfl rfl 0 (by decide) (imX3_become_own _ (List.mem_of_getElem? (i := 0) rfl)) rfl dX3_become_5 rfl ?_
  obtain ⟨r1, hr1, hF⟩ := Option.bind_eq_some_iff.mp hF
  refine g_callN (np := 11) (Wd' := (wdX3_become cI cZ q0 q1 q2 q3 q4 q5 q6 q7 q8 q9 q10 q11 q12 q13 q14 q15 r1 v_wood v_length v_left v_right v_place v_rings v_wreck2 v_wood2 v_length2 v_left2 v_right2 v_place2 v_rings2)) (As := [.ref q9, .ref q1]) h (mX8_copy l D cI cZ q9 q1 10 10 v_wreck2 v_wreck r1 hr1) gcX3_become_X8_copy rfl ⟨rfl, rfl⟩ (List.mem_of_getElem? (i := 12) rfl) (imX3_become_own _ (List.mem_of_getElem? (i := 2) rfl)) (imX3_become_own _ (List.mem_of_getElem? (i := 1) rfl)) hyX8_copy rfl rfl rfl rfl ⟨Nat.zero_le _, Nat.zero_le _⟩ [9, 1] [0, 2, 3, 4, 5, 6, 7, 8, 10, 11, 12, 13, 14, 15] (N := 16) (by decide +kernel) rfl rfl rfl rfl rfl dX3_become_8 rfl ?_
  refine g_aload_n (np := 12) h 1 rfl rfl dX3_become_11 rfl ?_
  refine g_get (np := 15) (T := TX3) h imX3_become_u_X3 8 3 rfl rfl 1 (by decide) (imX3_become_own _ (List.mem_of_getElem? (i := 3) rfl)) rfl dX3_become_12 rfl ?_
  refine g_aload_n (np := 16) h 0 rfl rfl dX3_become_15 rfl ?_
  refine g_get (np := 19) (T := TX3) h imX3_become_u_X3 0 3 rfl rfl 1 (by decide) (imX3_become_own _ (List.mem_of_getElem? (i := 3) rfl)) rfl dX3_become_16 rfl ?_
  obtain ⟨r2, hr2, hF⟩ := Option.bind_eq_some_iff.mp hF
  refine g_callN (np := 22) (Wd' := (wdX3_become cI cZ q0 q1 q2 q3 q4 q5 q6 q7 q8 q9 q10 q11 q12 q13 q14 q15 r1 r2 v_length v_left v_right v_place v_rings v_wreck2 v_wood2 v_length2 v_left2 v_right2 v_place2 v_rings2)) (As := [.ref q10, .ref q2]) h (mX8_copy l D cI cZ q10 q2 10 10 v_wood2 v_wood r2 hr2) gcX3_become_X8_copy rfl ⟨rfl, rfl⟩ (List.mem_of_getElem? (i := 12) rfl) (imX3_become_own _ (List.mem_of_getElem? (i := 2) rfl)) (imX3_become_own _ (List.mem_of_getElem? (i := 1) rfl)) hyX8_copy rfl rfl rfl rfl ⟨Nat.zero_le _, Nat.zero_le _⟩ [10, 2] [0, 1, 3, 4, 5, 6, 7, 8, 9, 11, 12, 13, 14, 15] (N := 16) (by decide +kernel) rfl rfl rfl rfl rfl dX3_become_19 rfl ?_
  refine g_aload_n (np := 23) h 1 rfl rfl dX3_become_22 rfl ?_
  refine g_get (np := 26) (T := TX3) h imX3_become_u_X3 8 3 rfl rfl 2 (by decide) (imX3_become_own _ (List.mem_of_getElem? (i := 4) rfl)) rfl dX3_become_23 rfl ?_
  refine g_aload_n (np := 27) h 0 rfl rfl dX3_become_26 rfl ?_
  refine g_get (np := 30) (T := TX3) h imX3_become_u_X3 0 3 rfl rfl 2 (by decide) (imX3_become_own _ (List.mem_of_getElem? (i := 4) rfl)) rfl dX3_become_27 rfl ?_
  obtain ⟨r3, hr3, hF⟩ := Option.bind_eq_some_iff.mp hF
  refine g_callN (np := 33) (Wd' := (wdX3_become cI cZ q0 q1 q2 q3 q4 q5 q6 q7 q8 q9 q10 q11 q12 q13 q14 q15 r1 r2 r3 v_left v_right v_place v_rings v_wreck2 v_wood2 v_length2 v_left2 v_right2 v_place2 v_rings2)) (As := [.ref q11, .ref q3]) h (mX8_copy l D cI cZ q11 q3 10 10 v_length2 v_length r3 hr3) gcX3_become_X8_copy rfl ⟨rfl, rfl⟩ (List.mem_of_getElem? (i := 12) rfl) (imX3_become_own _ (List.mem_of_getElem? (i := 2) rfl)) (imX3_become_own _ (List.mem_of_getElem? (i := 1) rfl)) hyX8_copy rfl rfl rfl rfl ⟨Nat.zero_le _, Nat.zero_le _⟩ [11, 3] [0, 1, 2, 4, 5, 6, 7, 8, 9, 10, 12, 13, 14, 15] (N := 16) (by decide +kernel) rfl rfl rfl rfl rfl dX3_become_30 rfl ?_
  refine g_aload_n (np := 34) h 1 rfl rfl dX3_become_33 rfl ?_
  refine g_get (np := 37) (T := TX3) h imX3_become_u_X3 8 3 rfl rfl 3 (by decide) (imX3_become_own _ (List.mem_of_getElem? (i := 5) rfl)) rfl dX3_become_34 rfl ?_
  refine g_aload_n (np := 38) h 0 rfl rfl dX3_become_37 rfl ?_
  refine g_get (np := 41) (T := TX3) h imX3_become_u_X3 0 3 rfl rfl 3 (by decide) (imX3_become_own _ (List.mem_of_getElem? (i := 5) rfl)) rfl dX3_become_38 rfl ?_
  obtain ⟨r4, hr4, hF⟩ := Option.bind_eq_some_iff.mp hF
  refine g_callN (np := 44) (Wd' := (wdX3_become cI cZ q0 q1 q2 q3 q4 q5 q6 q7 q8 q9 q10 q11 q12 q13 q14 q15 r1 r2 r3 r4 v_right v_place v_rings v_wreck2 v_wood2 v_length2 v_left2 v_right2 v_place2 v_rings2)) (As := [.ref q12, .ref q4]) h (mX8_copy l D cI cZ q12 q4 10 10 v_left2 v_left r4 hr4) gcX3_become_X8_copy rfl ⟨rfl, rfl⟩ (List.mem_of_getElem? (i := 12) rfl) (imX3_become_own _ (List.mem_of_getElem? (i := 2) rfl)) (imX3_become_own _ (List.mem_of_getElem? (i := 1) rfl)) hyX8_copy rfl rfl rfl rfl ⟨Nat.zero_le _, Nat.zero_le _⟩ [12, 4] [0, 1, 2, 3, 5, 6, 7, 8, 9, 10, 11, 13, 14, 15] (N := 16) (by decide +kernel) rfl rfl rfl rfl rfl dX3_become_41 rfl ?_
  refine g_aload_n (np := 45) h 1 rfl rfl dX3_become_44 rfl ?_
  refine g_get (np := 48) (T := TX3) h imX3_become_u_X3 8 3 rfl rfl 4 (by decide) (imX3_become_own _ (List.mem_of_getElem? (i := 6) rfl)) rfl dX3_become_45 rfl ?_
  refine g_aload_n (np := 49) h 0 rfl rfl dX3_become_48 rfl ?_
  refine g_get (np := 52) (T := TX3) h imX3_become_u_X3 0 3 rfl rfl 4 (by decide) (imX3_become_own _ (List.mem_of_getElem? (i := 6) rfl)) rfl dX3_become_49 rfl ?_
  obtain ⟨r5, hr5, hF⟩ := Option.bind_eq_some_iff.mp hF
  refine g_callN (np := 55) (Wd' := (wdX3_become cI cZ q0 q1 q2 q3 q4 q5 q6 q7 q8 q9 q10 q11 q12 q13 q14 q15 r1 r2 r3 r4 r5 v_place v_rings v_wreck2 v_wood2 v_length2 v_left2 v_right2 v_place2 v_rings2)) (As := [.ref q13, .ref q5]) h (mX8_copy l D cI cZ q13 q5 10 10 v_right2 v_right r5 hr5) gcX3_become_X8_copy rfl ⟨rfl, rfl⟩ (List.mem_of_getElem? (i := 12) rfl) (imX3_become_own _ (List.mem_of_getElem? (i := 2) rfl)) (imX3_become_own _ (List.mem_of_getElem? (i := 1) rfl)) hyX8_copy rfl rfl rfl rfl ⟨Nat.zero_le _, Nat.zero_le _⟩ [13, 5] [0, 1, 2, 3, 4, 6, 7, 8, 9, 10, 11, 12, 14, 15] (N := 16) (by decide +kernel) rfl rfl rfl rfl rfl dX3_become_52 rfl ?_
  refine g_aload_n (np := 56) h 1 rfl rfl dX3_become_55 rfl ?_
  refine g_get (np := 59) (T := TX3) h imX3_become_u_X3 8 3 rfl rfl 5 (by decide) (imX3_become_own _ (List.mem_of_getElem? (i := 7) rfl)) rfl dX3_become_56 rfl ?_
  refine g_aload_n (np := 60) h 0 rfl rfl dX3_become_59 rfl ?_
  refine g_get (np := 63) (T := TX3) h imX3_become_u_X3 0 3 rfl rfl 5 (by decide) (imX3_become_own _ (List.mem_of_getElem? (i := 7) rfl)) rfl dX3_become_60 rfl ?_
  obtain ⟨r6, hr6, hF⟩ := Option.bind_eq_some_iff.mp hF
  refine g_callN (np := 66) (Wd' := (wdX3_become cI cZ q0 q1 q2 q3 q4 q5 q6 q7 q8 q9 q10 q11 q12 q13 q14 q15 r1 r2 r3 r4 r5 r6 v_rings v_wreck2 v_wood2 v_length2 v_left2 v_right2 v_place2 v_rings2)) (As := [.ref q14, .ref q6]) h (mX8_copy l D cI cZ q14 q6 10 10 v_place2 v_place r6 hr6) gcX3_become_X8_copy rfl ⟨rfl, rfl⟩ (List.mem_of_getElem? (i := 12) rfl) (imX3_become_own _ (List.mem_of_getElem? (i := 2) rfl)) (imX3_become_own _ (List.mem_of_getElem? (i := 1) rfl)) hyX8_copy rfl rfl rfl rfl ⟨Nat.zero_le _, Nat.zero_le _⟩ [14, 6] [0, 1, 2, 3, 4, 5, 7, 8, 9, 10, 11, 12, 13, 15] (N := 16) (by decide +kernel) rfl rfl rfl rfl rfl dX3_become_63 rfl ?_
  refine g_aload_n (np := 67) h 1 rfl rfl dX3_become_66 rfl ?_
  refine g_get (np := 70) (T := TX3) h imX3_become_u_X3 8 3 rfl rfl 6 (by decide) (imX3_become_own _ (List.mem_of_getElem? (i := 8) rfl)) rfl dX3_become_67 rfl ?_
  refine g_aload_n (np := 71) h 0 rfl rfl dX3_become_70 rfl ?_
  refine g_get (np := 74) (T := TX3) h imX3_become_u_X3 0 3 rfl rfl 6 (by decide) (imX3_become_own _ (List.mem_of_getElem? (i := 8) rfl)) rfl dX3_become_71 rfl ?_
  obtain ⟨r7, hr7, hF⟩ := Option.bind_eq_some_iff.mp hF
  refine g_callN (np := 77) (Wd' := (wdX3_become cI cZ q0 q1 q2 q3 q4 q5 q6 q7 q8 q9 q10 q11 q12 q13 q14 q15 r1 r2 r3 r4 r5 r6 r7 v_wreck2 v_wood2 v_length2 v_left2 v_right2 v_place2 v_rings2)) (As := [.ref q15, .ref q7]) h (mX8_copy l D cI cZ q15 q7 10 10 v_rings2 v_rings r7 hr7) gcX3_become_X8_copy rfl ⟨rfl, rfl⟩ (List.mem_of_getElem? (i := 12) rfl) (imX3_become_own _ (List.mem_of_getElem? (i := 2) rfl)) (imX3_become_own _ (List.mem_of_getElem? (i := 1) rfl)) hyX8_copy rfl rfl rfl rfl ⟨Nat.zero_le _, Nat.zero_le _⟩ [15, 7] [0, 1, 2, 3, 4, 5, 6, 8, 9, 10, 11, 12, 13, 14] (N := 16) (by decide +kernel) rfl rfl rfl rfl rfl dX3_become_74 rfl ?_
  exact hend _ hF _ _ dX3_become_77
theorem dX3_detail_0 : decode cX3_detail 0 = .ok (.iload_n 2, 1) := by decide +kernel
theorem dX3_detail_1 : decode cX3_detail 1 = .ok (.tableswitch 93 0 5 #[39, 48, 57, 66, 75, 84], 39) := by decide +kernel
theorem dX3_detail_40 : decode cX3_detail 40 = .ok (.aload_n 0, 1) := by decide +kernel
theorem dX3_detail_41 : decode cX3_detail 41 = .ok (.getfield 9, 3) := by decide +kernel
theorem dX3_detail_44 : decode cX3_detail 44 = .ok (.iload_n 1, 1) := by decide +kernel
theorem dX3_detail_45 : decode cX3_detail 45 = .ok (.invokestatic 41, 3) := by decide +kernel
theorem dX3_detail_48 : decode cX3_detail 48 = .ok (.ireturn, 1) := by decide +kernel
theorem dX3_detail_49 : decode cX3_detail 49 = .ok (.aload_n 0, 1) := by decide +kernel
theorem dX3_detail_50 : decode cX3_detail 50 = .ok (.getfield 15, 3) := by decide +kernel
theorem dX3_detail_53 : decode cX3_detail 53 = .ok (.iload_n 1, 1) := by decide +kernel
theorem dX3_detail_54 : decode cX3_detail 54 = .ok (.invokestatic 41, 3) := by decide +kernel
theorem dX3_detail_57 : decode cX3_detail 57 = .ok (.ireturn, 1) := by decide +kernel
theorem dX3_detail_58 : decode cX3_detail 58 = .ok (.aload_n 0, 1) := by decide +kernel
theorem dX3_detail_59 : decode cX3_detail 59 = .ok (.getfield 18, 3) := by decide +kernel
theorem dX3_detail_62 : decode cX3_detail 62 = .ok (.iload_n 1, 1) := by decide +kernel
theorem dX3_detail_63 : decode cX3_detail 63 = .ok (.invokestatic 41, 3) := by decide +kernel
theorem dX3_detail_66 : decode cX3_detail 66 = .ok (.ireturn, 1) := by decide +kernel
theorem dX3_detail_67 : decode cX3_detail 67 = .ok (.aload_n 0, 1) := by decide +kernel
theorem dX3_detail_68 : decode cX3_detail 68 = .ok (.getfield 21, 3) := by decide +kernel
theorem dX3_detail_71 : decode cX3_detail 71 = .ok (.iload_n 1, 1) := by decide +kernel
theorem dX3_detail_72 : decode cX3_detail 72 = .ok (.invokestatic 41, 3) := by decide +kernel
theorem dX3_detail_75 : decode cX3_detail 75 = .ok (.ireturn, 1) := by decide +kernel
theorem dX3_detail_76 : decode cX3_detail 76 = .ok (.aload_n 0, 1) := by decide +kernel
theorem dX3_detail_77 : decode cX3_detail 77 = .ok (.getfield 24, 3) := by decide +kernel
theorem dX3_detail_80 : decode cX3_detail 80 = .ok (.iload_n 1, 1) := by decide +kernel
theorem dX3_detail_81 : decode cX3_detail 81 = .ok (.invokestatic 41, 3) := by decide +kernel
theorem dX3_detail_84 : decode cX3_detail 84 = .ok (.ireturn, 1) := by decide +kernel
theorem dX3_detail_85 : decode cX3_detail 85 = .ok (.aload_n 0, 1) := by decide +kernel
theorem dX3_detail_86 : decode cX3_detail 86 = .ok (.getfield 27, 3) := by decide +kernel
theorem dX3_detail_89 : decode cX3_detail 89 = .ok (.iload_n 1, 1) := by decide +kernel
theorem dX3_detail_90 : decode cX3_detail 90 = .ok (.invokestatic 41, 3) := by decide +kernel
theorem dX3_detail_93 : decode cX3_detail 93 = .ok (.ireturn, 1) := by decide +kernel
theorem dX3_detail_94 : decode cX3_detail 94 = .ok (.aload_n 0, 1) := by decide +kernel
theorem dX3_detail_95 : decode cX3_detail 95 = .ok (.getfield 30, 3) := by decide +kernel
theorem dX3_detail_98 : decode cX3_detail 98 = .ok (.iload_n 1, 1) := by decide +kernel
theorem dX3_detail_99 : decode cX3_detail 99 = .ok (.invokestatic 41, 3) := by decide +kernel
theorem dX3_detail_102 : decode cX3_detail 102 = .ok (.ireturn, 1) := by decide +kernel
def wtX3_detail : List Cond := .code yX3_detail cX3_detail 3 (some .int) :: (([.fieldLink RX3 9 "DriftKin$Pieces" "wreck" "[I", .static yX8_at, .initialized RX8, .fieldLink RX3 15 "DriftKin$Pieces" "wood" "[I", .fieldLink RX3 18 "DriftKin$Pieces" "length" "[I", .fieldLink RX3 21 "DriftKin$Pieces" "left" "[I", .fieldLink RX3 24 "DriftKin$Pieces" "right" "[I", .fieldLink RX3 27 "DriftKin$Pieces" "place" "[I", .fieldLink RX3 30 "DriftKin$Pieces" "rings" "[I"]) ++ ((u_ws RX3 TX3 7) ++ ((wtX8_at) ++ [])))
theorem imX3_detail_own : ∀ w ∈ ([.fieldLink RX3 9 "DriftKin$Pieces" "wreck" "[I", .static yX8_at, .initialized RX8, .fieldLink RX3 15 "DriftKin$Pieces" "wood" "[I", .fieldLink RX3 18 "DriftKin$Pieces" "length" "[I", .fieldLink RX3 21 "DriftKin$Pieces" "left" "[I", .fieldLink RX3 24 "DriftKin$Pieces" "right" "[I", .fieldLink RX3 27 "DriftKin$Pieces" "place" "[I", .fieldLink RX3 30 "DriftKin$Pieces" "rings" "[I"] : List Cond), w ∈ wtX3_detail := fun w h => List.mem_cons_of_mem _ (inl h)
theorem imX3_detail_u_X3 : ∀ w ∈ (u_ws RX3 TX3 7 : List Cond), w ∈ wtX3_detail := fun w h => List.mem_cons_of_mem _ (inr (inl h))
theorem imX3_detail_c_X8_at : ∀ w ∈ (wtX8_at : List Cond), w ∈ wtX3_detail := fun w h => List.mem_cons_of_mem _ (inr (inr (inl h)))
theorem gdX3_detail : ∀ w ∈ wtX3_detail, Gd w := gdc rfl (gda (gdl (by decide +kernel)) (gda (gdu _ _ _) (gda gdX8_at gdn)))
theorem gcX3_detail_X8_at : GoodIn wtX3_detail (wtX8_at) := fun w h => ⟨imX3_detail_c_X8_at w h, gdX8_at w h⟩
def fX3_detail (v_wreck : Nat → Int32) (v_wood : Nat → Int32) (v_length : Nat → Int32) (v_left : Nat → Int32) (v_right : Nat → Int32) (v_place : Nat → Int32) (v_rings : Nat → Int32) (x1 : Int32) (x2 : Int32) : Option (Int32) :=
  if x2 = (0 : Int32) then
    (fX8_at 10 v_wreck x1).bind (fun r2 =>
      some r2)
  else
    if x2 = (1 : Int32) then
      (fX8_at 10 v_wood x1).bind (fun r3 =>
        some r3)
    else
      if x2 = (2 : Int32) then
        (fX8_at 10 v_length x1).bind (fun r4 =>
          some r4)
      else
        if x2 = (3 : Int32) then
          (fX8_at 10 v_left x1).bind (fun r5 =>
            some r5)
        else
          if x2 = (4 : Int32) then
            (fX8_at 10 v_right x1).bind (fun r6 =>
              some r6)
          else
            if x2 = (5 : Int32) then
              (fX8_at 10 v_place x1).bind (fun r7 =>
                some r7)
            else
              (fX8_at 10 v_rings x1).bind (fun r8 =>
                some r8)
def wdX3_detail (cI cZ : ClassId) (q0 : Nat) (q1 : Nat) (q2 : Nat) (q3 : Nat) (q4 : Nat) (q5 : Nat) (q6 : Nat) (q7 : Nat)  (v_wreck : Nat → Int32) (v_wood : Nat → Int32) (v_length : Nat → Int32) (v_left : Nat → Int32) (v_right : Nat → Int32) (v_place : Nat → Int32) (v_rings : Nat → Int32) : va_W := [(q0, .inr (3, [.ref q1, .ref q2, .ref q3, .ref q4, .ref q5, .ref q6, .ref q7])), (q1, .inl (cI, 10, .inl v_wreck)), (q2, .inl (cI, 10, .inl v_wood)), (q3, .inl (cI, 10, .inl v_length)), (q4, .inl (cI, 10, .inl v_left)), (q5, .inl (cI, 10, .inl v_right)), (q6, .inl (cI, 10, .inl v_place)), (q7, .inl (cI, 10, .inl v_rings))]
abbrev rmX3_detail : Jvm.Room := { frames := 1, cells := 0, slots := 0, locals := 21 }
theorem hyX3_detail : yX3_detail.cls ≠ "java/lang/invoke/MethodHandle" ∧ yX3_detail.cls ≠ "java/lang/invoke/VarHandle" ∧ (parseMethodDescriptor yX3_detail.desc).map (fun d => d.parameters.length) = some 2 := by decide +kernel
set_option maxHeartbeats 4000000 in
set_option maxRecDepth 100000 in
theorem mX3_detail (l : Launch) (D : va_G) (cI cZ : ClassId) (q0 : Nat) (q1 : Nat) (q2 : Nat) (q3 : Nat) (q4 : Nat) (q5 : Nat) (q6 : Nat) (q7 : Nat) (v_wreck : Nat → Int32) (v_wood : Nat → Int32) (v_length : Nat → Int32) (v_left : Nat → Int32) (v_right : Nat → Int32) (v_place : Nat → Int32) (v_rings : Nat → Int32) (x1 : Int32) (x2 : Int32) (z : Int32) (hF : fX3_detail v_wreck v_wood v_length v_left v_right v_place v_rings x1 x2 = some z) : mp l yX3_detail wtX3_detail rmX3_detail D cI cZ [.ref q0, .int x1, .int x2] (wdX3_detail cI cZ q0 q1 q2 q3 q4 q5 q6 q7 v_wreck v_wood v_length v_left v_right v_place v_rings) (some (.int z)) (wdX3_detail cI cZ q0 q1 q2 q3 q4 q5 q6 q7 v_wreck v_wood v_length v_left v_right v_place v_rings) := by
  refine mp_i (lv0 := [(0, .ref q0), (1, .int x1), (2, .int x2)]) cX3_detail 3 z (by decide) rfl (Nat.le_of_ble_eq_true rfl) rfl (fun E h hend0 => ?_)
  have hend : ∀ (z' : Int32), some z' = some z → ∀ (pc : Nat) (lv : List (Nat × Value)), decode cX3_detail pc = .ok (.ireturn, 1) → G l D E 3 0 0 (wdX3_detail cI cZ q0 q1 q2 q3 q4 q5 q6 q7 v_wreck v_wood v_length v_left v_right v_place v_rings) pc lv [.int z'] := fun z' e => by cases e; exact hend0
  clear hend0
  unfold fX3_detail at hF
  refine g_iload_n (np := 1) h 2 rfl rfl dX3_detail_0 rfl ?_
  by_cases c1_0 : x2 = (0 : Int32)
  · rw [if_pos c1_0] at hF
    refine g_tsIn (np := 40) h dX3_detail_1 0 (by rw [c1_0]; decide) (by decide) (by decide) rfl rfl ?_
    refine g_aload_n (np := 41) h 0 rfl rfl dX3_detail_40 rfl ?_
    refine g_get (np := 44) (T := TX3) h imX3_detail_u_X3 0 3 rfl rfl 0 (by decide) (imX3_detail_own _ (List.mem_of_getElem? (i := 0) rfl)) rfl dX3_detail_41 rfl ?_
    refine g_iload_n (np := 45) h 1 rfl rfl dX3_detail_44 rfl ?_
    obtain ⟨r2, hr2, hF⟩ := Option.bind_eq_some_iff.mp hF
    refine g_callN (np := 48) (Wd' := (wdX3_detail cI cZ q0 q1 q2 q3 q4 q5 q6 q7 v_wreck v_wood v_length v_left v_right v_place v_rings)) (As := [.ref q1, .int x1]) h (mX8_at l D cI cZ q1 10 v_wreck x1 r2 hr2) gcX3_detail_X8_at rfl ⟨rfl, rfl⟩ (List.mem_of_getElem? (i := 19) rfl) (imX3_detail_own _ (List.mem_of_getElem? (i := 2) rfl)) (imX3_detail_own _ (List.mem_of_getElem? (i := 1) rfl)) hyX8_at rfl rfl rfl rfl ⟨Nat.zero_le _, Nat.zero_le _⟩ [1] [0, 2, 3, 4, 5, 6, 7] (N := 8) (by decide +kernel) rfl rfl rfl rfl rfl dX3_detail_45 rfl ?_
    exact hend _ hF _ _ dX3_detail_48
  rw [if_neg c1_0] at hF
  by_cases c1_1 : x2 = (1 : Int32)
  · rw [if_pos c1_1] at hF
    refine g_tsIn (np := 49) h dX3_detail_1 1 (by rw [c1_1]; decide) (by decide) (by decide) rfl rfl ?_
    refine g_aload_n (np := 50) h 0 rfl rfl dX3_detail_49 rfl ?_
    refine g_get (np := 53) (T := TX3) h imX3_detail_u_X3 0 3 rfl rfl 1 (by decide) (imX3_detail_own _ (List.mem_of_getElem? (i := 3) rfl)) rfl dX3_detail_50 rfl ?_
    refine g_iload_n (np := 54) h 1 rfl rfl dX3_detail_53 rfl ?_
    obtain ⟨r3, hr3, hF⟩ := Option.bind_eq_some_iff.mp hF
    refine g_callN (np := 57) (Wd' := (wdX3_detail cI cZ q0 q1 q2 q3 q4 q5 q6 q7 v_wreck v_wood v_length v_left v_right v_place v_rings)) (As := [.ref q2, .int x1]) h (mX8_at l D cI cZ q2 10 v_wood x1 r3 hr3) gcX3_detail_X8_at rfl ⟨rfl, rfl⟩ (List.mem_of_getElem? (i := 19) rfl) (imX3_detail_own _ (List.mem_of_getElem? (i := 2) rfl)) (imX3_detail_own _ (List.mem_of_getElem? (i := 1) rfl)) hyX8_at rfl rfl rfl rfl ⟨Nat.zero_le _, Nat.zero_le _⟩ [2] [0, 1, 3, 4, 5, 6, 7] (N := 8) (by decide +kernel) rfl rfl rfl rfl rfl dX3_detail_54 rfl ?_
    exact hend _ hF _ _ dX3_detail_57
  rw [if_neg c1_1] at hF
  by_cases c1_2 : x2 = (2 : Int32)
  · rw [if_pos c1_2] at hF
    refine g_tsIn (np := 58) h dX3_detail_1 2 (by rw [c1_2]; decide) (by decide) (by decide) rfl rfl ?_
    refine g_aload_n (np := 59) h 0 rfl rfl dX3_detail_58 rfl ?_
    refine g_get (np := 62) (T := TX3) h imX3_detail_u_X3 0 3 rfl rfl 2 (by decide) (imX3_detail_own _ (List.mem_of_getElem? (i := 4) rfl)) rfl dX3_detail_59 rfl ?_
    refine g_iload_n (np := 63) h 1 rfl rfl dX3_detail_62 rfl ?_
    obtain ⟨r4, hr4, hF⟩ := Option.bind_eq_some_iff.mp hF
    refine g_callN (np := 66) (Wd' := (wdX3_detail cI cZ q0 q1 q2 q3 q4 q5 q6 q7 v_wreck v_wood v_length v_left v_right v_place v_rings)) (As := [.ref q3, .int x1]) h (mX8_at l D cI cZ q3 10 v_length x1 r4 hr4) gcX3_detail_X8_at rfl ⟨rfl, rfl⟩ (List.mem_of_getElem? (i := 19) rfl) (imX3_detail_own _ (List.mem_of_getElem? (i := 2) rfl)) (imX3_detail_own _ (List.mem_of_getElem? (i := 1) rfl)) hyX8_at rfl rfl rfl rfl ⟨Nat.zero_le _, Nat.zero_le _⟩ [3] [0, 1, 2, 4, 5, 6, 7] (N := 8) (by decide +kernel) rfl rfl rfl rfl rfl dX3_detail_63 rfl ?_
    exact hend _ hF _ _ dX3_detail_66
  rw [if_neg c1_2] at hF
  by_cases c1_3 : x2 = (3 : Int32)
  · rw [if_pos c1_3] at hF
    refine g_tsIn (np := 67) h dX3_detail_1 3 (by rw [c1_3]; decide) (by decide) (by decide) rfl rfl ?_
    refine g_aload_n (np := 68) h 0 rfl rfl dX3_detail_67 rfl ?_
    refine g_get (np := 71) (T := TX3) h imX3_detail_u_X3 0 3 rfl rfl 3 (by decide) (imX3_detail_own _ (List.mem_of_getElem? (i := 5) rfl)) rfl dX3_detail_68 rfl ?_
    refine g_iload_n (np := 72) h 1 rfl rfl dX3_detail_71 rfl ?_
    obtain ⟨r5, hr5, hF⟩ := Option.bind_eq_some_iff.mp hF
    refine g_callN (np := 75) (Wd' := (wdX3_detail cI cZ q0 q1 q2 q3 q4 q5 q6 q7 v_wreck v_wood v_length v_left v_right v_place v_rings)) (As := [.ref q4, .int x1]) h (mX8_at l D cI cZ q4 10 v_left x1 r5 hr5) gcX3_detail_X8_at rfl ⟨rfl, rfl⟩ (List.mem_of_getElem? (i := 19) rfl) (imX3_detail_own _ (List.mem_of_getElem? (i := 2) rfl)) (imX3_detail_own _ (List.mem_of_getElem? (i := 1) rfl)) hyX8_at rfl rfl rfl rfl ⟨Nat.zero_le _, Nat.zero_le _⟩ [4] [0, 1, 2, 3, 5, 6, 7] (N := 8) (by decide +kernel) rfl rfl rfl rfl rfl dX3_detail_72 rfl ?_
    exact hend _ hF _ _ dX3_detail_75
  rw [if_neg c1_3] at hF
  by_cases c1_4 : x2 = (4 : Int32)
  · rw [if_pos c1_4] at hF
    refine g_tsIn (np := 76) h dX3_detail_1 4 (by rw [c1_4]; decide) (by decide) (by decide) rfl rfl ?_
    refine g_aload_n (np := 77) h 0 rfl rfl dX3_detail_76 rfl ?_
    refine g_get (np := 80) (T := TX3) h imX3_detail_u_X3 0 3 rfl rfl 4 (by decide) (imX3_detail_own _ (List.mem_of_getElem? (i := 6) rfl)) rfl dX3_detail_77 rfl ?_
    refine g_iload_n (np := 81) h 1 rfl rfl dX3_detail_80 rfl ?_
    obtain ⟨r6, hr6, hF⟩ := Option.bind_eq_some_iff.mp hF
    refine g_callN (np := 84) (Wd' := (wdX3_detail cI cZ q0 q1 q2 q3 q4 q5 q6 q7 v_wreck v_wood v_length v_left v_right v_place v_rings)) (As := [.ref q5, .int x1]) h (mX8_at l D cI cZ q5 10 v_right x1 r6 hr6) gcX3_detail_X8_at rfl ⟨rfl, rfl⟩ (List.mem_of_getElem? (i := 19) rfl) (imX3_detail_own _ (List.mem_of_getElem? (i := 2) rfl)) (imX3_detail_own _ (List.mem_of_getElem? (i := 1) rfl)) hyX8_at rfl rfl rfl rfl ⟨Nat.zero_le _, Nat.zero_le _⟩ [5] [0, 1, 2, 3, 4, 6, 7] (N := 8) (by decide +kernel) rfl rfl rfl rfl rfl dX3_detail_81 rfl ?_
    exact hend _ hF _ _ dX3_detail_84
  rw [if_neg c1_4] at hF
  by_cases c1_5 : x2 = (5 : Int32)
  · rw [if_pos c1_5] at hF
    refine g_tsIn (np := 85) h dX3_detail_1 5 (by rw [c1_5]; decide) (by decide) (by decide) rfl rfl ?_
    refine g_aload_n (np := 86) h 0 rfl rfl dX3_detail_85 rfl ?_
    refine g_get (np := 89) (T := TX3) h imX3_detail_u_X3 0 3 rfl rfl 5 (by decide) (imX3_detail_own _ (List.mem_of_getElem? (i := 7) rfl)) rfl dX3_detail_86 rfl ?_
    refine g_iload_n (np := 90) h 1 rfl rfl dX3_detail_89 rfl ?_
    obtain ⟨r7, hr7, hF⟩ := Option.bind_eq_some_iff.mp hF
    refine g_callN (np := 93) (Wd' := (wdX3_detail cI cZ q0 q1 q2 q3 q4 q5 q6 q7 v_wreck v_wood v_length v_left v_right v_place v_rings)) (As := [.ref q6, .int x1]) h (mX8_at l D cI cZ q6 10 v_place x1 r7 hr7) gcX3_detail_X8_at rfl ⟨rfl, rfl⟩ (List.mem_of_getElem? (i := 19) rfl) (imX3_detail_own _ (List.mem_of_getElem? (i := 2) rfl)) (imX3_detail_own _ (List.mem_of_getElem? (i := 1) rfl)) hyX8_at rfl rfl rfl rfl ⟨Nat.zero_le _, Nat.zero_le _⟩ [6] [0, 1, 2, 3, 4, 5, 7] (N := 8) (by decide +kernel) rfl rfl rfl rfl rfl dX3_detail_90 rfl ?_
    exact hend _ hF _ _ dX3_detail_93
  rw [if_neg c1_5] at hF
  refine g_tsOut (np := 94) h dX3_detail_1 (by have a0 := lv_neT c1_0 (a := 0) (by decide); have a1 := lv_neT c1_1 (a := 1) (by decide); have a2 := lv_neT c1_2 (a := 2) (by decide); have a3 := lv_neT c1_3 (a := 3) (by decide); have a4 := lv_neT c1_4 (a := 4) (by decide); have a5 := lv_neT c1_5 (a := 5) (by decide); omega) rfl ?_
  refine g_aload_n (np := 95) h 0 rfl rfl dX3_detail_94 rfl ?_
  refine g_get (np := 98) (T := TX3) h imX3_detail_u_X3 0 3 rfl rfl 6 (by decide) (imX3_detail_own _ (List.mem_of_getElem? (i := 8) rfl)) rfl dX3_detail_95 rfl ?_
  refine g_iload_n (np := 99) h 1 rfl rfl dX3_detail_98 rfl ?_
  obtain ⟨r8, hr8, hF⟩ := Option.bind_eq_some_iff.mp hF
  refine g_callN (np := 102) (Wd' := (wdX3_detail cI cZ q0 q1 q2 q3 q4 q5 q6 q7 v_wreck v_wood v_length v_left v_right v_place v_rings)) (As := [.ref q7, .int x1]) h (mX8_at l D cI cZ q7 10 v_rings x1 r8 hr8) gcX3_detail_X8_at rfl ⟨rfl, rfl⟩ (List.mem_of_getElem? (i := 19) rfl) (imX3_detail_own _ (List.mem_of_getElem? (i := 2) rfl)) (imX3_detail_own _ (List.mem_of_getElem? (i := 1) rfl)) hyX8_at rfl rfl rfl rfl ⟨Nat.zero_le _, Nat.zero_le _⟩ [7] [0, 1, 2, 3, 4, 5, 6] (N := 8) (by decide +kernel) rfl rfl rfl rfl rfl dX3_detail_99 rfl ?_
  exact hend _ hF _ _ dX3_detail_102
theorem dX3_bitsAt_0 : decode cX3_bitsAt 0 = .ok (.iconst 0, 1) := by decide +kernel
theorem dX3_bitsAt_1 : decode cX3_bitsAt 1 = .ok (.istore_n 2, 1) := by decide +kernel
theorem dX3_bitsAt_2 : decode cX3_bitsAt 2 = .ok (.iconst 0, 1) := by decide +kernel
theorem dX3_bitsAt_3 : decode cX3_bitsAt 3 = .ok (.istore_n 3, 1) := by decide +kernel
theorem dX3_bitsAt_4 : decode cX3_bitsAt 4 = .ok (.iload_n 3, 1) := by decide +kernel
theorem dX3_bitsAt_5 : decode cX3_bitsAt 5 = .ok (.aload_n 0, 1) := by decide +kernel
theorem dX3_bitsAt_6 : decode cX3_bitsAt 6 = .ok (.getfield 27, 3) := by decide +kernel
theorem dX3_bitsAt_9 : decode cX3_bitsAt 9 = .ok (.arraylength, 1) := by decide +kernel
theorem dX3_bitsAt_10 : decode cX3_bitsAt 10 = .ok (.if_icmp .ge 25, 3) := by decide +kernel
theorem dX3_bitsAt_13 : decode cX3_bitsAt 13 = .ok (.aload_n 0, 1) := by decide +kernel
theorem dX3_bitsAt_14 : decode cX3_bitsAt 14 = .ok (.getfield 27, 3) := by decide +kernel
theorem dX3_bitsAt_17 : decode cX3_bitsAt 17 = .ok (.iload_n 3, 1) := by decide +kernel
theorem dX3_bitsAt_18 : decode cX3_bitsAt 18 = .ok (.iaload, 1) := by decide +kernel
theorem dX3_bitsAt_19 : decode cX3_bitsAt 19 = .ok (.iload_n 1, 1) := by decide +kernel
theorem dX3_bitsAt_20 : decode cX3_bitsAt 20 = .ok (.if_icmp .ne 9, 3) := by decide +kernel
theorem dX3_bitsAt_23 : decode cX3_bitsAt 23 = .ok (.iload_n 2, 1) := by decide +kernel
theorem dX3_bitsAt_24 : decode cX3_bitsAt 24 = .ok (.iconst 1, 1) := by decide +kernel
theorem dX3_bitsAt_25 : decode cX3_bitsAt 25 = .ok (.iload_n 3, 1) := by decide +kernel
theorem dX3_bitsAt_26 : decode cX3_bitsAt 26 = .ok (.ishl, 1) := by decide +kernel
theorem dX3_bitsAt_27 : decode cX3_bitsAt 27 = .ok (.ior, 1) := by decide +kernel
theorem dX3_bitsAt_28 : decode cX3_bitsAt 28 = .ok (.istore_n 2, 1) := by decide +kernel
theorem dX3_bitsAt_29 : decode cX3_bitsAt 29 = .ok (.iinc 3 1, 3) := by decide +kernel
theorem dX3_bitsAt_32 : decode cX3_bitsAt 32 = .ok (.goto (-28), 3) := by decide +kernel
theorem dX3_bitsAt_35 : decode cX3_bitsAt 35 = .ok (.iload_n 2, 1) := by decide +kernel
theorem dX3_bitsAt_36 : decode cX3_bitsAt 36 = .ok (.ireturn, 1) := by decide +kernel
def wtX3_bitsAt : List Cond := .code yX3_bitsAt cX3_bitsAt 4 (some .int) :: (([.fieldLink RX3 27 "DriftKin$Pieces" "place" "[I"]) ++ ((u_ws RX3 TX3 7) ++ []))
theorem imX3_bitsAt_own : ∀ w ∈ ([.fieldLink RX3 27 "DriftKin$Pieces" "place" "[I"] : List Cond), w ∈ wtX3_bitsAt := fun w h => List.mem_cons_of_mem _ (inl h)
theorem imX3_bitsAt_u_X3 : ∀ w ∈ (u_ws RX3 TX3 7 : List Cond), w ∈ wtX3_bitsAt := fun w h => List.mem_cons_of_mem _ (inr (inl h))
theorem gdX3_bitsAt : ∀ w ∈ wtX3_bitsAt, Gd w := gdc rfl (gda (gdl (by decide +kernel)) (gda (gdu _ _ _) gdn))
def fX3_bitsAt_4 (v_place : Nat → Int32) (x1 : Int32) : Nat → Int32 → Int32 → Option (Int32)
  | 0, _, _ => none
  | n + 1, x2, x3 =>
    if (10 : Int32) ≤ x3 then
      some x2
    else
      chk x3 10 (
        if (rd v_place x3) = x1 then
          fX3_bitsAt_4 v_place x1 n (x2 ||| (jshl (1 : Int32) x3)) (x3 + (1 : Int32))
        else
          fX3_bitsAt_4 v_place x1 n x2 (x3 + (1 : Int32)))
def fX3_bitsAt (v_place : Nat → Int32) (x1 : Int32) : Option (Int32) :=
  fX3_bitsAt_4 v_place x1 2000 (0 : Int32) (0 : Int32)
def wdX3_bitsAt (cI cZ : ClassId) (q0 : Nat) (q1 : Nat) (d2 : Nat) (d3 : Nat) (d4 : Nat) (d5 : Nat) (d6 : Nat) (d7 : Nat)  (v_place : Nat → Int32) : va_W := [(q0, .inr (3, [.ref d2, .ref d3, .ref d4, .ref d5, .ref d6, .ref q1, .ref d7])), (q1, .inl (cI, 10, .inl v_place))]
abbrev rmX3_bitsAt : Jvm.Room := { frames := 0, cells := 0, slots := 0, locals := 0 }
theorem hyX3_bitsAt : yX3_bitsAt.cls ≠ "java/lang/invoke/MethodHandle" ∧ yX3_bitsAt.cls ≠ "java/lang/invoke/VarHandle" ∧ (parseMethodDescriptor yX3_bitsAt.desc).map (fun d => d.parameters.length) = some 1 := by decide +kernel
set_option maxHeartbeats 4000000 in
set_option maxRecDepth 100000 in
theorem mX3_bitsAt (l : Launch) (D : va_G) (cI cZ : ClassId) (q0 : Nat) (q1 : Nat) (d2 : Nat) (d3 : Nat) (d4 : Nat) (d5 : Nat) (d6 : Nat) (d7 : Nat) (v_place : Nat → Int32) (x1 : Int32) (z : Int32) (hF : fX3_bitsAt v_place x1 = some z) : mp l yX3_bitsAt wtX3_bitsAt rmX3_bitsAt D cI cZ [.ref q0, .int x1] (wdX3_bitsAt cI cZ q0 q1 d2 d3 d4 d5 d6 d7 v_place) (some (.int z)) (wdX3_bitsAt cI cZ q0 q1 d2 d3 d4 d5 d6 d7 v_place) := by
  refine mp_i (lv0 := [(0, .ref q0), (1, .int x1)]) cX3_bitsAt 4 z (by decide) rfl (Nat.le_of_ble_eq_true rfl) rfl (fun E h hend0 => ?_)
  have hend : ∀ (z' : Int32), some z' = some z → ∀ (pc : Nat) (lv : List (Nat × Value)), decode cX3_bitsAt pc = .ok (.ireturn, 1) → G l D E 4 0 0 (wdX3_bitsAt cI cZ q0 q1 d2 d3 d4 d5 d6 d7 v_place) pc lv [.int z'] := fun z' e => by cases e; exact hend0
  clear hend0
  have hL4 : ∀ (n4 : Nat) (x2 : Int32) (x3 : Int32), fX3_bitsAt_4 v_place x1 n4 x2 x3 = some z → G l D E 4 0 0 (wdX3_bitsAt cI cZ q0 q1 d2 d3 d4 d5 d6 d7 v_place) 4 [(0, .ref q0), (1, .int x1), (2, .int x2), (3, .int x3)] [] := by
    intro n4
    induction n4 with
    | zero =>
      intro x2 x3 hF
      rw [fX3_bitsAt_4] at hF
      cases hF
    | succ n4 ih4 =>
      intro x2 x3 hF
      rw [fX3_bitsAt_4] at hF
      refine g_iload_n (np := 5) h 3 rfl rfl dX3_bitsAt_4 rfl ?_
      refine g_aload_n (np := 6) h 0 rfl rfl dX3_bitsAt_5 rfl ?_
      refine g_get (np := 9) (T := TX3) h imX3_bitsAt_u_X3 0 3 rfl rfl 5 (by decide) (imX3_bitsAt_own _ (List.mem_of_getElem? (i := 0) rfl)) rfl dX3_bitsAt_6 rfl ?_
      refine g_alen (np := 10) (v := (10 : Int32)) h 1 rfl (by decide) dX3_bitsAt_9 rfl ?_
      refine g_icmp_ge h hF dX3_bitsAt_10 (np := 13) rfl (tg := 35) rfl (fun c1001 hF => ?_) (fun c1001 hF => ?_)
      · refine g_iload_n (np := 36) h 2 rfl rfl dX3_bitsAt_35 rfl ?_
        exact hend _ hF _ _ dX3_bitsAt_36
      · refine g_aload_n (np := 14) h 0 rfl rfl dX3_bitsAt_13 rfl ?_
        refine g_get (np := 17) (T := TX3) h imX3_bitsAt_u_X3 0 3 rfl rfl 5 (by decide) (imX3_bitsAt_own _ (List.mem_of_getElem? (i := 0) rfl)) rfl dX3_bitsAt_14 rfl ?_
        refine g_iload_n (np := 18) h 3 rfl rfl dX3_bitsAt_17 rfl ?_
        refine g_iald (np := 19) h 1 rfl hF dX3_bitsAt_18 rfl (fun hi1002 hF => ?_)
        refine g_iload_n (np := 20) h 1 rfl rfl dX3_bitsAt_19 rfl ?_
        refine g_icmp_ne h hF dX3_bitsAt_20 (np := 23) rfl (tg := 29) rfl (fun c1003 hF => ?_) (fun c1003 hF => ?_)
        · refine g_iinc (np := 32) (v := (x3 + (1 : Int32))) (lv' := [(3, .int (x3 + (1 : Int32))), (0, .ref q0), (1, .int x1), (2, .int x2)]) h 3 rfl rfl (by decide) rfl dX3_bitsAt_29 rfl ?_
          refine g_goto h dX3_bitsAt_32 (np := 4) rfl ?_
          refine g_lv [1, 2, 3, 0] rfl ?_
          exact ih4 x2 (x3 + (1 : Int32)) hF
        · refine g_iload_n (np := 24) h 2 rfl rfl dX3_bitsAt_23 rfl ?_
          refine g_iconst (np := 25) (v := (1 : Int32)) h (by decide) dX3_bitsAt_24 rfl ?_
          refine g_iload_n (np := 26) h 3 rfl rfl dX3_bitsAt_25 rfl ?_
          refine g_ishl (np := 27) h dX3_bitsAt_26 rfl ?_
          refine g_ior (np := 28) h dX3_bitsAt_27 rfl ?_
          refine g_istore_n (np := 29) (lv' := [(2, .int (x2 ||| (jshl (1 : Int32) x3))), (0, .ref q0), (1, .int x1), (3, .int x3)]) h rfl (by decide) rfl dX3_bitsAt_28 rfl ?_
          refine g_iinc (np := 32) (v := (x3 + (1 : Int32))) (lv' := [(3, .int (x3 + (1 : Int32))), (2, .int (x2 ||| (jshl (1 : Int32) x3))), (0, .ref q0), (1, .int x1)]) h 3 rfl rfl (by decide) rfl dX3_bitsAt_29 rfl ?_
          refine g_goto h dX3_bitsAt_32 (np := 4) rfl ?_
          refine g_lv [2, 3, 1, 0] rfl ?_
          exact ih4 (x2 ||| (jshl (1 : Int32) x3)) (x3 + (1 : Int32)) hF
  unfold fX3_bitsAt at hF
  refine g_iconst (np := 1) (v := (0 : Int32)) h (by decide) dX3_bitsAt_0 rfl ?_
  refine g_istore_n (np := 2) (lv' := [(2, .int (0 : Int32)), (0, .ref q0), (1, .int x1)]) h rfl (by decide) rfl dX3_bitsAt_1 rfl ?_
  refine g_iconst (np := 3) (v := (0 : Int32)) h (by decide) dX3_bitsAt_2 rfl ?_
  refine g_istore_n (np := 4) (lv' := [(3, .int (0 : Int32)), (2, .int (0 : Int32)), (0, .ref q0), (1, .int x1)]) h rfl (by decide) rfl dX3_bitsAt_3 rfl ?_
  refine g_lv [2, 3, 1, 0] rfl ?_
  exact hL4 _ (0 : Int32) (0 : Int32) hF
theorem dX3_bitsNotBurnt_0 : decode cX3_bitsNotBurnt 0 = .ok (.sipush 1023, 3) := by decide +kernel
theorem dX3_bitsNotBurnt_3 : decode cX3_bitsNotBurnt 3 = .ok (.aload_n 0, 1) := by decide +kernel
theorem dX3_bitsNotBurnt_4 : decode cX3_bitsNotBurnt 4 = .ok (.iconst 3, 1) := by decide +kernel
theorem dX3_bitsNotBurnt_5 : decode cX3_bitsNotBurnt 5 = .ok (.invokevirtual 45, 3) := by decide +kernel
theorem dX3_bitsNotBurnt_8 : decode cX3_bitsNotBurnt 8 = .ok (.iconst (-1), 1) := by decide +kernel
theorem dX3_bitsNotBurnt_9 : decode cX3_bitsNotBurnt 9 = .ok (.ixor, 1) := by decide +kernel
theorem dX3_bitsNotBurnt_10 : decode cX3_bitsNotBurnt 10 = .ok (.iand, 1) := by decide +kernel
theorem dX3_bitsNotBurnt_11 : decode cX3_bitsNotBurnt 11 = .ok (.ireturn, 1) := by decide +kernel
def wtX3_bitsNotBurnt : List Cond := .code yX3_bitsNotBurnt cX3_bitsNotBurnt 1 (some .int) :: (([]) ++ ((wsV RX3 45 RX3 yX3_bitsAt wtX3_bitsAt) ++ []))
theorem imX3_bitsNotBurnt_own : ∀ w ∈ ([] : List Cond), w ∈ wtX3_bitsNotBurnt := fun w h => List.mem_cons_of_mem _ (inl h)
theorem imX3_bitsNotBurnt_c_X3_bitsAt : ∀ w ∈ (wsV RX3 45 RX3 yX3_bitsAt wtX3_bitsAt : List Cond), w ∈ wtX3_bitsNotBurnt := fun w h => List.mem_cons_of_mem _ (inr (inl h))
theorem gdX3_bitsNotBurnt : ∀ w ∈ wtX3_bitsNotBurnt, Gd w := gdc rfl (gda (gdl (by decide +kernel)) (gda (gda (gdl (by decide +kernel)) gdX3_bitsAt) gdn))
theorem gcX3_bitsNotBurnt_X3_bitsAt : GoodIn wtX3_bitsNotBurnt (wsV RX3 45 RX3 yX3_bitsAt wtX3_bitsAt) := fun w h => ⟨imX3_bitsNotBurnt_c_X3_bitsAt w h, (gda (gdl (by decide +kernel)) gdX3_bitsAt) w h⟩
def fX3_bitsNotBurnt (v_place : Nat → Int32) : Option (Int32) :=
  (fX3_bitsAt v_place (3 : Int32)).bind (fun r1 =>
    some ((1023 : Int32) &&& (r1 ^^^ (-1 : Int32))))
def wdX3_bitsNotBurnt (cI cZ : ClassId) (q0 : Nat) (q1 : Nat) (d2 : Nat) (d3 : Nat) (d4 : Nat) (d5 : Nat) (d6 : Nat) (d7 : Nat)  (v_place : Nat → Int32) : va_W := [(q0, .inr (3, [.ref d2, .ref d3, .ref d4, .ref d5, .ref d6, .ref q1, .ref d7])), (q1, .inl (cI, 10, .inl v_place))]
abbrev rmX3_bitsNotBurnt : Jvm.Room := { frames := 1, cells := 0, slots := 0, locals := 23 }
theorem hyX3_bitsNotBurnt : yX3_bitsNotBurnt.cls ≠ "java/lang/invoke/MethodHandle" ∧ yX3_bitsNotBurnt.cls ≠ "java/lang/invoke/VarHandle" ∧ (parseMethodDescriptor yX3_bitsNotBurnt.desc).map (fun d => d.parameters.length) = some 0 := by decide +kernel
set_option maxHeartbeats 4000000 in
set_option maxRecDepth 100000 in
theorem mX3_bitsNotBurnt (l : Launch) (D : va_G) (cI cZ : ClassId) (q0 : Nat) (q1 : Nat) (d2 : Nat) (d3 : Nat) (d4 : Nat) (d5 : Nat) (d6 : Nat) (d7 : Nat) (v_place : Nat → Int32) (z : Int32) (hF : fX3_bitsNotBurnt v_place = some z) : mp l yX3_bitsNotBurnt wtX3_bitsNotBurnt rmX3_bitsNotBurnt D cI cZ [.ref q0] (wdX3_bitsNotBurnt cI cZ q0 q1 d2 d3 d4 d5 d6 d7 v_place) (some (.int z)) (wdX3_bitsNotBurnt cI cZ q0 q1 d2 d3 d4 d5 d6 d7 v_place) := by
  refine mp_i (lv0 := [(0, .ref q0)]) cX3_bitsNotBurnt 1 z (by decide) rfl (Nat.le_of_ble_eq_true rfl) rfl (fun E h hend0 => ?_)
  have hend : ∀ (z' : Int32), some z' = some z → ∀ (pc : Nat) (lv : List (Nat × Value)), decode cX3_bitsNotBurnt pc = .ok (.ireturn, 1) → G l D E 1 0 0 (wdX3_bitsNotBurnt cI cZ q0 q1 d2 d3 d4 d5 d6 d7 v_place) pc lv [.int z'] := fun z' e => by cases e; exact hend0
  clear hend0
  unfold fX3_bitsNotBurnt at hF
  refine g_sipush (np := 3) (v := (1023 : Int32)) h (by decide) dX3_bitsNotBurnt_0 rfl ?_
  refine g_aload_n (np := 4) h 0 rfl rfl dX3_bitsNotBurnt_3 rfl ?_
  refine g_iconst (np := 5) (v := (3 : Int32)) h (by decide) dX3_bitsNotBurnt_4 rfl ?_
  obtain ⟨r1, hr1, hF⟩ := Option.bind_eq_some_iff.mp hF
  refine g_callV (np := 8) (Wd' := (wdX3_bitsNotBurnt cI cZ q0 q1 d2 d3 d4 d5 d6 d7 v_place)) (As := [.int (3 : Int32)]) h (mX3_bitsAt l D cI cZ q0 q1 d2 d3 d4 d5 d6 d7 v_place (3 : Int32) r1 hr1) gcX3_bitsNotBurnt_X3_bitsAt rfl ⟨rfl, rfl⟩ ⟨rfl, hyX3_bitsAt⟩ rfl 3 0 rfl rfl rfl rfl rfl rfl ⟨Nat.zero_le _, Nat.zero_le _⟩ [0, 1] [] (N := 2) (by decide +kernel) rfl rfl rfl rfl rfl dX3_bitsNotBurnt_5 rfl ?_
  refine g_iconst (np := 9) (v := (-1 : Int32)) h (by decide) dX3_bitsNotBurnt_8 rfl ?_
  refine g_ixor (np := 10) h dX3_bitsNotBurnt_9 rfl ?_
  refine g_iand (np := 11) h dX3_bitsNotBurnt_10 rfl ?_
  exact hend _ hF _ _ dX3_bitsNotBurnt_11
theorem dX3_lengthOf_0 : decode cX3_lengthOf 0 = .ok (.iconst 0, 1) := by decide +kernel
theorem dX3_lengthOf_1 : decode cX3_lengthOf 1 = .ok (.istore_n 2, 1) := by decide +kernel
theorem dX3_lengthOf_2 : decode cX3_lengthOf 2 = .ok (.iconst 0, 1) := by decide +kernel
theorem dX3_lengthOf_3 : decode cX3_lengthOf 3 = .ok (.istore_n 3, 1) := by decide +kernel
theorem dX3_lengthOf_4 : decode cX3_lengthOf 4 = .ok (.iload_n 3, 1) := by decide +kernel
theorem dX3_lengthOf_5 : decode cX3_lengthOf 5 = .ok (.aload_n 0, 1) := by decide +kernel
theorem dX3_lengthOf_6 : decode cX3_lengthOf 6 = .ok (.getfield 18, 3) := by decide +kernel
theorem dX3_lengthOf_9 : decode cX3_lengthOf 9 = .ok (.arraylength, 1) := by decide +kernel
theorem dX3_lengthOf_10 : decode cX3_lengthOf 10 = .ok (.if_icmp .ge 26, 3) := by decide +kernel
theorem dX3_lengthOf_13 : decode cX3_lengthOf 13 = .ok (.iload_n 1, 1) := by decide +kernel
theorem dX3_lengthOf_14 : decode cX3_lengthOf 14 = .ok (.iload_n 3, 1) := by decide +kernel
theorem dX3_lengthOf_15 : decode cX3_lengthOf 15 = .ok (.invokestatic 49, 3) := by decide +kernel
theorem dX3_lengthOf_18 : decode cX3_lengthOf 18 = .ok (.ifCond .eq 12, 3) := by decide +kernel
theorem dX3_lengthOf_21 : decode cX3_lengthOf 21 = .ok (.iload_n 2, 1) := by decide +kernel
theorem dX3_lengthOf_22 : decode cX3_lengthOf 22 = .ok (.aload_n 0, 1) := by decide +kernel
theorem dX3_lengthOf_23 : decode cX3_lengthOf 23 = .ok (.getfield 18, 3) := by decide +kernel
theorem dX3_lengthOf_26 : decode cX3_lengthOf 26 = .ok (.iload_n 3, 1) := by decide +kernel
theorem dX3_lengthOf_27 : decode cX3_lengthOf 27 = .ok (.iaload, 1) := by decide +kernel
theorem dX3_lengthOf_28 : decode cX3_lengthOf 28 = .ok (.iadd, 1) := by decide +kernel
theorem dX3_lengthOf_29 : decode cX3_lengthOf 29 = .ok (.istore_n 2, 1) := by decide +kernel
theorem dX3_lengthOf_30 : decode cX3_lengthOf 30 = .ok (.iinc 3 1, 3) := by decide +kernel
theorem dX3_lengthOf_33 : decode cX3_lengthOf 33 = .ok (.goto (-29), 3) := by decide +kernel
theorem dX3_lengthOf_36 : decode cX3_lengthOf 36 = .ok (.iload_n 2, 1) := by decide +kernel
theorem dX3_lengthOf_37 : decode cX3_lengthOf 37 = .ok (.ireturn, 1) := by decide +kernel
def wtX3_lengthOf : List Cond := .code yX3_lengthOf cX3_lengthOf 4 (some .int) :: (([.fieldLink RX3 18 "DriftKin$Pieces" "length" "[I", .static yX8_has, .initialized RX8]) ++ ((u_ws RX3 TX3 7) ++ ((wtX8_has) ++ [])))
theorem imX3_lengthOf_own : ∀ w ∈ ([.fieldLink RX3 18 "DriftKin$Pieces" "length" "[I", .static yX8_has, .initialized RX8] : List Cond), w ∈ wtX3_lengthOf := fun w h => List.mem_cons_of_mem _ (inl h)
theorem imX3_lengthOf_u_X3 : ∀ w ∈ (u_ws RX3 TX3 7 : List Cond), w ∈ wtX3_lengthOf := fun w h => List.mem_cons_of_mem _ (inr (inl h))
theorem imX3_lengthOf_c_X8_has : ∀ w ∈ (wtX8_has : List Cond), w ∈ wtX3_lengthOf := fun w h => List.mem_cons_of_mem _ (inr (inr (inl h)))
theorem gdX3_lengthOf : ∀ w ∈ wtX3_lengthOf, Gd w := gdc rfl (gda (gdl (by decide +kernel)) (gda (gdu _ _ _) (gda gdX8_has gdn)))
theorem gcX3_lengthOf_X8_has : GoodIn wtX3_lengthOf (wtX8_has) := fun w h => ⟨imX3_lengthOf_c_X8_has w h, gdX8_has w h⟩
def fX3_lengthOf_4 (v_length : Nat → Int32) (x1 : Int32) : Nat → Int32 → Int32 → Option (Int32)
  | 0, _, _ => none
  | n + 1, x2, x3 =>
    if (10 : Int32) ≤ x3 then
      some x2
    else
      (fX8_has x1 x3).bind (fun r1002 =>
        if r1002 = (0 : Int32) then
          fX3_lengthOf_4 v_length x1 n x2 (x3 + (1 : Int32))
        else
          chk x3 10 (
            fX3_lengthOf_4 v_length x1 n (x2 + (rd v_length x3)) (x3 + (1 : Int32))))
def fX3_lengthOf (v_length : Nat → Int32) (x1 : Int32) : Option (Int32) :=
  fX3_lengthOf_4 v_length x1 2000 (0 : Int32) (0 : Int32)
def wdX3_lengthOf (cI cZ : ClassId) (q0 : Nat) (q1 : Nat) (d2 : Nat) (d3 : Nat) (d4 : Nat) (d5 : Nat) (d6 : Nat) (d7 : Nat)  (v_length : Nat → Int32) : va_W := [(q0, .inr (3, [.ref d2, .ref d3, .ref q1, .ref d4, .ref d5, .ref d6, .ref d7])), (q1, .inl (cI, 10, .inl v_length))]
abbrev rmX3_lengthOf : Jvm.Room := { frames := 1, cells := 0, slots := 0, locals := 21 }
theorem hyX3_lengthOf : yX3_lengthOf.cls ≠ "java/lang/invoke/MethodHandle" ∧ yX3_lengthOf.cls ≠ "java/lang/invoke/VarHandle" ∧ (parseMethodDescriptor yX3_lengthOf.desc).map (fun d => d.parameters.length) = some 1 := by decide +kernel
set_option maxHeartbeats 4000000 in
set_option maxRecDepth 100000 in
theorem mX3_lengthOf (l : Launch) (D : va_G) (cI cZ : ClassId) (q0 : Nat) (q1 : Nat) (d2 : Nat) (d3 : Nat) (d4 : Nat) (d5 : Nat) (d6 : Nat) (d7 : Nat) (v_length : Nat → Int32) (x1 : Int32) (z : Int32) (hF : fX3_lengthOf v_length x1 = some z) : mp l yX3_lengthOf wtX3_lengthOf rmX3_lengthOf D cI cZ [.ref q0, .int x1] (wdX3_lengthOf cI cZ q0 q1 d2 d3 d4 d5 d6 d7 v_length) (some (.int z)) (wdX3_lengthOf cI cZ q0 q1 d2 d3 d4 d5 d6 d7 v_length) := by
  refine mp_i (lv0 := [(0, .ref q0), (1, .int x1)]) cX3_lengthOf 4 z (by decide) rfl (Nat.le_of_ble_eq_true rfl) rfl (fun E h hend0 => ?_)
  have hend : ∀ (z' : Int32), some z' = some z → ∀ (pc : Nat) (lv : List (Nat × Value)), decode cX3_lengthOf pc = .ok (.ireturn, 1) → G l D E 4 0 0 (wdX3_lengthOf cI cZ q0 q1 d2 d3 d4 d5 d6 d7 v_length) pc lv [.int z'] := fun z' e => by cases e; exact hend0
  clear hend0
  have hL4 : ∀ (n4 : Nat) (x2 : Int32) (x3 : Int32), fX3_lengthOf_4 v_length x1 n4 x2 x3 = some z → G l D E 4 0 0 (wdX3_lengthOf cI cZ q0 q1 d2 d3 d4 d5 d6 d7 v_length) 4 [(0, .ref q0), (1, .int x1), (2, .int x2), (3, .int x3)] [] := by
    intro n4
    induction n4 with
    | zero =>
      intro x2 x3 hF
      rw [fX3_lengthOf_4] at hF
      cases hF
    | succ n4 ih4 =>
      intro x2 x3 hF
      rw [fX3_lengthOf_4] at hF
      refine g_iload_n (np := 5) h 3 rfl rfl dX3_lengthOf_4 rfl ?_
      refine g_aload_n (np := 6) h 0 rfl rfl dX3_lengthOf_5 rfl ?_
      refine g_get (np := 9) (T := TX3) h imX3_lengthOf_u_X3 0 3 rfl rfl 2 (by decide) (imX3_lengthOf_own _ (List.mem_of_getElem? (i := 0) rfl)) rfl dX3_lengthOf_6 rfl ?_
      refine g_alen (np := 10) (v := (10 : Int32)) h 1 rfl (by decide) dX3_lengthOf_9 rfl ?_
      refine g_icmp_ge h hF dX3_lengthOf_10 (np := 13) rfl (tg := 36) rfl (fun c1001 hF => ?_) (fun c1001 hF => ?_)
      · refine g_iload_n (np := 37) h 2 rfl rfl dX3_lengthOf_36 rfl ?_
        exact hend _ hF _ _ dX3_lengthOf_37
      · refine g_iload_n (np := 14) h 1 rfl rfl dX3_lengthOf_13 rfl ?_
        refine g_iload_n (np := 15) h 3 rfl rfl dX3_lengthOf_14 rfl ?_
        obtain ⟨r1002, hr1002, hF⟩ := Option.bind_eq_some_iff.mp hF
        refine g_callN (np := 18) (Wd' := (wdX3_lengthOf cI cZ q0 q1 d2 d3 d4 d5 d6 d7 v_length)) (As := [.int x1, .int x3]) h (mX8_has l D cI cZ x1 x3 r1002 hr1002) gcX3_lengthOf_X8_has rfl ⟨rfl, rfl⟩ (List.mem_of_getElem? (i := 23) rfl) (imX3_lengthOf_own _ (List.mem_of_getElem? (i := 2) rfl)) (imX3_lengthOf_own _ (List.mem_of_getElem? (i := 1) rfl)) hyX8_has rfl rfl rfl rfl ⟨Nat.zero_le _, Nat.zero_le _⟩ [] [0, 1] (N := 2) (by decide +kernel) rfl rfl rfl rfl rfl dX3_lengthOf_15 rfl ?_
        refine g_if_eq h hF dX3_lengthOf_18 (np := 21) rfl (tg := 30) rfl (fun c1003 hF => ?_) (fun c1003 hF => ?_)
        · refine g_iinc (np := 33) (v := (x3 + (1 : Int32))) (lv' := [(3, .int (x3 + (1 : Int32))), (0, .ref q0), (1, .int x1), (2, .int x2)]) h 3 rfl rfl (by decide) rfl dX3_lengthOf_30 rfl ?_
          refine g_goto h dX3_lengthOf_33 (np := 4) rfl ?_
          refine g_lv [1, 2, 3, 0] rfl ?_
          exact ih4 x2 (x3 + (1 : Int32)) hF
        · refine g_iload_n (np := 22) h 2 rfl rfl dX3_lengthOf_21 rfl ?_
          refine g_aload_n (np := 23) h 0 rfl rfl dX3_lengthOf_22 rfl ?_
          refine g_get (np := 26) (T := TX3) h imX3_lengthOf_u_X3 0 3 rfl rfl 2 (by decide) (imX3_lengthOf_own _ (List.mem_of_getElem? (i := 0) rfl)) rfl dX3_lengthOf_23 rfl ?_
          refine g_iload_n (np := 27) h 3 rfl rfl dX3_lengthOf_26 rfl ?_
          refine g_iald (np := 28) h 1 rfl hF dX3_lengthOf_27 rfl (fun hi1004 hF => ?_)
          refine g_iadd (np := 29) h dX3_lengthOf_28 rfl ?_
          refine g_istore_n (np := 30) (lv' := [(2, .int (x2 + (rd v_length x3))), (0, .ref q0), (1, .int x1), (3, .int x3)]) h rfl (by decide) rfl dX3_lengthOf_29 rfl ?_
          refine g_iinc (np := 33) (v := (x3 + (1 : Int32))) (lv' := [(3, .int (x3 + (1 : Int32))), (2, .int (x2 + (rd v_length x3))), (0, .ref q0), (1, .int x1)]) h 3 rfl rfl (by decide) rfl dX3_lengthOf_30 rfl ?_
          refine g_goto h dX3_lengthOf_33 (np := 4) rfl ?_
          refine g_lv [2, 3, 1, 0] rfl ?_
          exact ih4 (x2 + (rd v_length x3)) (x3 + (1 : Int32)) hF
  unfold fX3_lengthOf at hF
  refine g_iconst (np := 1) (v := (0 : Int32)) h (by decide) dX3_lengthOf_0 rfl ?_
  refine g_istore_n (np := 2) (lv' := [(2, .int (0 : Int32)), (0, .ref q0), (1, .int x1)]) h rfl (by decide) rfl dX3_lengthOf_1 rfl ?_
  refine g_iconst (np := 3) (v := (0 : Int32)) h (by decide) dX3_lengthOf_2 rfl ?_
  refine g_istore_n (np := 4) (lv' := [(3, .int (0 : Int32)), (2, .int (0 : Int32)), (0, .ref q0), (1, .int x1)]) h rfl (by decide) rfl dX3_lengthOf_3 rfl ?_
  refine g_lv [2, 3, 1, 0] rfl ?_
  exact hL4 _ (0 : Int32) (0 : Int32) hF
theorem dX3_joins_0 : decode cX3_joins 0 = .ok (.iload_n 1, 1) := by decide +kernel
theorem dX3_joins_1 : decode cX3_joins 1 = .ok (.iload_n 2, 1) := by decide +kernel
theorem dX3_joins_2 : decode cX3_joins 2 = .ok (.if_icmp .eq 45, 3) := by decide +kernel
theorem dX3_joins_5 : decode cX3_joins 5 = .ok (.aload_n 0, 1) := by decide +kernel
theorem dX3_joins_6 : decode cX3_joins 6 = .ok (.getfield 15, 3) := by decide +kernel
theorem dX3_joins_9 : decode cX3_joins 9 = .ok (.iload_n 1, 1) := by decide +kernel
theorem dX3_joins_10 : decode cX3_joins 10 = .ok (.invokestatic 41, 3) := by decide +kernel
theorem dX3_joins_13 : decode cX3_joins 13 = .ok (.aload_n 0, 1) := by decide +kernel
theorem dX3_joins_14 : decode cX3_joins 14 = .ok (.getfield 15, 3) := by decide +kernel
theorem dX3_joins_17 : decode cX3_joins 17 = .ok (.iload_n 2, 1) := by decide +kernel
theorem dX3_joins_18 : decode cX3_joins 18 = .ok (.invokestatic 41, 3) := by decide +kernel
theorem dX3_joins_21 : decode cX3_joins 21 = .ok (.if_icmp .ne 26, 3) := by decide +kernel
theorem dX3_joins_24 : decode cX3_joins 24 = .ok (.aload_n 0, 1) := by decide +kernel
theorem dX3_joins_25 : decode cX3_joins 25 = .ok (.getfield 24, 3) := by decide +kernel
theorem dX3_joins_28 : decode cX3_joins 28 = .ok (.iload_n 1, 1) := by decide +kernel
theorem dX3_joins_29 : decode cX3_joins 29 = .ok (.invokestatic 41, 3) := by decide +kernel
theorem dX3_joins_32 : decode cX3_joins 32 = .ok (.aload_n 0, 1) := by decide +kernel
theorem dX3_joins_33 : decode cX3_joins 33 = .ok (.getfield 21, 3) := by decide +kernel
theorem dX3_joins_36 : decode cX3_joins 36 = .ok (.iload_n 2, 1) := by decide +kernel
theorem dX3_joins_37 : decode cX3_joins 37 = .ok (.invokestatic 41, 3) := by decide +kernel
theorem dX3_joins_40 : decode cX3_joins 40 = .ok (.if_icmp .ne 7, 3) := by decide +kernel
theorem dX3_joins_43 : decode cX3_joins 43 = .ok (.iconst 1, 1) := by decide +kernel
theorem dX3_joins_44 : decode cX3_joins 44 = .ok (.goto 4, 3) := by decide +kernel
theorem dX3_joins_47 : decode cX3_joins 47 = .ok (.iconst 0, 1) := by decide +kernel
theorem dX3_joins_48 : decode cX3_joins 48 = .ok (.ireturn, 1) := by decide +kernel
def wtX3_joins : List Cond := .code yX3_joins cX3_joins 3 (some .boolean) :: (([.fieldLink RX3 15 "DriftKin$Pieces" "wood" "[I", .static yX8_at, .initialized RX8, .fieldLink RX3 24 "DriftKin$Pieces" "right" "[I", .fieldLink RX3 21 "DriftKin$Pieces" "left" "[I"]) ++ ((u_ws RX3 TX3 7) ++ ((wtX8_at) ++ [])))
theorem imX3_joins_own : ∀ w ∈ ([.fieldLink RX3 15 "DriftKin$Pieces" "wood" "[I", .static yX8_at, .initialized RX8, .fieldLink RX3 24 "DriftKin$Pieces" "right" "[I", .fieldLink RX3 21 "DriftKin$Pieces" "left" "[I"] : List Cond), w ∈ wtX3_joins := fun w h => List.mem_cons_of_mem _ (inl h)
theorem imX3_joins_u_X3 : ∀ w ∈ (u_ws RX3 TX3 7 : List Cond), w ∈ wtX3_joins := fun w h => List.mem_cons_of_mem _ (inr (inl h))
theorem imX3_joins_c_X8_at : ∀ w ∈ (wtX8_at : List Cond), w ∈ wtX3_joins := fun w h => List.mem_cons_of_mem _ (inr (inr (inl h)))
theorem gdX3_joins : ∀ w ∈ wtX3_joins, Gd w := gdc rfl (gda (gdl (by decide +kernel)) (gda (gdu _ _ _) (gda gdX8_at gdn)))
theorem gcX3_joins_X8_at : GoodIn wtX3_joins (wtX8_at) := fun w h => ⟨imX3_joins_c_X8_at w h, gdX8_at w h⟩
def fX3_joins (v_wood : Nat → Int32) (v_left : Nat → Int32) (v_right : Nat → Int32) (x1 : Int32) (x2 : Int32) : Option (Int32) :=
  if x1 = x2 then
    some (0 : Int32)
  else
    (fX8_at 10 v_wood x1).bind (fun r2 =>
      (fX8_at 10 v_wood x2).bind (fun r3 =>
        if r2 = r3 then
          (fX8_at 10 v_right x1).bind (fun r5 =>
            (fX8_at 10 v_left x2).bind (fun r6 =>
              if r5 = r6 then
                some (1 : Int32)
              else
                some (0 : Int32)))
        else
          some (0 : Int32)))
def wdX3_joins (cI cZ : ClassId) (q0 : Nat) (q1 : Nat) (q2 : Nat) (q3 : Nat) (d4 : Nat) (d5 : Nat) (d6 : Nat) (d7 : Nat)  (v_wood : Nat → Int32) (v_left : Nat → Int32) (v_right : Nat → Int32) : va_W := [(q0, .inr (3, [.ref d4, .ref q1, .ref d5, .ref q2, .ref q3, .ref d6, .ref d7])), (q1, .inl (cI, 10, .inl v_wood)), (q2, .inl (cI, 10, .inl v_left)), (q3, .inl (cI, 10, .inl v_right))]
abbrev rmX3_joins : Jvm.Room := { frames := 1, cells := 0, slots := 0, locals := 21 }
theorem hyX3_joins : yX3_joins.cls ≠ "java/lang/invoke/MethodHandle" ∧ yX3_joins.cls ≠ "java/lang/invoke/VarHandle" ∧ (parseMethodDescriptor yX3_joins.desc).map (fun d => d.parameters.length) = some 2 := by decide +kernel
set_option maxHeartbeats 4000000 in
set_option maxRecDepth 100000 in
theorem mX3_joins (l : Launch) (D : va_G) (cI cZ : ClassId) (q0 : Nat) (q1 : Nat) (q2 : Nat) (q3 : Nat) (d4 : Nat) (d5 : Nat) (d6 : Nat) (d7 : Nat) (v_wood : Nat → Int32) (v_left : Nat → Int32) (v_right : Nat → Int32) (x1 : Int32) (x2 : Int32) (z : Int32) (hF : fX3_joins v_wood v_left v_right x1 x2 = some z) : mp l yX3_joins wtX3_joins rmX3_joins D cI cZ [.ref q0, .int x1, .int x2] (wdX3_joins cI cZ q0 q1 q2 q3 d4 d5 d6 d7 v_wood v_left v_right) (some (.int z)) (wdX3_joins cI cZ q0 q1 q2 q3 d4 d5 d6 d7 v_wood v_left v_right) := by
  refine mp_z (lv0 := [(0, .ref q0), (1, .int x1), (2, .int x2)]) cX3_joins 3 z (by decide) rfl (Nat.le_of_ble_eq_true rfl) rfl (fun E h hend0 => ?_)
  have hend : ∀ (z' : Int32), some z' = some z → ∀ (pc : Nat) (lv : List (Nat × Value)), z' = z' &&& 1 → decode cX3_joins pc = .ok (.ireturn, 1) → G l D E 3 0 0 (wdX3_joins cI cZ q0 q1 q2 q3 d4 d5 d6 d7 v_wood v_left v_right) pc lv [.int z'] := fun z' e => by cases e; exact hend0
  clear hend0
  unfold fX3_joins at hF
  refine g_iload_n (np := 1) h 1 rfl rfl dX3_joins_0 rfl ?_
  refine g_iload_n (np := 2) h 2 rfl rfl dX3_joins_1 rfl ?_
  refine g_icmp_eq h hF dX3_joins_2 (np := 5) rfl (tg := 47) rfl (fun c1 hF => ?_) (fun c1 hF => ?_)
  · refine g_iconst (np := 48) (v := (0 : Int32)) h (by decide) dX3_joins_47 rfl ?_
    exact hend _ hF _ _ zb0 dX3_joins_48
  · refine g_aload_n (np := 6) h 0 rfl rfl dX3_joins_5 rfl ?_
    refine g_get (np := 9) (T := TX3) h imX3_joins_u_X3 0 3 rfl rfl 1 (by decide) (imX3_joins_own _ (List.mem_of_getElem? (i := 0) rfl)) rfl dX3_joins_6 rfl ?_
    refine g_iload_n (np := 10) h 1 rfl rfl dX3_joins_9 rfl ?_
    obtain ⟨r2, hr2, hF⟩ := Option.bind_eq_some_iff.mp hF
    refine g_callN (np := 13) (Wd' := (wdX3_joins cI cZ q0 q1 q2 q3 d4 d5 d6 d7 v_wood v_left v_right)) (As := [.ref q1, .int x1]) h (mX8_at l D cI cZ q1 10 v_wood x1 r2 hr2) gcX3_joins_X8_at rfl ⟨rfl, rfl⟩ (List.mem_of_getElem? (i := 19) rfl) (imX3_joins_own _ (List.mem_of_getElem? (i := 2) rfl)) (imX3_joins_own _ (List.mem_of_getElem? (i := 1) rfl)) hyX8_at rfl rfl rfl rfl ⟨Nat.zero_le _, Nat.zero_le _⟩ [1] [0, 2, 3] (N := 4) (by decide +kernel) rfl rfl rfl rfl rfl dX3_joins_10 rfl ?_
    refine g_aload_n (np := 14) h 0 rfl rfl dX3_joins_13 rfl ?_
    refine g_get (np := 17) (T := TX3) h imX3_joins_u_X3 0 3 rfl rfl 1 (by decide) (imX3_joins_own _ (List.mem_of_getElem? (i := 0) rfl)) rfl dX3_joins_14 rfl ?_
    refine g_iload_n (np := 18) h 2 rfl rfl dX3_joins_17 rfl ?_
    obtain ⟨r3, hr3, hF⟩ := Option.bind_eq_some_iff.mp hF
    refine g_callN (np := 21) (Wd' := (wdX3_joins cI cZ q0 q1 q2 q3 d4 d5 d6 d7 v_wood v_left v_right)) (As := [.ref q1, .int x2]) h (mX8_at l D cI cZ q1 10 v_wood x2 r3 hr3) gcX3_joins_X8_at rfl ⟨rfl, rfl⟩ (List.mem_of_getElem? (i := 19) rfl) (imX3_joins_own _ (List.mem_of_getElem? (i := 2) rfl)) (imX3_joins_own _ (List.mem_of_getElem? (i := 1) rfl)) hyX8_at rfl rfl rfl rfl ⟨Nat.zero_le _, Nat.zero_le _⟩ [1] [0, 2, 3] (N := 4) (by decide +kernel) rfl rfl rfl rfl rfl dX3_joins_18 rfl ?_
    refine g_icmp_ne h hF dX3_joins_21 (np := 24) rfl (tg := 47) rfl (fun c4 hF => ?_) (fun c4 hF => ?_)
    · refine g_iconst (np := 48) (v := (0 : Int32)) h (by decide) dX3_joins_47 rfl ?_
      exact hend _ hF _ _ zb0 dX3_joins_48
    · refine g_aload_n (np := 25) h 0 rfl rfl dX3_joins_24 rfl ?_
      refine g_get (np := 28) (T := TX3) h imX3_joins_u_X3 0 3 rfl rfl 4 (by decide) (imX3_joins_own _ (List.mem_of_getElem? (i := 3) rfl)) rfl dX3_joins_25 rfl ?_
      refine g_iload_n (np := 29) h 1 rfl rfl dX3_joins_28 rfl ?_
      obtain ⟨r5, hr5, hF⟩ := Option.bind_eq_some_iff.mp hF
      refine g_callN (np := 32) (Wd' := (wdX3_joins cI cZ q0 q1 q2 q3 d4 d5 d6 d7 v_wood v_left v_right)) (As := [.ref q3, .int x1]) h (mX8_at l D cI cZ q3 10 v_right x1 r5 hr5) gcX3_joins_X8_at rfl ⟨rfl, rfl⟩ (List.mem_of_getElem? (i := 19) rfl) (imX3_joins_own _ (List.mem_of_getElem? (i := 2) rfl)) (imX3_joins_own _ (List.mem_of_getElem? (i := 1) rfl)) hyX8_at rfl rfl rfl rfl ⟨Nat.zero_le _, Nat.zero_le _⟩ [3] [0, 1, 2] (N := 4) (by decide +kernel) rfl rfl rfl rfl rfl dX3_joins_29 rfl ?_
      refine g_aload_n (np := 33) h 0 rfl rfl dX3_joins_32 rfl ?_
      refine g_get (np := 36) (T := TX3) h imX3_joins_u_X3 0 3 rfl rfl 3 (by decide) (imX3_joins_own _ (List.mem_of_getElem? (i := 4) rfl)) rfl dX3_joins_33 rfl ?_
      refine g_iload_n (np := 37) h 2 rfl rfl dX3_joins_36 rfl ?_
      obtain ⟨r6, hr6, hF⟩ := Option.bind_eq_some_iff.mp hF
      refine g_callN (np := 40) (Wd' := (wdX3_joins cI cZ q0 q1 q2 q3 d4 d5 d6 d7 v_wood v_left v_right)) (As := [.ref q2, .int x2]) h (mX8_at l D cI cZ q2 10 v_left x2 r6 hr6) gcX3_joins_X8_at rfl ⟨rfl, rfl⟩ (List.mem_of_getElem? (i := 19) rfl) (imX3_joins_own _ (List.mem_of_getElem? (i := 2) rfl)) (imX3_joins_own _ (List.mem_of_getElem? (i := 1) rfl)) hyX8_at rfl rfl rfl rfl ⟨Nat.zero_le _, Nat.zero_le _⟩ [2] [0, 1, 3] (N := 4) (by decide +kernel) rfl rfl rfl rfl rfl dX3_joins_37 rfl ?_
      refine g_icmp_ne h hF dX3_joins_40 (np := 43) rfl (tg := 47) rfl (fun c7 hF => ?_) (fun c7 hF => ?_)
      · refine g_iconst (np := 48) (v := (0 : Int32)) h (by decide) dX3_joins_47 rfl ?_
        exact hend _ hF _ _ zb0 dX3_joins_48
      · refine g_iconst (np := 44) (v := (1 : Int32)) h (by decide) dX3_joins_43 rfl ?_
        refine g_goto h dX3_joins_44 (np := 48) rfl ?_
        exact hend _ hF _ _ zb1 dX3_joins_48
theorem dX6_become_0 : decode cX6_become 0 = .ok (.aload_n 1, 1) := by decide +kernel
theorem dX6_become_1 : decode cX6_become 1 = .ok (.getfield 9, 3) := by decide +kernel
theorem dX6_become_4 : decode cX6_become 4 = .ok (.aload_n 0, 1) := by decide +kernel
theorem dX6_become_5 : decode cX6_become 5 = .ok (.getfield 9, 3) := by decide +kernel
theorem dX6_become_8 : decode cX6_become 8 = .ok (.invokestatic 25, 3) := by decide +kernel
theorem dX6_become_11 : decode cX6_become 11 = .ok (.aload_n 1, 1) := by decide +kernel
theorem dX6_become_12 : decode cX6_become 12 = .ok (.getfield 15, 3) := by decide +kernel
theorem dX6_become_15 : decode cX6_become 15 = .ok (.aload_n 0, 1) := by decide +kernel
theorem dX6_become_16 : decode cX6_become 16 = .ok (.getfield 15, 3) := by decide +kernel
theorem dX6_become_19 : decode cX6_become 19 = .ok (.invokestatic 25, 3) := by decide +kernel
theorem dX6_become_22 : decode cX6_become 22 = .ok (.aload_n 1, 1) := by decide +kernel
theorem dX6_become_23 : decode cX6_become 23 = .ok (.getfield 18, 3) := by decide +kernel
theorem dX6_become_26 : decode cX6_become 26 = .ok (.aload_n 0, 1) := by decide +kernel
theorem dX6_become_27 : decode cX6_become 27 = .ok (.getfield 18, 3) := by decide +kernel
theorem dX6_become_30 : decode cX6_become 30 = .ok (.invokestatic 25, 3) := by decide +kernel
theorem dX6_become_33 : decode cX6_become 33 = .ok (.aload_n 0, 1) := by decide +kernel
theorem dX6_become_34 : decode cX6_become 34 = .ok (.aload_n 1, 1) := by decide +kernel
theorem dX6_become_35 : decode cX6_become 35 = .ok (.getfield 21, 3) := by decide +kernel
theorem dX6_become_38 : decode cX6_become 38 = .ok (.putfield 21, 3) := by decide +kernel
theorem dX6_become_41 : decode cX6_become 41 = .ok (.return_, 1) := by decide +kernel
def wtX6_become : List Cond := .code yX6_become cX6_become 2 none :: (([.fieldLink RX6 9 "DriftKin$Sights" "house" "[I", .static yX8_copy, .initialized RX8, .fieldLink RX6 15 "DriftKin$Sights" "reach" "[I", .fieldLink RX6 18 "DriftKin$Sights" "sounded" "[I", .fieldLink RX6 21 "DriftKin$Sights" "count" "I"]) ++ ((u_ws RX6 TX6 4) ++ ((wtX8_copy) ++ [])))
theorem imX6_become_own : ∀ w ∈ ([.fieldLink RX6 9 "DriftKin$Sights" "house" "[I", .static yX8_copy, .initialized RX8, .fieldLink RX6 15 "DriftKin$Sights" "reach" "[I", .fieldLink RX6 18 "DriftKin$Sights" "sounded" "[I", .fieldLink RX6 21 "DriftKin$Sights" "count" "I"] : List Cond), w ∈ wtX6_become := fun w h => List.mem_cons_of_mem _ (inl h)
theorem imX6_become_u_X6 : ∀ w ∈ (u_ws RX6 TX6 4 : List Cond), w ∈ wtX6_become := fun w h => List.mem_cons_of_mem _ (inr (inl h))
theorem imX6_become_c_X8_copy : ∀ w ∈ (wtX8_copy : List Cond), w ∈ wtX6_become := fun w h => List.mem_cons_of_mem _ (inr (inr (inl h)))
theorem gdX6_become : ∀ w ∈ wtX6_become, Gd w := gdc rfl (gda (gdl (by decide +kernel)) (gda (gdu _ _ _) (gda gdX8_copy gdn)))
theorem gcX6_become_X8_copy : GoodIn wtX6_become (wtX8_copy) := fun w h => ⟨imX6_become_c_X8_copy w h, gdX8_copy w h⟩
def fX6_become (v_count : Int32) (v_house : Nat → Int32) (v_reach : Nat → Int32) (v_sounded : Nat → Int32) (v_count2 : Int32) (v_house2 : Nat → Int32) (v_reach2 : Nat → Int32) (v_sounded2 : Nat → Int32) : Option (Int32 × (Nat → Int32) × (Nat → Int32) × (Nat → Int32)) :=
  (fX8_copy 8 8 v_house2 v_house).bind (fun r1 =>
    (fX8_copy 8 8 v_reach2 v_reach).bind (fun r2 =>
      (fX8_copy 8 8 v_sounded2 v_sounded).bind (fun r3 =>
        some (v_count2, r1, r2, r3))))
def wdX6_become (cI cZ : ClassId) (q0 : Nat) (q1 : Nat) (q2 : Nat) (q3 : Nat) (q4 : Nat) (q5 : Nat) (q6 : Nat) (q7 : Nat)  (v_count : Int32) (v_house : Nat → Int32) (v_reach : Nat → Int32) (v_sounded : Nat → Int32) (v_count2 : Int32) (v_house2 : Nat → Int32) (v_reach2 : Nat → Int32) (v_sounded2 : Nat → Int32) : va_W := [(q0, .inr (6, [.ref q1, .ref q2, .ref q3, .int v_count])), (q1, .inl (cI, 8, .inl v_house)), (q2, .inl (cI, 8, .inl v_reach)), (q3, .inl (cI, 8, .inl v_sounded)), (q4, .inr (6, [.ref q5, .ref q6, .ref q7, .int v_count2])), (q5, .inl (cI, 8, .inl v_house2)), (q6, .inl (cI, 8, .inl v_reach2)), (q7, .inl (cI, 8, .inl v_sounded2))]
abbrev rmX6_become : Jvm.Room := { frames := 1, cells := 0, slots := 0, locals := 22 }
theorem hyX6_become : yX6_become.cls ≠ "java/lang/invoke/MethodHandle" ∧ yX6_become.cls ≠ "java/lang/invoke/VarHandle" ∧ (parseMethodDescriptor yX6_become.desc).map (fun d => d.parameters.length) = some 1 := by decide +kernel
set_option maxHeartbeats 4000000 in
set_option maxRecDepth 100000 in
theorem mX6_become (l : Launch) (D : va_G) (cI cZ : ClassId) (q0 : Nat) (q1 : Nat) (q2 : Nat) (q3 : Nat) (q4 : Nat) (q5 : Nat) (q6 : Nat) (q7 : Nat) (v_count : Int32) (v_house : Nat → Int32) (v_reach : Nat → Int32) (v_sounded : Nat → Int32) (v_count2 : Int32) (v_house2 : Nat → Int32) (v_reach2 : Nat → Int32) (v_sounded2 : Nat → Int32) (z : Int32 × (Nat → Int32) × (Nat → Int32) × (Nat → Int32)) (hF : fX6_become v_count v_house v_reach v_sounded v_count2 v_house2 v_reach2 v_sounded2 = some z) : mp l yX6_become wtX6_become rmX6_become D cI cZ [.ref q0, .ref q4] (wdX6_become cI cZ q0 q1 q2 q3 q4 q5 q6 q7 v_count v_house v_reach v_sounded v_count2 v_house2 v_reach2 v_sounded2) none (wdX6_become cI cZ q0 q1 q2 q3 q4 q5 q6 q7 z.1 z.2.1 z.2.2.1 z.2.2.2 v_count2 v_house2 v_reach2 v_sounded2) := by
  refine mp_v (lv0 := [(0, .ref q0), (1, .ref q4)]) cX6_become 2 (by decide) rfl (Nat.le_of_ble_eq_true rfl) rfl (fun E h hend0 => ?_)
  have hend : ∀ (z' : Int32 × (Nat → Int32) × (Nat → Int32) × (Nat → Int32)), some z' = some z → ∀ (pc : Nat) (lv : List (Nat × Value)), decode cX6_become pc = .ok (.return_, 1) → G l D E 2 0 0 (wdX6_become cI cZ q0 q1 q2 q3 q4 q5 q6 q7 (z'.1) (z'.2.1) (z'.2.2.1) (z'.2.2.2) v_count2 v_house2 v_reach2 v_sounded2) pc lv [] := fun z' e => by cases e; exact hend0
  clear hend0
  unfold fX6_become at hF
  refine g_aload_n (np := 1) h 1 rfl rfl dX6_become_0 rfl ?_
  refine g_get (np := 4) (T := TX6) h imX6_become_u_X6 4 6 rfl rfl 0 (by decide) (imX6_become_own _ (List.mem_of_getElem? (i := 0) rfl)) rfl dX6_become_1 rfl ?_
  refine g_aload_n (np := 5) h 0 rfl rfl dX6_become_4 rfl ?_
  refine g_get (np := 8) (T := TX6) h imX6_become_u_X6 0 6 rfl rfl 0 (by decide) (imX6_become_own _ (List.mem_of_getElem? (i := 0) rfl)) rfl dX6_become_5 rfl ?_
  obtain ⟨r1, hr1, hF⟩ := Option.bind_eq_some_iff.mp hF
  refine g_callN (np := 11) (Wd' := (wdX6_become cI cZ q0 q1 q2 q3 q4 q5 q6 q7 v_count r1 v_reach v_sounded v_count2 v_house2 v_reach2 v_sounded2)) (As := [.ref q5, .ref q1]) h (mX8_copy l D cI cZ q5 q1 8 8 v_house2 v_house r1 hr1) gcX6_become_X8_copy rfl ⟨rfl, rfl⟩ (List.mem_of_getElem? (i := 14) rfl) (imX6_become_own _ (List.mem_of_getElem? (i := 2) rfl)) (imX6_become_own _ (List.mem_of_getElem? (i := 1) rfl)) hyX8_copy rfl rfl rfl rfl ⟨Nat.zero_le _, Nat.zero_le _⟩ [5, 1] [0, 2, 3, 4, 6, 7] (N := 8) (by decide +kernel) rfl rfl rfl rfl rfl dX6_become_8 rfl ?_
  refine g_aload_n (np := 12) h 1 rfl rfl dX6_become_11 rfl ?_
  refine g_get (np := 15) (T := TX6) h imX6_become_u_X6 4 6 rfl rfl 1 (by decide) (imX6_become_own _ (List.mem_of_getElem? (i := 3) rfl)) rfl dX6_become_12 rfl ?_
  refine g_aload_n (np := 16) h 0 rfl rfl dX6_become_15 rfl ?_
  refine g_get (np := 19) (T := TX6) h imX6_become_u_X6 0 6 rfl rfl 1 (by decide) (imX6_become_own _ (List.mem_of_getElem? (i := 3) rfl)) rfl dX6_become_16 rfl ?_
  obtain ⟨r2, hr2, hF⟩ := Option.bind_eq_some_iff.mp hF
  refine g_callN (np := 22) (Wd' := (wdX6_become cI cZ q0 q1 q2 q3 q4 q5 q6 q7 v_count r1 r2 v_sounded v_count2 v_house2 v_reach2 v_sounded2)) (As := [.ref q6, .ref q2]) h (mX8_copy l D cI cZ q6 q2 8 8 v_reach2 v_reach r2 hr2) gcX6_become_X8_copy rfl ⟨rfl, rfl⟩ (List.mem_of_getElem? (i := 14) rfl) (imX6_become_own _ (List.mem_of_getElem? (i := 2) rfl)) (imX6_become_own _ (List.mem_of_getElem? (i := 1) rfl)) hyX8_copy rfl rfl rfl rfl ⟨Nat.zero_le _, Nat.zero_le _⟩ [6, 2] [0, 1, 3, 4, 5, 7] (N := 8) (by decide +kernel) rfl rfl rfl rfl rfl dX6_become_19 rfl ?_
  refine g_aload_n (np := 23) h 1 rfl rfl dX6_become_22 rfl ?_
  refine g_get (np := 26) (T := TX6) h imX6_become_u_X6 4 6 rfl rfl 2 (by decide) (imX6_become_own _ (List.mem_of_getElem? (i := 4) rfl)) rfl dX6_become_23 rfl ?_
  refine g_aload_n (np := 27) h 0 rfl rfl dX6_become_26 rfl ?_
  refine g_get (np := 30) (T := TX6) h imX6_become_u_X6 0 6 rfl rfl 2 (by decide) (imX6_become_own _ (List.mem_of_getElem? (i := 4) rfl)) rfl dX6_become_27 rfl ?_
  obtain ⟨r3, hr3, hF⟩ := Option.bind_eq_some_iff.mp hF
  refine g_callN (np := 33) (Wd' := (wdX6_become cI cZ q0 q1 q2 q3 q4 q5 q6 q7 v_count r1 r2 r3 v_count2 v_house2 v_reach2 v_sounded2)) (As := [.ref q7, .ref q3]) h (mX8_copy l D cI cZ q7 q3 8 8 v_sounded2 v_sounded r3 hr3) gcX6_become_X8_copy rfl ⟨rfl, rfl⟩ (List.mem_of_getElem? (i := 14) rfl) (imX6_become_own _ (List.mem_of_getElem? (i := 2) rfl)) (imX6_become_own _ (List.mem_of_getElem? (i := 1) rfl)) hyX8_copy rfl rfl rfl rfl ⟨Nat.zero_le _, Nat.zero_le _⟩ [7, 3] [0, 1, 2, 4, 5, 6] (N := 8) (by decide +kernel) rfl rfl rfl rfl rfl dX6_become_30 rfl ?_
  refine g_aload_n (np := 34) h 0 rfl rfl dX6_become_33 rfl ?_
  refine g_aload_n (np := 35) h 1 rfl rfl dX6_become_34 rfl ?_
  refine g_get (np := 38) (T := TX6) h imX6_become_u_X6 4 6 rfl rfl 3 (by decide) (imX6_become_own _ (List.mem_of_getElem? (i := 5) rfl)) rfl dX6_become_35 rfl ?_
  refine g_put (np := 41) (T := TX6) (Wd' := (wdX6_become cI cZ q0 q1 q2 q3 q4 q5 q6 q7 v_count2 r1 r2 r3 v_count2 v_house2 v_reach2 v_sounded2)) h imX6_become_u_X6 tyX6_ok nmX6 0 6 rfl rfl 3 (by decide) (imX6_become_own _ (List.mem_of_getElem? (i := 5) rfl)) rfl rfl rfl (Nat.le_of_ble_eq_true rfl) rfl dX6_become_38 rfl ?_
  exact hend _ hF _ _ dX6_become_41
theorem dX6_add_0 : decode cX6_add 0 = .ok (.aload_n 0, 1) := by decide +kernel
theorem dX6_add_1 : decode cX6_add 1 = .ok (.getfield 9, 3) := by decide +kernel
theorem dX6_add_4 : decode cX6_add 4 = .ok (.aload_n 0, 1) := by decide +kernel
theorem dX6_add_5 : decode cX6_add 5 = .ok (.getfield 21, 3) := by decide +kernel
theorem dX6_add_8 : decode cX6_add 8 = .ok (.iload_n 1, 1) := by decide +kernel
theorem dX6_add_9 : decode cX6_add 9 = .ok (.invokestatic 29, 3) := by decide +kernel
theorem dX6_add_12 : decode cX6_add 12 = .ok (.aload_n 0, 1) := by decide +kernel
theorem dX6_add_13 : decode cX6_add 13 = .ok (.getfield 15, 3) := by decide +kernel
theorem dX6_add_16 : decode cX6_add 16 = .ok (.aload_n 0, 1) := by decide +kernel
theorem dX6_add_17 : decode cX6_add 17 = .ok (.getfield 21, 3) := by decide +kernel
theorem dX6_add_20 : decode cX6_add 20 = .ok (.iload_n 2, 1) := by decide +kernel
theorem dX6_add_21 : decode cX6_add 21 = .ok (.invokestatic 29, 3) := by decide +kernel
theorem dX6_add_24 : decode cX6_add 24 = .ok (.aload_n 0, 1) := by decide +kernel
theorem dX6_add_25 : decode cX6_add 25 = .ok (.getfield 18, 3) := by decide +kernel
theorem dX6_add_28 : decode cX6_add 28 = .ok (.aload_n 0, 1) := by decide +kernel
theorem dX6_add_29 : decode cX6_add 29 = .ok (.getfield 21, 3) := by decide +kernel
theorem dX6_add_32 : decode cX6_add 32 = .ok (.iload_n 3, 1) := by decide +kernel
theorem dX6_add_33 : decode cX6_add 33 = .ok (.ifCond .eq 7, 3) := by decide +kernel
theorem dX6_add_36 : decode cX6_add 36 = .ok (.iconst 1, 1) := by decide +kernel
theorem dX6_add_37 : decode cX6_add 37 = .ok (.goto 4, 3) := by decide +kernel
theorem dX6_add_40 : decode cX6_add 40 = .ok (.iconst 0, 1) := by decide +kernel
theorem dX6_add_41 : decode cX6_add 41 = .ok (.invokestatic 29, 3) := by decide +kernel
theorem dX6_add_44 : decode cX6_add 44 = .ok (.aload_n 0, 1) := by decide +kernel
theorem dX6_add_45 : decode cX6_add 45 = .ok (.dup, 1) := by decide +kernel
theorem dX6_add_46 : decode cX6_add 46 = .ok (.getfield 21, 3) := by decide +kernel
theorem dX6_add_49 : decode cX6_add 49 = .ok (.iconst 1, 1) := by decide +kernel
theorem dX6_add_50 : decode cX6_add 50 = .ok (.iadd, 1) := by decide +kernel
theorem dX6_add_51 : decode cX6_add 51 = .ok (.putfield 21, 3) := by decide +kernel
theorem dX6_add_54 : decode cX6_add 54 = .ok (.return_, 1) := by decide +kernel
def wtX6_add : List Cond := .code yX6_add cX6_add 4 none :: (([.fieldLink RX6 9 "DriftKin$Sights" "house" "[I", .fieldLink RX6 21 "DriftKin$Sights" "count" "I", .static yX8_put, .initialized RX8, .fieldLink RX6 15 "DriftKin$Sights" "reach" "[I", .fieldLink RX6 18 "DriftKin$Sights" "sounded" "[I"]) ++ ((u_ws RX6 TX6 4) ++ ((wtX8_put) ++ [])))
theorem imX6_add_own : ∀ w ∈ ([.fieldLink RX6 9 "DriftKin$Sights" "house" "[I", .fieldLink RX6 21 "DriftKin$Sights" "count" "I", .static yX8_put, .initialized RX8, .fieldLink RX6 15 "DriftKin$Sights" "reach" "[I", .fieldLink RX6 18 "DriftKin$Sights" "sounded" "[I"] : List Cond), w ∈ wtX6_add := fun w h => List.mem_cons_of_mem _ (inl h)
theorem imX6_add_u_X6 : ∀ w ∈ (u_ws RX6 TX6 4 : List Cond), w ∈ wtX6_add := fun w h => List.mem_cons_of_mem _ (inr (inl h))
theorem imX6_add_c_X8_put : ∀ w ∈ (wtX8_put : List Cond), w ∈ wtX6_add := fun w h => List.mem_cons_of_mem _ (inr (inr (inl h)))
theorem gdX6_add : ∀ w ∈ wtX6_add, Gd w := gdc rfl (gda (gdl (by decide +kernel)) (gda (gdu _ _ _) (gda gdX8_put gdn)))
theorem gcX6_add_X8_put : GoodIn wtX6_add (wtX8_put) := fun w h => ⟨imX6_add_c_X8_put w h, gdX8_put w h⟩
def fX6_add_41 (v_count : Int32) (v_house : Nat → Int32) (v_reach : Nat → Int32) (v_sounded : Nat → Int32) (s0 : Int32) (s1 : Int32) : Option (Int32 × (Nat → Int32) × (Nat → Int32) × (Nat → Int32)) :=
  (fX8_put 8 v_sounded s1 s0).bind (fun r1001 =>
    some ((v_count + (1 : Int32)), v_house, v_reach, r1001))
def fX6_add (v_count : Int32) (v_house : Nat → Int32) (v_reach : Nat → Int32) (v_sounded : Nat → Int32) (x1 : Int32) (x2 : Int32) (x3 : Int32) : Option (Int32 × (Nat → Int32) × (Nat → Int32) × (Nat → Int32)) :=
  (fX8_put 8 v_house v_count x1).bind (fun r1 =>
    (fX8_put 8 v_reach v_count x2).bind (fun r2 =>
      if x3 = (0 : Int32) then
        fX6_add_41 v_count r1 r2 v_sounded (0 : Int32) v_count
      else
        fX6_add_41 v_count r1 r2 v_sounded (1 : Int32) v_count))
def wdX6_add (cI cZ : ClassId) (q0 : Nat) (q1 : Nat) (q2 : Nat) (q3 : Nat)  (v_count : Int32) (v_house : Nat → Int32) (v_reach : Nat → Int32) (v_sounded : Nat → Int32) : va_W := [(q0, .inr (6, [.ref q1, .ref q2, .ref q3, .int v_count])), (q1, .inl (cI, 8, .inl v_house)), (q2, .inl (cI, 8, .inl v_reach)), (q3, .inl (cI, 8, .inl v_sounded))]
abbrev rmX6_add : Jvm.Room := { frames := 1, cells := 0, slots := 0, locals := 22 }
theorem hyX6_add : yX6_add.cls ≠ "java/lang/invoke/MethodHandle" ∧ yX6_add.cls ≠ "java/lang/invoke/VarHandle" ∧ (parseMethodDescriptor yX6_add.desc).map (fun d => d.parameters.length) = some 3 := by decide +kernel
set_option maxHeartbeats 4000000 in
set_option maxRecDepth 100000 in
theorem mX6_add (l : Launch) (D : va_G) (cI cZ : ClassId) (q0 : Nat) (q1 : Nat) (q2 : Nat) (q3 : Nat) (v_count : Int32) (v_house : Nat → Int32) (v_reach : Nat → Int32) (v_sounded : Nat → Int32) (x1 : Int32) (x2 : Int32) (x3 : Int32) (z : Int32 × (Nat → Int32) × (Nat → Int32) × (Nat → Int32)) (hF : fX6_add v_count v_house v_reach v_sounded x1 x2 x3 = some z) : mp l yX6_add wtX6_add rmX6_add D cI cZ [.ref q0, .int x1, .int x2, .int x3] (wdX6_add cI cZ q0 q1 q2 q3 v_count v_house v_reach v_sounded) none (wdX6_add cI cZ q0 q1 q2 q3 z.1 z.2.1 z.2.2.1 z.2.2.2) := by
  refine mp_v (lv0 := [(0, .ref q0), (1, .int x1), (2, .int x2), (3, .int x3)]) cX6_add 4 (by decide) rfl (Nat.le_of_ble_eq_true rfl) rfl (fun E h hend0 => ?_)
  have hend : ∀ (z' : Int32 × (Nat → Int32) × (Nat → Int32) × (Nat → Int32)), some z' = some z → ∀ (pc : Nat) (lv : List (Nat × Value)), decode cX6_add pc = .ok (.return_, 1) → G l D E 4 0 0 (wdX6_add cI cZ q0 q1 q2 q3 (z'.1) (z'.2.1) (z'.2.2.1) (z'.2.2.2)) pc lv [] := fun z' e => by cases e; exact hend0
  clear hend0
  have hL41 : ∀ (v_count : Int32) (v_house : Nat → Int32) (v_reach : Nat → Int32) (v_sounded : Nat → Int32) (s0 : Int32) (s1 : Int32), fX6_add_41 v_count v_house v_reach v_sounded s0 s1 = some z → G l D E 4 0 0 (wdX6_add cI cZ q0 q1 q2 q3 v_count v_house v_reach v_sounded) 41 [(0, .ref q0)] [.int s0, .int s1, .ref q3] := by
    intro v_count v_house v_reach v_sounded s0 s1 hF
    rw [fX6_add_41] at hF
    obtain ⟨r1001, hr1001, hF⟩ := Option.bind_eq_some_iff.mp hF
    refine g_callN (np := 44) (Wd' := (wdX6_add cI cZ q0 q1 q2 q3 v_count v_house v_reach r1001)) (As := [.ref q3, .int s1, .int s0]) h (mX8_put l D cI cZ q3 8 v_sounded s1 s0 r1001 hr1001) gcX6_add_X8_put rfl ⟨rfl, rfl⟩ (List.mem_of_getElem? (i := 28) rfl) (imX6_add_own _ (List.mem_of_getElem? (i := 3) rfl)) (imX6_add_own _ (List.mem_of_getElem? (i := 2) rfl)) hyX8_put rfl rfl rfl rfl ⟨Nat.zero_le _, Nat.zero_le _⟩ [3] [0, 1, 2] (N := 4) (by decide +kernel) rfl rfl rfl rfl rfl dX6_add_41 rfl ?_
    refine g_aload_n (np := 45) h 0 rfl rfl dX6_add_44 rfl ?_
    refine g_dup (np := 46) h rfl dX6_add_45 rfl ?_
    refine g_get (np := 49) (T := TX6) h imX6_add_u_X6 0 6 rfl rfl 3 (by decide) (imX6_add_own _ (List.mem_of_getElem? (i := 1) rfl)) rfl dX6_add_46 rfl ?_
    refine g_iconst (np := 50) (v := (1 : Int32)) h (by decide) dX6_add_49 rfl ?_
    refine g_iadd (np := 51) h dX6_add_50 rfl ?_
    refine g_put (np := 54) (T := TX6) (Wd' := (wdX6_add cI cZ q0 q1 q2 q3 (v_count + (1 : Int32)) v_house v_reach r1001)) h imX6_add_u_X6 tyX6_ok nmX6 0 6 rfl rfl 3 (by decide) (imX6_add_own _ (List.mem_of_getElem? (i := 1) rfl)) rfl rfl rfl (Nat.le_of_ble_eq_true rfl) rfl dX6_add_51 rfl ?_
    exact hend _ hF _ _ dX6_add_54
  unfold fX6_add at hF
  refine g_aload_n (np := 1) h 0 rfl rfl dX6_add_0 rfl ?_
  refine g_get (np := 4) (T := TX6) h imX6_add_u_X6 0 6 rfl rfl 0 (by decide) (imX6_add_own _ (List.mem_of_getElem? (i := 0) rfl)) rfl dX6_add_1 rfl ?_
  refine g_aload_n (np := 5) h 0 rfl rfl dX6_add_4 rfl ?_
  refine g_get (np := 8) (T := TX6) h imX6_add_u_X6 0 6 rfl rfl 3 (by decide) (imX6_add_own _ (List.mem_of_getElem? (i := 1) rfl)) rfl dX6_add_5 rfl ?_
  refine g_iload_n (np := 9) h 1 rfl rfl dX6_add_8 rfl ?_
  obtain ⟨r1, hr1, hF⟩ := Option.bind_eq_some_iff.mp hF
  refine g_callN (np := 12) (Wd' := (wdX6_add cI cZ q0 q1 q2 q3 v_count r1 v_reach v_sounded)) (As := [.ref q1, .int v_count, .int x1]) h (mX8_put l D cI cZ q1 8 v_house v_count x1 r1 hr1) gcX6_add_X8_put rfl ⟨rfl, rfl⟩ (List.mem_of_getElem? (i := 28) rfl) (imX6_add_own _ (List.mem_of_getElem? (i := 3) rfl)) (imX6_add_own _ (List.mem_of_getElem? (i := 2) rfl)) hyX8_put rfl rfl rfl rfl ⟨Nat.zero_le _, Nat.zero_le _⟩ [1] [0, 2, 3] (N := 4) (by decide +kernel) rfl rfl rfl rfl rfl dX6_add_9 rfl ?_
  refine g_aload_n (np := 13) h 0 rfl rfl dX6_add_12 rfl ?_
  refine g_get (np := 16) (T := TX6) h imX6_add_u_X6 0 6 rfl rfl 1 (by decide) (imX6_add_own _ (List.mem_of_getElem? (i := 4) rfl)) rfl dX6_add_13 rfl ?_
  refine g_aload_n (np := 17) h 0 rfl rfl dX6_add_16 rfl ?_
  refine g_get (np := 20) (T := TX6) h imX6_add_u_X6 0 6 rfl rfl 3 (by decide) (imX6_add_own _ (List.mem_of_getElem? (i := 1) rfl)) rfl dX6_add_17 rfl ?_
  refine g_iload_n (np := 21) h 2 rfl rfl dX6_add_20 rfl ?_
  obtain ⟨r2, hr2, hF⟩ := Option.bind_eq_some_iff.mp hF
  refine g_callN (np := 24) (Wd' := (wdX6_add cI cZ q0 q1 q2 q3 v_count r1 r2 v_sounded)) (As := [.ref q2, .int v_count, .int x2]) h (mX8_put l D cI cZ q2 8 v_reach v_count x2 r2 hr2) gcX6_add_X8_put rfl ⟨rfl, rfl⟩ (List.mem_of_getElem? (i := 28) rfl) (imX6_add_own _ (List.mem_of_getElem? (i := 3) rfl)) (imX6_add_own _ (List.mem_of_getElem? (i := 2) rfl)) hyX8_put rfl rfl rfl rfl ⟨Nat.zero_le _, Nat.zero_le _⟩ [2] [0, 1, 3] (N := 4) (by decide +kernel) rfl rfl rfl rfl rfl dX6_add_21 rfl ?_
  refine g_aload_n (np := 25) h 0 rfl rfl dX6_add_24 rfl ?_
  refine g_get (np := 28) (T := TX6) h imX6_add_u_X6 0 6 rfl rfl 2 (by decide) (imX6_add_own _ (List.mem_of_getElem? (i := 5) rfl)) rfl dX6_add_25 rfl ?_
  refine g_aload_n (np := 29) h 0 rfl rfl dX6_add_28 rfl ?_
  refine g_get (np := 32) (T := TX6) h imX6_add_u_X6 0 6 rfl rfl 3 (by decide) (imX6_add_own _ (List.mem_of_getElem? (i := 1) rfl)) rfl dX6_add_29 rfl ?_
  refine g_iload_n (np := 33) h 3 rfl rfl dX6_add_32 rfl ?_
  refine g_if_eq h hF dX6_add_33 (np := 36) rfl (tg := 40) rfl (fun c3 hF => ?_) (fun c3 hF => ?_)
  · refine g_iconst (np := 41) (v := (0 : Int32)) h (by decide) dX6_add_40 rfl ?_
    refine g_lv [0] rfl ?_
    exact hL41 v_count r1 r2 v_sounded (0 : Int32) v_count hF
  · refine g_iconst (np := 37) (v := (1 : Int32)) h (by decide) dX6_add_36 rfl ?_
    refine g_goto h dX6_add_37 (np := 41) rfl ?_
    refine g_lv [0] rfl ?_
    exact hL41 v_count r1 r2 v_sounded (1 : Int32) v_count hF
theorem dX6_bitsLeft_0 : decode cX6_bitsLeft 0 = .ok (.sipush 255, 3) := by decide +kernel
theorem dX6_bitsLeft_3 : decode cX6_bitsLeft 3 = .ok (.istore_n 1, 1) := by decide +kernel
theorem dX6_bitsLeft_4 : decode cX6_bitsLeft 4 = .ok (.iconst 0, 1) := by decide +kernel
theorem dX6_bitsLeft_5 : decode cX6_bitsLeft 5 = .ok (.istore_n 2, 1) := by decide +kernel
theorem dX6_bitsLeft_6 : decode cX6_bitsLeft 6 = .ok (.iload_n 2, 1) := by decide +kernel
theorem dX6_bitsLeft_7 : decode cX6_bitsLeft 7 = .ok (.aload_n 0, 1) := by decide +kernel
theorem dX6_bitsLeft_8 : decode cX6_bitsLeft 8 = .ok (.getfield 21, 3) := by decide +kernel
theorem dX6_bitsLeft_11 : decode cX6_bitsLeft 11 = .ok (.if_icmp .ge 51, 3) := by decide +kernel
theorem dX6_bitsLeft_14 : decode cX6_bitsLeft 14 = .ok (.aload_n 0, 1) := by decide +kernel
theorem dX6_bitsLeft_15 : decode cX6_bitsLeft 15 = .ok (.getfield 9, 3) := by decide +kernel
theorem dX6_bitsLeft_18 : decode cX6_bitsLeft 18 = .ok (.iload_n 2, 1) := by decide +kernel
theorem dX6_bitsLeft_19 : decode cX6_bitsLeft 19 = .ok (.invokestatic 33, 3) := by decide +kernel
theorem dX6_bitsLeft_22 : decode cX6_bitsLeft 22 = .ok (.aload_n 0, 1) := by decide +kernel
theorem dX6_bitsLeft_23 : decode cX6_bitsLeft 23 = .ok (.getfield 15, 3) := by decide +kernel
theorem dX6_bitsLeft_26 : decode cX6_bitsLeft 26 = .ok (.iload_n 2, 1) := by decide +kernel
theorem dX6_bitsLeft_27 : decode cX6_bitsLeft 27 = .ok (.invokestatic 33, 3) := by decide +kernel
theorem dX6_bitsLeft_30 : decode cX6_bitsLeft 30 = .ok (.invokestatic 37, 3) := by decide +kernel
theorem dX6_bitsLeft_33 : decode cX6_bitsLeft 33 = .ok (.istore_n 3, 1) := by decide +kernel
theorem dX6_bitsLeft_34 : decode cX6_bitsLeft 34 = .ok (.iload_n 1, 1) := by decide +kernel
theorem dX6_bitsLeft_35 : decode cX6_bitsLeft 35 = .ok (.aload_n 0, 1) := by decide +kernel
theorem dX6_bitsLeft_36 : decode cX6_bitsLeft 36 = .ok (.getfield 18, 3) := by decide +kernel
theorem dX6_bitsLeft_39 : decode cX6_bitsLeft 39 = .ok (.iload_n 2, 1) := by decide +kernel
theorem dX6_bitsLeft_40 : decode cX6_bitsLeft 40 = .ok (.invokestatic 33, 3) := by decide +kernel
theorem dX6_bitsLeft_43 : decode cX6_bitsLeft 43 = .ok (.iconst 1, 1) := by decide +kernel
theorem dX6_bitsLeft_44 : decode cX6_bitsLeft 44 = .ok (.if_icmp .ne 7, 3) := by decide +kernel
theorem dX6_bitsLeft_47 : decode cX6_bitsLeft 47 = .ok (.iload_n 3, 1) := by decide +kernel
theorem dX6_bitsLeft_48 : decode cX6_bitsLeft 48 = .ok (.goto 6, 3) := by decide +kernel
theorem dX6_bitsLeft_51 : decode cX6_bitsLeft 51 = .ok (.iload_n 3, 1) := by decide +kernel
theorem dX6_bitsLeft_52 : decode cX6_bitsLeft 52 = .ok (.iconst (-1), 1) := by decide +kernel
theorem dX6_bitsLeft_53 : decode cX6_bitsLeft 53 = .ok (.ixor, 1) := by decide +kernel
theorem dX6_bitsLeft_54 : decode cX6_bitsLeft 54 = .ok (.iand, 1) := by decide +kernel
theorem dX6_bitsLeft_55 : decode cX6_bitsLeft 55 = .ok (.istore_n 1, 1) := by decide +kernel
theorem dX6_bitsLeft_56 : decode cX6_bitsLeft 56 = .ok (.iinc 2 1, 3) := by decide +kernel
theorem dX6_bitsLeft_59 : decode cX6_bitsLeft 59 = .ok (.goto (-53), 3) := by decide +kernel
theorem dX6_bitsLeft_62 : decode cX6_bitsLeft 62 = .ok (.iload_n 1, 1) := by decide +kernel
theorem dX6_bitsLeft_63 : decode cX6_bitsLeft 63 = .ok (.ireturn, 1) := by decide +kernel
def wtX6_bitsLeft : List Cond := .code yX6_bitsLeft cX6_bitsLeft 4 (some .int) :: (([.fieldLink RX6 21 "DriftKin$Sights" "count" "I", .fieldLink RX6 9 "DriftKin$Sights" "house" "[I", .static yX8_at, .initialized RX8, .fieldLink RX6 15 "DriftKin$Sights" "reach" "[I", .static yX8_bitsNear, .fieldLink RX6 18 "DriftKin$Sights" "sounded" "[I"]) ++ ((u_ws RX6 TX6 4) ++ ((wtX8_at) ++ ((wtX8_bitsNear) ++ []))))
theorem imX6_bitsLeft_own : ∀ w ∈ ([.fieldLink RX6 21 "DriftKin$Sights" "count" "I", .fieldLink RX6 9 "DriftKin$Sights" "house" "[I", .static yX8_at, .initialized RX8, .fieldLink RX6 15 "DriftKin$Sights" "reach" "[I", .static yX8_bitsNear, .fieldLink RX6 18 "DriftKin$Sights" "sounded" "[I"] : List Cond), w ∈ wtX6_bitsLeft := fun w h => List.mem_cons_of_mem _ (inl h)
theorem imX6_bitsLeft_u_X6 : ∀ w ∈ (u_ws RX6 TX6 4 : List Cond), w ∈ wtX6_bitsLeft := fun w h => List.mem_cons_of_mem _ (inr (inl h))
theorem imX6_bitsLeft_c_X8_at : ∀ w ∈ (wtX8_at : List Cond), w ∈ wtX6_bitsLeft := fun w h => List.mem_cons_of_mem _ (inr (inr (inl h)))
theorem imX6_bitsLeft_c_X8_bitsNear : ∀ w ∈ (wtX8_bitsNear : List Cond), w ∈ wtX6_bitsLeft := fun w h => List.mem_cons_of_mem _ (inr (inr (inr (inl h))))
theorem gdX6_bitsLeft : ∀ w ∈ wtX6_bitsLeft, Gd w := gdc rfl (gda (gdl (by decide +kernel)) (gda (gdu _ _ _) (gda gdX8_at (gda gdX8_bitsNear gdn))))
theorem gcX6_bitsLeft_X8_at : GoodIn wtX6_bitsLeft (wtX8_at) := fun w h => ⟨imX6_bitsLeft_c_X8_at w h, gdX8_at w h⟩
theorem gcX6_bitsLeft_X8_bitsNear : GoodIn wtX6_bitsLeft (wtX8_bitsNear) := fun w h => ⟨imX6_bitsLeft_c_X8_bitsNear w h, gdX8_bitsNear w h⟩
def fX6_bitsLeft_6 (v_count : Int32) (v_house : Nat → Int32) (v_reach : Nat → Int32) (v_sounded : Nat → Int32) : Nat → Int32 → Int32 → Option (Int32)
  | 0, _, _ => none
  | n + 1, x1, x2 =>
    if v_count ≤ x2 then
      some x1
    else
      (fX8_at 8 v_house x2).bind (fun r1002 =>
        (fX8_at 8 v_reach x2).bind (fun r1003 =>
          (fX8_bitsNear r1002 r1003).bind (fun r1004 =>
            (fX8_at 8 v_sounded x2).bind (fun r1005 =>
              if r1005 = (1 : Int32) then
                fX6_bitsLeft_6 v_count v_house v_reach v_sounded n (x1 &&& r1004) (x2 + (1 : Int32))
              else
                fX6_bitsLeft_6 v_count v_house v_reach v_sounded n (x1 &&& (r1004 ^^^ (-1 : Int32))) (x2 + (1 : Int32))))))
def fX6_bitsLeft (v_count : Int32) (v_house : Nat → Int32) (v_reach : Nat → Int32) (v_sounded : Nat → Int32) : Option (Int32) :=
  fX6_bitsLeft_6 v_count v_house v_reach v_sounded 2000 (255 : Int32) (0 : Int32)
def wdX6_bitsLeft (cI cZ : ClassId) (q0 : Nat) (q1 : Nat) (q2 : Nat) (q3 : Nat)  (v_count : Int32) (v_house : Nat → Int32) (v_reach : Nat → Int32) (v_sounded : Nat → Int32) : va_W := [(q0, .inr (6, [.ref q1, .ref q2, .ref q3, .int v_count])), (q1, .inl (cI, 8, .inl v_house)), (q2, .inl (cI, 8, .inl v_reach)), (q3, .inl (cI, 8, .inl v_sounded))]
abbrev rmX6_bitsLeft : Jvm.Room := { frames := 2, cells := 0, slots := 0, locals := 44 }
theorem hyX6_bitsLeft : yX6_bitsLeft.cls ≠ "java/lang/invoke/MethodHandle" ∧ yX6_bitsLeft.cls ≠ "java/lang/invoke/VarHandle" ∧ (parseMethodDescriptor yX6_bitsLeft.desc).map (fun d => d.parameters.length) = some 0 := by decide +kernel
set_option maxHeartbeats 4000000 in
set_option maxRecDepth 100000 in
theorem mX6_bitsLeft (l : Launch) (D : va_G) (cI cZ : ClassId) (q0 : Nat) (q1 : Nat) (q2 : Nat) (q3 : Nat) (v_count : Int32) (v_house : Nat → Int32) (v_reach : Nat → Int32) (v_sounded : Nat → Int32) (z : Int32) (hF : fX6_bitsLeft v_count v_house v_reach v_sounded = some z) : mp l yX6_bitsLeft wtX6_bitsLeft rmX6_bitsLeft D cI cZ [.ref q0] (wdX6_bitsLeft cI cZ q0 q1 q2 q3 v_count v_house v_reach v_sounded) (some (.int z)) (wdX6_bitsLeft cI cZ q0 q1 q2 q3 v_count v_house v_reach v_sounded) := by
  refine mp_i (lv0 := [(0, .ref q0)]) cX6_bitsLeft 4 z (by decide) rfl (Nat.le_of_ble_eq_true rfl) rfl (fun E h hend0 => ?_)
  have hend : ∀ (z' : Int32), some z' = some z → ∀ (pc : Nat) (lv : List (Nat × Value)), decode cX6_bitsLeft pc = .ok (.ireturn, 1) → G l D E 4 0 0 (wdX6_bitsLeft cI cZ q0 q1 q2 q3 v_count v_house v_reach v_sounded) pc lv [.int z'] := fun z' e => by cases e; exact hend0
  clear hend0
  have hL6 : ∀ (n6 : Nat) (x1 : Int32) (x2 : Int32), fX6_bitsLeft_6 v_count v_house v_reach v_sounded n6 x1 x2 = some z → G l D E 4 0 0 (wdX6_bitsLeft cI cZ q0 q1 q2 q3 v_count v_house v_reach v_sounded) 6 [(0, .ref q0), (1, .int x1), (2, .int x2)] [] := by
    intro n6
    induction n6 with
    | zero =>
      intro x1 x2 hF
      rw [fX6_bitsLeft_6] at hF
      cases hF
    | succ n6 ih6 =>
      intro x1 x2 hF
      rw [fX6_bitsLeft_6] at hF
      refine g_iload_n (np := 7) h 2 rfl rfl dX6_bitsLeft_6 rfl ?_
      refine g_aload_n (np := 8) h 0 rfl rfl dX6_bitsLeft_7 rfl ?_
      refine g_get (np := 11) (T := TX6) h imX6_bitsLeft_u_X6 0 6 rfl rfl 3 (by decide) (imX6_bitsLeft_own _ (List.mem_of_getElem? (i := 0) rfl)) rfl dX6_bitsLeft_8 rfl ?_
      refine g_icmp_ge h hF dX6_bitsLeft_11 (np := 14) rfl (tg := 62) rfl (fun c1001 hF => ?_) (fun c1001 hF => ?_)
      · refine g_iload_n (np := 63) h 1 rfl rfl dX6_bitsLeft_62 rfl ?_
        exact hend _ hF _ _ dX6_bitsLeft_63
      · refine g_aload_n (np := 15) h 0 rfl rfl dX6_bitsLeft_14 rfl ?_
        refine g_get (np := 18) (T := TX6) h imX6_bitsLeft_u_X6 0 6 rfl rfl 0 (by decide) (imX6_bitsLeft_own _ (List.mem_of_getElem? (i := 1) rfl)) rfl dX6_bitsLeft_15 rfl ?_
        refine g_iload_n (np := 19) h 2 rfl rfl dX6_bitsLeft_18 rfl ?_
        obtain ⟨r1002, hr1002, hF⟩ := Option.bind_eq_some_iff.mp hF
        refine g_callN (np := 22) (Wd' := (wdX6_bitsLeft cI cZ q0 q1 q2 q3 v_count v_house v_reach v_sounded)) (As := [.ref q1, .int x2]) h (mX8_at l D cI cZ q1 8 v_house x2 r1002 hr1002) gcX6_bitsLeft_X8_at rfl ⟨rfl, rfl⟩ (List.mem_of_getElem? (i := 29) rfl) (imX6_bitsLeft_own _ (List.mem_of_getElem? (i := 3) rfl)) (imX6_bitsLeft_own _ (List.mem_of_getElem? (i := 2) rfl)) hyX8_at rfl rfl rfl rfl ⟨Nat.zero_le _, Nat.zero_le _⟩ [1] [0, 2, 3] (N := 4) (by decide +kernel) rfl rfl rfl rfl rfl dX6_bitsLeft_19 rfl ?_
        refine g_aload_n (np := 23) h 0 rfl rfl dX6_bitsLeft_22 rfl ?_
        refine g_get (np := 26) (T := TX6) h imX6_bitsLeft_u_X6 0 6 rfl rfl 1 (by decide) (imX6_bitsLeft_own _ (List.mem_of_getElem? (i := 4) rfl)) rfl dX6_bitsLeft_23 rfl ?_
        refine g_iload_n (np := 27) h 2 rfl rfl dX6_bitsLeft_26 rfl ?_
        obtain ⟨r1003, hr1003, hF⟩ := Option.bind_eq_some_iff.mp hF
        refine g_callN (np := 30) (Wd' := (wdX6_bitsLeft cI cZ q0 q1 q2 q3 v_count v_house v_reach v_sounded)) (As := [.ref q2, .int x2]) h (mX8_at l D cI cZ q2 8 v_reach x2 r1003 hr1003) gcX6_bitsLeft_X8_at rfl ⟨rfl, rfl⟩ (List.mem_of_getElem? (i := 29) rfl) (imX6_bitsLeft_own _ (List.mem_of_getElem? (i := 3) rfl)) (imX6_bitsLeft_own _ (List.mem_of_getElem? (i := 2) rfl)) hyX8_at rfl rfl rfl rfl ⟨Nat.zero_le _, Nat.zero_le _⟩ [2] [0, 1, 3] (N := 4) (by decide +kernel) rfl rfl rfl rfl rfl dX6_bitsLeft_27 rfl ?_
        obtain ⟨r1004, hr1004, hF⟩ := Option.bind_eq_some_iff.mp hF
        refine g_callN (np := 33) (Wd' := (wdX6_bitsLeft cI cZ q0 q1 q2 q3 v_count v_house v_reach v_sounded)) (As := [.int r1002, .int r1003]) h (mX8_bitsNear l D cI cZ r1002 r1003 r1004 hr1004) gcX6_bitsLeft_X8_bitsNear rfl ⟨rfl, rfl⟩ (List.mem_of_getElem? (i := 30) rfl) (imX6_bitsLeft_own _ (List.mem_of_getElem? (i := 3) rfl)) (imX6_bitsLeft_own _ (List.mem_of_getElem? (i := 5) rfl)) hyX8_bitsNear rfl rfl rfl rfl ⟨Nat.zero_le _, Nat.zero_le _⟩ [] [0, 1, 2, 3] (N := 4) (by decide +kernel) rfl rfl rfl rfl rfl dX6_bitsLeft_30 rfl ?_
        refine g_istore_n (np := 34) (lv' := [(3, .int r1004), (0, .ref q0), (1, .int x1), (2, .int x2)]) h rfl (by decide) rfl dX6_bitsLeft_33 rfl ?_
        refine g_iload_n (np := 35) h 2 rfl rfl dX6_bitsLeft_34 rfl ?_
        refine g_aload_n (np := 36) h 1 rfl rfl dX6_bitsLeft_35 rfl ?_
        refine g_get (np := 39) (T := TX6) h imX6_bitsLeft_u_X6 0 6 rfl rfl 2 (by decide) (imX6_bitsLeft_own _ (List.mem_of_getElem? (i := 6) rfl)) rfl dX6_bitsLeft_36 rfl ?_
        refine g_iload_n (np := 40) h 3 rfl rfl dX6_bitsLeft_39 rfl ?_
        obtain ⟨r1005, hr1005, hF⟩ := Option.bind_eq_some_iff.mp hF
        refine g_callN (np := 43) (Wd' := (wdX6_bitsLeft cI cZ q0 q1 q2 q3 v_count v_house v_reach v_sounded)) (As := [.ref q3, .int x2]) h (mX8_at l D cI cZ q3 8 v_sounded x2 r1005 hr1005) gcX6_bitsLeft_X8_at rfl ⟨rfl, rfl⟩ (List.mem_of_getElem? (i := 29) rfl) (imX6_bitsLeft_own _ (List.mem_of_getElem? (i := 3) rfl)) (imX6_bitsLeft_own _ (List.mem_of_getElem? (i := 2) rfl)) hyX8_at rfl rfl rfl rfl ⟨Nat.zero_le _, Nat.zero_le _⟩ [3] [0, 1, 2] (N := 4) (by decide +kernel) rfl rfl rfl rfl rfl dX6_bitsLeft_40 rfl ?_
        refine g_iconst (np := 44) (v := (1 : Int32)) h (by decide) dX6_bitsLeft_43 rfl ?_
        refine g_icmp_ne h hF dX6_bitsLeft_44 (np := 47) rfl (tg := 51) rfl (fun c1006 hF => ?_) (fun c1006 hF => ?_)
        · refine g_iload_n (np := 52) h 0 rfl rfl dX6_bitsLeft_51 rfl ?_
          refine g_iconst (np := 53) (v := (-1 : Int32)) h (by decide) dX6_bitsLeft_52 rfl ?_
          refine g_ixor (np := 54) h dX6_bitsLeft_53 rfl ?_
          refine g_iand (np := 55) h dX6_bitsLeft_54 rfl ?_
          refine g_istore_n (np := 56) (lv' := [(1, .int (x1 &&& (r1004 ^^^ (-1 : Int32)))), (3, .int r1004), (0, .ref q0), (2, .int x2)]) h rfl (by decide) rfl dX6_bitsLeft_55 rfl ?_
          refine g_iinc (np := 59) (v := (x2 + (1 : Int32))) (lv' := [(2, .int (x2 + (1 : Int32))), (1, .int (x1 &&& (r1004 ^^^ (-1 : Int32)))), (3, .int r1004), (0, .ref q0)]) h 3 rfl rfl (by decide) rfl dX6_bitsLeft_56 rfl ?_
          refine g_goto h dX6_bitsLeft_59 (np := 6) rfl ?_
          refine g_lv [3, 1, 0] rfl ?_
          exact ih6 (x1 &&& (r1004 ^^^ (-1 : Int32))) (x2 + (1 : Int32)) hF
        · refine g_iload_n (np := 48) h 0 rfl rfl dX6_bitsLeft_47 rfl ?_
          refine g_goto h dX6_bitsLeft_48 (np := 54) rfl ?_
          refine g_iand (np := 55) h dX6_bitsLeft_54 rfl ?_
          refine g_istore_n (np := 56) (lv' := [(1, .int (x1 &&& r1004)), (3, .int r1004), (0, .ref q0), (2, .int x2)]) h rfl (by decide) rfl dX6_bitsLeft_55 rfl ?_
          refine g_iinc (np := 59) (v := (x2 + (1 : Int32))) (lv' := [(2, .int (x2 + (1 : Int32))), (1, .int (x1 &&& r1004)), (3, .int r1004), (0, .ref q0)]) h 3 rfl rfl (by decide) rfl dX6_bitsLeft_56 rfl ?_
          refine g_goto h dX6_bitsLeft_59 (np := 6) rfl ?_
          refine g_lv [3, 1, 0] rfl ?_
          exact ih6 (x1 &&& r1004) (x2 + (1 : Int32)) hF
  unfold fX6_bitsLeft at hF
  refine g_sipush (np := 3) (v := (255 : Int32)) h (by decide) dX6_bitsLeft_0 rfl ?_
  refine g_istore_n (np := 4) (lv' := [(1, .int (255 : Int32)), (0, .ref q0)]) h rfl (by decide) rfl dX6_bitsLeft_3 rfl ?_
  refine g_iconst (np := 5) (v := (0 : Int32)) h (by decide) dX6_bitsLeft_4 rfl ?_
  refine g_istore_n (np := 6) (lv' := [(2, .int (0 : Int32)), (1, .int (255 : Int32)), (0, .ref q0)]) h rfl (by decide) rfl dX6_bitsLeft_5 rfl ?_
  refine g_lv [2, 1, 0] rfl ?_
  exact hL6 _ (255 : Int32) (0 : Int32) hF
