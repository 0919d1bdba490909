theorem dX8_piece_0 : decode cX8_piece 0 = .ok (.iload_n 1, 1) := by decide +kernel
theorem dX8_piece_1 : decode cX8_piece 1 = .ok (.invokestatic 57, 3) := by decide +kernel
theorem dX8_piece_4 : decode cX8_piece 4 = .ok (.ifCond .ne 5, 3) := by decide +kernel
theorem dX8_piece_7 : decode cX8_piece 7 = .ok (.iconst (-1), 1) := by decide +kernel
theorem dX8_piece_8 : decode cX8_piece 8 = .ok (.ireturn, 1) := by decide +kernel
theorem dX8_piece_9 : decode cX8_piece 9 = .ok (.iload_n 2, 1) := by decide +kernel
theorem dX8_piece_10 : decode cX8_piece 10 = .ok (.iconst 0, 1) := by decide +kernel
theorem dX8_piece_11 : decode cX8_piece 11 = .ok (.bipush 9, 2) := by decide +kernel
theorem dX8_piece_13 : decode cX8_piece 13 = .ok (.invokestatic 61, 3) := by decide +kernel
theorem dX8_piece_16 : decode cX8_piece 16 = .ok (.ifCond .eq 23, 3) := by decide +kernel
theorem dX8_piece_19 : decode cX8_piece 19 = .ok (.iload_n 3, 1) := by decide +kernel
theorem dX8_piece_20 : decode cX8_piece 20 = .ok (.iconst 0, 1) := by decide +kernel
theorem dX8_piece_21 : decode cX8_piece 21 = .ok (.iconst 3, 1) := by decide +kernel
theorem dX8_piece_22 : decode cX8_piece 22 = .ok (.invokestatic 61, 3) := by decide +kernel
theorem dX8_piece_25 : decode cX8_piece 25 = .ok (.ifCond .eq 14, 3) := by decide +kernel
theorem dX8_piece_28 : decode cX8_piece 28 = .ok (.iload 4, 2) := by decide +kernel
theorem dX8_piece_30 : decode cX8_piece 30 = .ok (.iconst 1, 1) := by decide +kernel
theorem dX8_piece_31 : decode cX8_piece 31 = .ok (.bipush 20, 2) := by decide +kernel
theorem dX8_piece_33 : decode cX8_piece 33 = .ok (.invokestatic 61, 3) := by decide +kernel
theorem dX8_piece_36 : decode cX8_piece 36 = .ok (.ifCond .ne 6, 3) := by decide +kernel
theorem dX8_piece_39 : decode cX8_piece 39 = .ok (.bipush (-2), 2) := by decide +kernel
theorem dX8_piece_41 : decode cX8_piece 41 = .ok (.ireturn, 1) := by decide +kernel
theorem dX8_piece_42 : decode cX8_piece 42 = .ok (.aload_n 0, 1) := by decide +kernel
theorem dX8_piece_43 : decode cX8_piece 43 = .ok (.getfield 10, 3) := by decide +kernel
theorem dX8_piece_46 : decode cX8_piece 46 = .ok (.getfield 65, 3) := by decide +kernel
theorem dX8_piece_49 : decode cX8_piece 49 = .ok (.getfield 69, 3) := by decide +kernel
theorem dX8_piece_52 : decode cX8_piece 52 = .ok (.iload_n 1, 1) := by decide +kernel
theorem dX8_piece_53 : decode cX8_piece 53 = .ok (.invokestatic 75, 3) := by decide +kernel
theorem dX8_piece_56 : decode cX8_piece 56 = .ok (.istore 5, 2) := by decide +kernel
theorem dX8_piece_58 : decode cX8_piece 58 = .ok (.aload_n 0, 1) := by decide +kernel
theorem dX8_piece_59 : decode cX8_piece 59 = .ok (.getfield 10, 3) := by decide +kernel
theorem dX8_piece_62 : decode cX8_piece 62 = .ok (.getfield 65, 3) := by decide +kernel
theorem dX8_piece_65 : decode cX8_piece 65 = .ok (.getfield 79, 3) := by decide +kernel
theorem dX8_piece_68 : decode cX8_piece 68 = .ok (.iload_n 1, 1) := by decide +kernel
theorem dX8_piece_69 : decode cX8_piece 69 = .ok (.iload_n 2, 1) := by decide +kernel
theorem dX8_piece_70 : decode cX8_piece 70 = .ok (.invokestatic 82, 3) := by decide +kernel
theorem dX8_piece_73 : decode cX8_piece 73 = .ok (.aload_n 0, 1) := by decide +kernel
theorem dX8_piece_74 : decode cX8_piece 74 = .ok (.getfield 10, 3) := by decide +kernel
theorem dX8_piece_77 : decode cX8_piece 77 = .ok (.getfield 65, 3) := by decide +kernel
theorem dX8_piece_80 : decode cX8_piece 80 = .ok (.getfield 86, 3) := by decide +kernel
theorem dX8_piece_83 : decode cX8_piece 83 = .ok (.iload_n 1, 1) := by decide +kernel
theorem dX8_piece_84 : decode cX8_piece 84 = .ok (.iload_n 3, 1) := by decide +kernel
theorem dX8_piece_85 : decode cX8_piece 85 = .ok (.invokestatic 82, 3) := by decide +kernel
theorem dX8_piece_88 : decode cX8_piece 88 = .ok (.aload_n 0, 1) := by decide +kernel
theorem dX8_piece_89 : decode cX8_piece 89 = .ok (.getfield 10, 3) := by decide +kernel
theorem dX8_piece_92 : decode cX8_piece 92 = .ok (.getfield 65, 3) := by decide +kernel
theorem dX8_piece_95 : decode cX8_piece 95 = .ok (.getfield 69, 3) := by decide +kernel
theorem dX8_piece_98 : decode cX8_piece 98 = .ok (.iload_n 1, 1) := by decide +kernel
theorem dX8_piece_99 : decode cX8_piece 99 = .ok (.iload 4, 2) := by decide +kernel
theorem dX8_piece_101 : decode cX8_piece 101 = .ok (.invokestatic 82, 3) := by decide +kernel
theorem dX8_piece_104 : decode cX8_piece 104 = .ok (.iload 5, 2) := by decide +kernel
theorem dX8_piece_106 : decode cX8_piece 106 = .ok (.ireturn, 1) := by decide +kernel
def wtX8_piece : List Cond := .code yX8_piece cX8_piece 6 (some .int) :: (([.fieldLink RX8 10 "DriftKin" "now" "LDriftKin$Shore;", .fieldLink RX8 65 "DriftKin$Shore" "pieces" "LDriftKin$Pieces;", .fieldLink RX8 69 "DriftKin$Pieces" "length" "[I", .fieldLink RX8 79 "DriftKin$Pieces" "wreck" "[I", .fieldLink RX8 86 "DriftKin$Pieces" "wood" "[I"]) ++ ((u_ws RX3 TX3 7) ++ ((u_ws RX5 TX5 4) ++ ((u_ws RX8 TX8 9) ++ ((va_wsS RX8 57 yX8_isPiece wtX8_isPiece) ++ ((va_wsS RX8 61 yX8_within wtX8_within) ++ ((va_wsS RX8 75 yX8_at wtX8_at) ++ ((va_wsS RX8 82 yX8_put wtX8_put) ++ []))))))))
theorem imX8_piece_own : ∀ w ∈ ([.fieldLink RX8 10 "DriftKin" "now" "LDriftKin$Shore;", .fieldLink RX8 65 "DriftKin$Shore" "pieces" "LDriftKin$Pieces;", .fieldLink RX8 69 "DriftKin$Pieces" "length" "[I", .fieldLink RX8 79 "DriftKin$Pieces" "wreck" "[I", .fieldLink RX8 86 "DriftKin$Pieces" "wood" "[I"] : List Cond), w ∈ wtX8_piece := fun w h => List.mem_cons_of_mem _ (inl h)
theorem imX8_piece_u_X3 : ∀ w ∈ (u_ws RX3 TX3 7 : List Cond), w ∈ wtX8_piece := fun w h => List.mem_cons_of_mem _ (inr (inl h))
theorem imX8_piece_u_X5 : ∀ w ∈ (u_ws RX5 TX5 4 : List Cond), w ∈ wtX8_piece := fun w h => List.mem_cons_of_mem _ (inr (inr (inl h)))
theorem imX8_piece_u_X8 : ∀ w ∈ (u_ws RX8 TX8 9 : List Cond), w ∈ wtX8_piece := fun w h => List.mem_cons_of_mem _ (inr (inr (inr (inl h))))
theorem imX8_piece_c_X8_isPiece : ∀ w ∈ (va_wsS RX8 57 yX8_isPiece wtX8_isPiece : List Cond), w ∈ wtX8_piece := fun w h => List.mem_cons_of_mem _ (inr (inr (inr (inr (inl h)))))
theorem imX8_piece_c_X8_within : ∀ w ∈ (va_wsS RX8 61 yX8_within wtX8_within : List Cond), w ∈ wtX8_piece := fun w h => List.mem_cons_of_mem _ (inr (inr (inr (inr (inr (inl h))))))
theorem imX8_piece_c_X8_at : ∀ w ∈ (va_wsS RX8 75 yX8_at wtX8_at : List Cond), w ∈ wtX8_piece := fun w h => List.mem_cons_of_mem _ (inr (inr (inr (inr (inr (inr (inl h)))))))
theorem imX8_piece_c_X8_put : ∀ w ∈ (va_wsS RX8 82 yX8_put wtX8_put : List Cond), w ∈ wtX8_piece := fun w h => List.mem_cons_of_mem _ (inr (inr (inr (inr (inr (inr (inr (inl h))))))))
theorem gdX8_piece : ∀ w ∈ wtX8_piece, Gd w := gdc rfl (gda (gdl (by decide +kernel)) (gda (gdu _ _ _) (gda (gdu _ _ _) (gda (gdu _ _ _) (gda (gda (gdl (by decide +kernel)) gdX8_isPiece) (gda (gda (gdl (by decide +kernel)) gdX8_within) (gda (gda (gdl (by decide +kernel)) gdX8_at) (gda (gda (gdl (by decide +kernel)) gdX8_put) gdn))))))))
theorem gcX8_piece_X8_isPiece : GoodIn wtX8_piece (va_wsS RX8 57 yX8_isPiece wtX8_isPiece) := fun w h => ⟨imX8_piece_c_X8_isPiece w h, (gda (gdl (by decide +kernel)) gdX8_isPiece) w h⟩
theorem gcX8_piece_X8_within : GoodIn wtX8_piece (va_wsS RX8 61 yX8_within wtX8_within) := fun w h => ⟨imX8_piece_c_X8_within w h, (gda (gdl (by decide +kernel)) gdX8_within) w h⟩
theorem gcX8_piece_X8_at : GoodIn wtX8_piece (va_wsS RX8 75 yX8_at wtX8_at) := fun w h => ⟨imX8_piece_c_X8_at w h, (gda (gdl (by decide +kernel)) gdX8_at) w h⟩
theorem gcX8_piece_X8_put : GoodIn wtX8_piece (va_wsS RX8 82 yX8_put wtX8_put) := fun w h => ⟨imX8_piece_c_X8_put w h, (gda (gdl (by decide +kernel)) gdX8_put) w h⟩
def fX8_piece (v_wreck : Nat → Int32) (v_wood : Nat → Int32) (v_length : Nat → Int32) (x1 : Int32) (x2 : Int32) (x3 : Int32) (x4 : Int32) : Option (Int32 × (Nat → Int32) × (Nat → Int32) × (Nat → Int32)) :=
  (fX8_isPiece x1).bind (fun r1 =>
    if r1 = (0 : Int32) then
      some ((-1 : Int32), v_wreck, v_wood, v_length)
    else
      (fX8_within x2 (0 : Int32) (9 : Int32)).bind (fun r3 =>
        if r3 = (0 : Int32) then
          some ((-2 : Int32), v_wreck, v_wood, v_length)
        else
          (fX8_within x3 (0 : Int32) (3 : Int32)).bind (fun r5 =>
            if r5 = (0 : Int32) then
              some ((-2 : Int32), v_wreck, v_wood, v_length)
            else
              (fX8_within x4 (1 : Int32) (20 : Int32)).bind (fun r7 =>
                if r7 = (0 : Int32) then
                  some ((-2 : Int32), v_wreck, v_wood, v_length)
                else
                  (fX8_at 10 v_length x1).bind (fun r9 =>
                    (fX8_put 10 v_wreck x1 x2).bind (fun r10 =>
                      (fX8_put 10 v_wood x1 x3).bind (fun r11 =>
                        (fX8_put 10 v_length x1 x4).bind (fun r12 =>
                          some (r9, r10, r11, r12)))))))))
def wdX8_piece (cI cZ : ClassId) (q0 : Nat) (q1 : Nat) (q2 : Nat) (q3 : Nat) (q4 : Nat) (q5 : Nat) (d6 : Nat) (d7 : Nat) (d8 : Nat) (d9 : Nat) (d10 : Nat) (d11 : Nat) (d12 : Nat) (d13 : Nat) (d14 : Nat) (d15 : Nat) (d16 : Nat) (d17 : Nat)  (v_wreck : Nat → Int32) (v_wood : Nat → Int32) (v_length : Nat → Int32) (v_firstKept : Int32) (v_secondKept : Int32) (v_year : Int32) : va_W := [(q0, .inr (8, [.ref q1, .ref d6, .ref d7, .int v_firstKept, .int v_secondKept, .ref d8, .ref d9, .ref d10, .ref d11])), (q1, .inr (5, [.ref q2, .ref d12, .ref d13, .int v_year])), (q2, .inr (3, [.ref q3, .ref q4, .ref q5, .ref d14, .ref d15, .ref d16, .ref d17])), (q3, .inl (cI, 10, .inl v_wreck)), (q4, .inl (cI, 10, .inl v_wood)), (q5, .inl (cI, 10, .inl v_length))]
abbrev rmX8_piece : Jvm.Room := { frames := 2, cells := 0, slots := 0, locals := 42 }
theorem hyX8_piece : yX8_piece.cls ≠ "java/lang/invoke/MethodHandle" ∧ yX8_piece.cls ≠ "java/lang/invoke/VarHandle" ∧ (parseMethodDescriptor yX8_piece.desc).map (fun d => d.parameters.length) = some 4 := by decide +kernel
set_option maxHeartbeats 4000000 in
set_option maxRecDepth 100000 in
theorem mX8_piece (l : Launch) (D : va_G) (cI cZ : ClassId) (q0 : Nat) (q1 : Nat) (q2 : Nat) (q3 : Nat) (q4 : Nat) (q5 : Nat) (d6 : Nat) (d7 : Nat) (d8 : Nat) (d9 : Nat) (d10 : Nat) (d11 : Nat) (d12 : Nat) (d13 : Nat) (d14 : Nat) (d15 : Nat) (d16 : Nat) (d17 : Nat) (v_wreck : Nat → Int32) (v_wood : Nat → Int32) (v_length : Nat → Int32) (v_firstKept : Int32) (v_secondKept : Int32) (v_year : Int32) (x1 : Int32) (x2 : Int32) (x3 : Int32) (x4 : Int32) (z : Int32 × (Nat → Int32) × (Nat → Int32) × (Nat → Int32)) (hF : fX8_piece v_wreck v_wood v_length x1 x2 x3 x4 = some z) : mp l yX8_piece wtX8_piece rmX8_piece D cI cZ [.ref q0, .int x1, .int x2, .int x3, .int x4] (wdX8_piece cI cZ q0 q1 q2 q3 q4 q5 d6 d7 d8 d9 d10 d11 d12 d13 d14 d15 d16 d17 v_wreck v_wood v_length v_firstKept v_secondKept v_year) (some (.int z.1)) (wdX8_piece cI cZ q0 q1 q2 q3 q4 q5 d6 d7 d8 d9 d10 d11 d12 d13 d14 d15 d16 d17 z.2.1 z.2.2.1 z.2.2.2 v_firstKept v_secondKept v_year) := by
  refine mp_i (lv0 := [(0, .ref q0), (1, .int x1), (2, .int x2), (3, .int x3), (4, .int x4)]) cX8_piece 6 z.1 (by decide) rfl (Nat.le_of_ble_eq_true rfl) rfl (fun E h hend0 => ?_)
  have hend : ∀ (z' : Int32 × (Nat → Int32) × (Nat → Int32) × (Nat → Int32)), some z' = some z → ∀ (pc : Nat) (lv : List (Nat × Value)), decode cX8_piece pc = .ok (.ireturn, 1) → G l D E 6 0 0 (wdX8_piece cI cZ q0 q1 q2 q3 q4 q5 d6 d7 d8 d9 d10 d11 d12 d13 d14 d15 d16 d17 (z'.2.1) (z'.2.2.1) (z'.2.2.2) v_firstKept v_secondKept v_year) pc lv [.int z'.1] := fun z' e => by cases e; exact hend0
  clear hend0
  unfold fX8_piece at hF
  refine g_iload_n (np := 1) h 1 rfl rfl dX8_piece_0 rfl ?_
  obtain ⟨r1, hr1, hF⟩ := Option.bind_eq_some_iff.mp hF
  refine g_callS (np := 4) (Wd' := (wdX8_piece cI cZ q0 q1 q2 q3 q4 q5 d6 d7 d8 d9 d10 d11 d12 d13 d14 d15 d16 d17 v_wreck v_wood v_length v_firstKept v_secondKept v_year)) (As := [.int x1]) h (mX8_isPiece l D cI cZ x1 r1 hr1) gcX8_piece_X8_isPiece rfl ⟨rfl, rfl⟩ hyX8_isPiece rfl rfl rfl rfl ⟨Nat.zero_le _, Nat.zero_le _⟩ [] [0, 1, 2, 3, 4, 5] (N := 6) (by decide +kernel) rfl rfl rfl rfl rfl dX8_piece_1 rfl ?_
  refine g_if_ne h hF dX8_piece_4 (np := 7) rfl (tg := 9) rfl (fun c2 hF => ?_) (fun c2 hF => ?_)
  · refine g_iload_n (np := 10) h 2 rfl rfl dX8_piece_9 rfl ?_
    refine g_iconst (np := 11) (v := (0 : Int32)) h (by decide) dX8_piece_10 rfl ?_
    refine g_bipush (np := 13) (v := (9 : Int32)) h (by decide) dX8_piece_11 rfl ?_
    obtain ⟨r3, hr3, hF⟩ := Option.bind_eq_some_iff.mp hF
    refine g_callS (np := 16) (Wd' := (wdX8_piece cI cZ q0 q1 q2 q3 q4 q5 d6 d7 d8 d9 d10 d11 d12 d13 d14 d15 d16 d17 v_wreck v_wood v_length v_firstKept v_secondKept v_year)) (As := [.int x2, .int (0 : Int32), .int (9 : Int32)]) h (mX8_within l D cI cZ x2 (0 : Int32) (9 : Int32) r3 hr3) gcX8_piece_X8_within rfl ⟨rfl, rfl⟩ hyX8_within rfl rfl rfl rfl ⟨Nat.zero_le _, Nat.zero_le _⟩ [] [0, 1, 2, 3, 4, 5] (N := 6) (by decide +kernel) rfl rfl rfl rfl rfl dX8_piece_13 rfl ?_
    refine g_if_eq h hF dX8_piece_16 (np := 19) rfl (tg := 39) rfl (fun c4 hF => ?_) (fun c4 hF => ?_)
    · refine g_bipush (np := 41) (v := (-2 : Int32)) h (by decide) dX8_piece_39 rfl ?_
      exact hend _ hF _ _ dX8_piece_41
    · refine g_iload_n (np := 20) h 3 rfl rfl dX8_piece_19 rfl ?_
      refine g_iconst (np := 21) (v := (0 : Int32)) h (by decide) dX8_piece_20 rfl ?_
      refine g_iconst (np := 22) (v := (3 : Int32)) h (by decide) dX8_piece_21 rfl ?_
      obtain ⟨r5, hr5, hF⟩ := Option.bind_eq_some_iff.mp hF
      refine g_callS (np := 25) (Wd' := (wdX8_piece cI cZ q0 q1 q2 q3 q4 q5 d6 d7 d8 d9 d10 d11 d12 d13 d14 d15 d16 d17 v_wreck v_wood v_length v_firstKept v_secondKept v_year)) (As := [.int x3, .int (0 : Int32), .int (3 : Int32)]) h (mX8_within l D cI cZ x3 (0 : Int32) (3 : Int32) r5 hr5) gcX8_piece_X8_within rfl ⟨rfl, rfl⟩ hyX8_within rfl rfl rfl rfl ⟨Nat.zero_le _, Nat.zero_le _⟩ [] [0, 1, 2, 3, 4, 5] (N := 6) (by decide +kernel) rfl rfl rfl rfl rfl dX8_piece_22 rfl ?_
      refine g_if_eq h hF dX8_piece_25 (np := 28) rfl (tg := 39) rfl (fun c6 hF => ?_) (fun c6 hF => ?_)
      · refine g_bipush (np := 41) (v := (-2 : Int32)) h (by decide) dX8_piece_39 rfl ?_
        exact hend _ hF _ _ dX8_piece_41
      · refine g_iload (np := 30) h 4 rfl dX8_piece_28 rfl ?_
        refine g_iconst (np := 31) (v := (1 : Int32)) h (by decide) dX8_piece_30 rfl ?_
        refine g_bipush (np := 33) (v := (20 : Int32)) h (by decide) dX8_piece_31 rfl ?_
        obtain ⟨r7, hr7, hF⟩ := Option.bind_eq_some_iff.mp hF
        refine g_callS (np := 36) (Wd' := (wdX8_piece cI cZ q0 q1 q2 q3 q4 q5 d6 d7 d8 d9 d10 d11 d12 d13 d14 d15 d16 d17 v_wreck v_wood v_length v_firstKept v_secondKept v_year)) (As := [.int x4, .int (1 : Int32), .int (20 : Int32)]) h (mX8_within l D cI cZ x4 (1 : Int32) (20 : Int32) r7 hr7) gcX8_piece_X8_within rfl ⟨rfl, rfl⟩ hyX8_within rfl rfl rfl rfl ⟨Nat.zero_le _, Nat.zero_le _⟩ [] [0, 1, 2, 3, 4, 5] (N := 6) (by decide +kernel) rfl rfl rfl rfl rfl dX8_piece_33 rfl ?_
        refine g_if_ne h hF dX8_piece_36 (np := 39) rfl (tg := 42) rfl (fun c8 hF => ?_) (fun c8 hF => ?_)
        · refine g_aload_n (np := 43) h 0 rfl rfl dX8_piece_42 rfl ?_
          refine g_get (np := 46) (T := TX8) h imX8_piece_u_X8 0 8 rfl rfl 0 (by decide) (imX8_piece_own _ (List.mem_of_getElem? (i := 0) rfl)) rfl dX8_piece_43 rfl ?_
          refine g_get (np := 49) (T := TX5) h imX8_piece_u_X5 1 5 rfl rfl 0 (by decide) (imX8_piece_own _ (List.mem_of_getElem? (i := 1) rfl)) rfl dX8_piece_46 rfl ?_
          refine g_get (np := 52) (T := TX3) h imX8_piece_u_X3 2 3 rfl rfl 2 (by decide) (imX8_piece_own _ (List.mem_of_getElem? (i := 2) rfl)) rfl dX8_piece_49 rfl ?_
          refine g_iload_n (np := 53) h 1 rfl rfl dX8_piece_52 rfl ?_
          obtain ⟨r9, hr9, hF⟩ := Option.bind_eq_some_iff.mp hF
          refine g_callS (np := 56) (Wd' := (wdX8_piece cI cZ q0 q1 q2 q3 q4 q5 d6 d7 d8 d9 d10 d11 d12 d13 d14 d15 d16 d17 v_wreck v_wood v_length v_firstKept v_secondKept v_year)) (As := [.ref q5, .int x1]) h (mX8_at l D cI cZ q5 10 v_length x1 r9 hr9) gcX8_piece_X8_at rfl ⟨rfl, rfl⟩ hyX8_at rfl rfl rfl rfl ⟨Nat.zero_le _, Nat.zero_le _⟩ [5] [0, 1, 2, 3, 4] (N := 6) (by decide +kernel) rfl rfl rfl rfl rfl dX8_piece_53 rfl ?_
          refine g_istore (np := 58) (lv' := [(5, .int r9), (0, .ref q0), (1, .int x1), (2, .int x2), (3, .int x3), (4, .int x4)]) h (by decide) rfl dX8_piece_56 rfl ?_
          refine g_aload_n (np := 59) h 1 rfl rfl dX8_piece_58 rfl ?_
          refine g_get (np := 62) (T := TX8) h imX8_piece_u_X8 0 8 rfl rfl 0 (by decide) (imX8_piece_own _ (List.mem_of_getElem? (i := 0) rfl)) rfl dX8_piece_59 rfl ?_
          refine g_get (np := 65) (T := TX5) h imX8_piece_u_X5 1 5 rfl rfl 0 (by decide) (imX8_piece_own _ (List.mem_of_getElem? (i := 1) rfl)) rfl dX8_piece_62 rfl ?_
          refine g_get (np := 68) (T := TX3) h imX8_piece_u_X3 2 3 rfl rfl 0 (by decide) (imX8_piece_own _ (List.mem_of_getElem? (i := 3) rfl)) rfl dX8_piece_65 rfl ?_
          refine g_iload_n (np := 69) h 2 rfl rfl dX8_piece_68 rfl ?_
          refine g_iload_n (np := 70) h 3 rfl rfl dX8_piece_69 rfl ?_
          obtain ⟨r10, hr10, hF⟩ := Option.bind_eq_some_iff.mp hF
          refine g_callS (np := 73) (Wd' := (wdX8_piece cI cZ q0 q1 q2 q3 q4 q5 d6 d7 d8 d9 d10 d11 d12 d13 d14 d15 d16 d17 r10 v_wood v_length v_firstKept v_secondKept v_year)) (As := [.ref q3, .int x1, .int x2]) h (mX8_put l D cI cZ q3 10 v_wreck x1 x2 r10 hr10) gcX8_piece_X8_put rfl ⟨rfl, rfl⟩ hyX8_put rfl rfl rfl rfl ⟨Nat.zero_le _, Nat.zero_le _⟩ [3] [0, 1, 2, 4, 5] (N := 6) (by decide +kernel) rfl rfl rfl rfl rfl dX8_piece_70 rfl ?_
          refine g_aload_n (np := 74) h 1 rfl rfl dX8_piece_73 rfl ?_
          refine g_get (np := 77) (T := TX8) h imX8_piece_u_X8 0 8 rfl rfl 0 (by decide) (imX8_piece_own _ (List.mem_of_getElem? (i := 0) rfl)) rfl dX8_piece_74 rfl ?_
          refine g_get (np := 80) (T := TX5) h imX8_piece_u_X5 1 5 rfl rfl 0 (by decide) (imX8_piece_own _ (List.mem_of_getElem? (i := 1) rfl)) rfl dX8_piece_77 rfl ?_
          refine g_get (np := 83) (T := TX3) h imX8_piece_u_X3 2 3 rfl rfl 1 (by decide) (imX8_piece_own _ (List.mem_of_getElem? (i := 4) rfl)) rfl dX8_piece_80 rfl ?_
          refine g_iload_n (np := 84) h 2 rfl rfl dX8_piece_83 rfl ?_
          refine g_iload_n (np := 85) h 4 rfl rfl dX8_piece_84 rfl ?_
          obtain ⟨r11, hr11, hF⟩ := Option.bind_eq_some_iff.mp hF
          refine g_callS (np := 88) (Wd' := (wdX8_piece cI cZ q0 q1 q2 q3 q4 q5 d6 d7 d8 d9 d10 d11 d12 d13 d14 d15 d16 d17 r10 r11 v_length v_firstKept v_secondKept v_year)) (As := [.ref q4, .int x1, .int x3]) h (mX8_put l D cI cZ q4 10 v_wood x1 x3 r11 hr11) gcX8_piece_X8_put rfl ⟨rfl, rfl⟩ hyX8_put rfl rfl rfl rfl ⟨Nat.zero_le _, Nat.zero_le _⟩ [4] [0, 1, 2, 3, 5] (N := 6) (by decide +kernel) rfl rfl rfl rfl rfl dX8_piece_85 rfl ?_
          refine g_aload_n (np := 89) h 1 rfl rfl dX8_piece_88 rfl ?_
          refine g_get (np := 92) (T := TX8) h imX8_piece_u_X8 0 8 rfl rfl 0 (by decide) (imX8_piece_own _ (List.mem_of_getElem? (i := 0) rfl)) rfl dX8_piece_89 rfl ?_
          refine g_get (np := 95) (T := TX5) h imX8_piece_u_X5 1 5 rfl rfl 0 (by decide) (imX8_piece_own _ (List.mem_of_getElem? (i := 1) rfl)) rfl dX8_piece_92 rfl ?_
          refine g_get (np := 98) (T := TX3) h imX8_piece_u_X3 2 3 rfl rfl 2 (by decide) (imX8_piece_own _ (List.mem_of_getElem? (i := 2) rfl)) rfl dX8_piece_95 rfl ?_
          refine g_iload_n (np := 99) h 2 rfl rfl dX8_piece_98 rfl ?_
          refine g_iload (np := 101) h 5 rfl dX8_piece_99 rfl ?_
          obtain ⟨r12, hr12, hF⟩ := Option.bind_eq_some_iff.mp hF
          refine g_callS (np := 104) (Wd' := (wdX8_piece cI cZ q0 q1 q2 q3 q4 q5 d6 d7 d8 d9 d10 d11 d12 d13 d14 d15 d16 d17 r10 r11 r12 v_firstKept v_secondKept v_year)) (As := [.ref q5, .int x1, .int x4]) h (mX8_put l D cI cZ q5 10 v_length x1 x4 r12 hr12) gcX8_piece_X8_put rfl ⟨rfl, rfl⟩ hyX8_put rfl rfl rfl rfl ⟨Nat.zero_le _, Nat.zero_le _⟩ [5] [0, 1, 2, 3, 4] (N := 6) (by decide +kernel) rfl rfl rfl rfl rfl dX8_piece_101 rfl ?_
          refine g_iload (np := 106) h 0 rfl dX8_piece_104 rfl ?_
          exact hend _ hF _ _ dX8_piece_106
        · refine g_bipush (np := 41) (v := (-2 : Int32)) h (by decide) dX8_piece_39 rfl ?_
          exact hend _ hF _ _ dX8_piece_41
  · refine g_iconst (np := 8) (v := (-1 : Int32)) h (by decide) dX8_piece_7 rfl ?_
    exact hend _ hF _ _ dX8_piece_8
theorem dX8_ends_0 : decode cX8_ends 0 = .ok (.iload_n 1, 1) := by decide +kernel
theorem dX8_ends_1 : decode cX8_ends 1 = .ok (.invokestatic 57, 3) := by decide +kernel
theorem dX8_ends_4 : decode cX8_ends 4 = .ok (.ifCond .ne 5, 3) := by decide +kernel
theorem dX8_ends_7 : decode cX8_ends 7 = .ok (.iconst (-1), 1) := by decide +kernel
theorem dX8_ends_8 : decode cX8_ends 8 = .ok (.ireturn, 1) := by decide +kernel
theorem dX8_ends_9 : decode cX8_ends 9 = .ok (.iload_n 2, 1) := by decide +kernel
theorem dX8_ends_10 : decode cX8_ends 10 = .ok (.iconst 0, 1) := by decide +kernel
theorem dX8_ends_11 : decode cX8_ends 11 = .ok (.bipush 9, 2) := by decide +kernel
theorem dX8_ends_13 : decode cX8_ends 13 = .ok (.invokestatic 61, 3) := by decide +kernel
theorem dX8_ends_16 : decode cX8_ends 16 = .ok (.ifCond .eq 13, 3) := by decide +kernel
theorem dX8_ends_19 : decode cX8_ends 19 = .ok (.iload_n 3, 1) := by decide +kernel
theorem dX8_ends_20 : decode cX8_ends 20 = .ok (.iconst 0, 1) := by decide +kernel
theorem dX8_ends_21 : decode cX8_ends 21 = .ok (.bipush 9, 2) := by decide +kernel
theorem dX8_ends_23 : decode cX8_ends 23 = .ok (.invokestatic 61, 3) := by decide +kernel
theorem dX8_ends_26 : decode cX8_ends 26 = .ok (.ifCond .ne 6, 3) := by decide +kernel
theorem dX8_ends_29 : decode cX8_ends 29 = .ok (.bipush (-2), 2) := by decide +kernel
theorem dX8_ends_31 : decode cX8_ends 31 = .ok (.ireturn, 1) := by decide +kernel
theorem dX8_ends_32 : decode cX8_ends 32 = .ok (.bipush 10, 2) := by decide +kernel
theorem dX8_ends_34 : decode cX8_ends 34 = .ok (.aload_n 0, 1) := by decide +kernel
theorem dX8_ends_35 : decode cX8_ends 35 = .ok (.getfield 10, 3) := by decide +kernel
theorem dX8_ends_38 : decode cX8_ends 38 = .ok (.getfield 65, 3) := by decide +kernel
theorem dX8_ends_41 : decode cX8_ends 41 = .ok (.getfield 89, 3) := by decide +kernel
theorem dX8_ends_44 : decode cX8_ends 44 = .ok (.iload_n 1, 1) := by decide +kernel
theorem dX8_ends_45 : decode cX8_ends 45 = .ok (.invokestatic 75, 3) := by decide +kernel
theorem dX8_ends_48 : decode cX8_ends 48 = .ok (.imul, 1) := by decide +kernel
theorem dX8_ends_49 : decode cX8_ends 49 = .ok (.aload_n 0, 1) := by decide +kernel
theorem dX8_ends_50 : decode cX8_ends 50 = .ok (.getfield 10, 3) := by decide +kernel
theorem dX8_ends_53 : decode cX8_ends 53 = .ok (.getfield 65, 3) := by decide +kernel
theorem dX8_ends_56 : decode cX8_ends 56 = .ok (.getfield 92, 3) := by decide +kernel
theorem dX8_ends_59 : decode cX8_ends 59 = .ok (.iload_n 1, 1) := by decide +kernel
theorem dX8_ends_60 : decode cX8_ends 60 = .ok (.invokestatic 75, 3) := by decide +kernel
theorem dX8_ends_63 : decode cX8_ends 63 = .ok (.iadd, 1) := by decide +kernel
theorem dX8_ends_64 : decode cX8_ends 64 = .ok (.istore 4, 2) := by decide +kernel
theorem dX8_ends_66 : decode cX8_ends 66 = .ok (.aload_n 0, 1) := by decide +kernel
theorem dX8_ends_67 : decode cX8_ends 67 = .ok (.getfield 10, 3) := by decide +kernel
theorem dX8_ends_70 : decode cX8_ends 70 = .ok (.getfield 65, 3) := by decide +kernel
theorem dX8_ends_73 : decode cX8_ends 73 = .ok (.getfield 89, 3) := by decide +kernel
theorem dX8_ends_76 : decode cX8_ends 76 = .ok (.iload_n 1, 1) := by decide +kernel
theorem dX8_ends_77 : decode cX8_ends 77 = .ok (.iload_n 2, 1) := by decide +kernel
theorem dX8_ends_78 : decode cX8_ends 78 = .ok (.invokestatic 82, 3) := by decide +kernel
theorem dX8_ends_81 : decode cX8_ends 81 = .ok (.aload_n 0, 1) := by decide +kernel
theorem dX8_ends_82 : decode cX8_ends 82 = .ok (.getfield 10, 3) := by decide +kernel
theorem dX8_ends_85 : decode cX8_ends 85 = .ok (.getfield 65, 3) := by decide +kernel
theorem dX8_ends_88 : decode cX8_ends 88 = .ok (.getfield 92, 3) := by decide +kernel
theorem dX8_ends_91 : decode cX8_ends 91 = .ok (.iload_n 1, 1) := by decide +kernel
theorem dX8_ends_92 : decode cX8_ends 92 = .ok (.iload_n 3, 1) := by decide +kernel
theorem dX8_ends_93 : decode cX8_ends 93 = .ok (.invokestatic 82, 3) := by decide +kernel
theorem dX8_ends_96 : decode cX8_ends 96 = .ok (.iload 4, 2) := by decide +kernel
theorem dX8_ends_98 : decode cX8_ends 98 = .ok (.ireturn, 1) := by decide +kernel
def wtX8_ends : List Cond := .code yX8_ends cX8_ends 5 (some .int) :: (([.fieldLink RX8 10 "DriftKin" "now" "LDriftKin$Shore;", .fieldLink RX8 65 "DriftKin$Shore" "pieces" "LDriftKin$Pieces;", .fieldLink RX8 89 "DriftKin$Pieces" "left" "[I", .fieldLink RX8 92 "DriftKin$Pieces" "right" "[I"]) ++ ((u_ws RX3 TX3 7) ++ ((u_ws RX5 TX5 4) ++ ((u_ws RX8 TX8 9) ++ ((va_wsS RX8 57 yX8_isPiece wtX8_isPiece) ++ ((va_wsS RX8 61 yX8_within wtX8_within) ++ ((va_wsS RX8 75 yX8_at wtX8_at) ++ ((va_wsS RX8 82 yX8_put wtX8_put) ++ []))))))))
theorem imX8_ends_own : ∀ w ∈ ([.fieldLink RX8 10 "DriftKin" "now" "LDriftKin$Shore;", .fieldLink RX8 65 "DriftKin$Shore" "pieces" "LDriftKin$Pieces;", .fieldLink RX8 89 "DriftKin$Pieces" "left" "[I", .fieldLink RX8 92 "DriftKin$Pieces" "right" "[I"] : List Cond), w ∈ wtX8_ends := fun w h => List.mem_cons_of_mem _ (inl h)
theorem imX8_ends_u_X3 : ∀ w ∈ (u_ws RX3 TX3 7 : List Cond), w ∈ wtX8_ends := fun w h => List.mem_cons_of_mem _ (inr (inl h))
theorem imX8_ends_u_X5 : ∀ w ∈ (u_ws RX5 TX5 4 : List Cond), w ∈ wtX8_ends := fun w h => List.mem_cons_of_mem _ (inr (inr (inl h)))
theorem imX8_ends_u_X8 : ∀ w ∈ (u_ws RX8 TX8 9 : List Cond), w ∈ wtX8_ends := fun w h => List.mem_cons_of_mem _ (inr (inr (inr (inl h))))
theorem imX8_ends_c_X8_isPiece : ∀ w ∈ (va_wsS RX8 57 yX8_isPiece wtX8_isPiece : List Cond), w ∈ wtX8_ends := fun w h => List.mem_cons_of_mem _ (inr (inr (inr (inr (inl h)))))
theorem imX8_ends_c_X8_within : ∀ w ∈ (va_wsS RX8 61 yX8_within wtX8_within : List Cond), w ∈ wtX8_ends := fun w h => List.mem_cons_of_mem _ (inr (inr (inr (inr (inr (inl h))))))
theorem imX8_ends_c_X8_at : ∀ w ∈ (va_wsS RX8 75 yX8_at wtX8_at : List Cond), w ∈ wtX8_ends := fun w h => List.mem_cons_of_mem _ (inr (inr (inr (inr (inr (inr (inl h)))))))
theorem imX8_ends_c_X8_put : ∀ w ∈ (va_wsS RX8 82 yX8_put wtX8_put : List Cond), w ∈ wtX8_ends := fun w h => List.mem_cons_of_mem _ (inr (inr (inr (inr (inr (inr (inr (inl h))))))))
theorem gdX8_ends : ∀ w ∈ wtX8_ends, Gd w := gdc rfl (gda (gdl (by decide +kernel)) (gda (gdu _ _ _) (gda (gdu _ _ _) (gda (gdu _ _ _) (gda (gda (gdl (by decide +kernel)) gdX8_isPiece) (gda (gda (gdl (by decide +kernel)) gdX8_within) (gda (gda (gdl (by decide +kernel)) gdX8_at) (gda (gda (gdl (by decide +kernel)) gdX8_put) gdn))))))))
theorem gcX8_ends_X8_isPiece : GoodIn wtX8_ends (va_wsS RX8 57 yX8_isPiece wtX8_isPiece) := fun w h => ⟨imX8_ends_c_X8_isPiece w h, (gda (gdl (by decide +kernel)) gdX8_isPiece) w h⟩
theorem gcX8_ends_X8_within : GoodIn wtX8_ends (va_wsS RX8 61 yX8_within wtX8_within) := fun w h => ⟨imX8_ends_c_X8_within w h, (gda (gdl (by decide +kernel)) gdX8_within) w h⟩
theorem gcX8_ends_X8_at : GoodIn wtX8_ends (va_wsS RX8 75 yX8_at wtX8_at) := fun w h => ⟨imX8_ends_c_X8_at w h, (gda (gdl (by decide +kernel)) gdX8_at) w h⟩
theorem gcX8_ends_X8_put : GoodIn wtX8_ends (va_wsS RX8 82 yX8_put wtX8_put) := fun w h => ⟨imX8_ends_c_X8_put w h, (gda (gdl (by decide +kernel)) gdX8_put) w h⟩
def fX8_ends (v_left : Nat → Int32) (v_right : Nat → Int32) (x1 : Int32) (x2 : Int32) (x3 : Int32) : Option (Int32 × (Nat → Int32) × (Nat → Int32)) :=
  (fX8_isPiece x1).bind (fun r1 =>
    if r1 = (0 : Int32) then
      some ((-1 : Int32), v_left, v_right)
    else
      (fX8_within x2 (0 : Int32) (9 : Int32)).bind (fun r3 =>
        if r3 = (0 : Int32) then
          some ((-2 : Int32), v_left, v_right)
        else
          (fX8_within x3 (0 : Int32) (9 : Int32)).bind (fun r5 =>
            if r5 = (0 : Int32) then
              some ((-2 : Int32), v_left, v_right)
            else
              (fX8_at 10 v_left x1).bind (fun r7 =>
                (fX8_at 10 v_right x1).bind (fun r8 =>
                  (fX8_put 10 v_left x1 x2).bind (fun r9 =>
                    (fX8_put 10 v_right x1 x3).bind (fun r10 =>
                      some ((((10 : Int32) * r7) + r8), r9, r10))))))))
def wdX8_ends (cI cZ : ClassId) (q0 : Nat) (q1 : Nat) (q2 : Nat) (q3 : Nat) (q4 : Nat) (d5 : Nat) (d6 : Nat) (d7 : Nat) (d8 : Nat) (d9 : Nat) (d10 : Nat) (d11 : Nat) (d12 : Nat) (d13 : Nat) (d14 : Nat) (d15 : Nat) (d16 : Nat) (d17 : Nat)  (v_left : Nat → Int32) (v_right : Nat → Int32) (v_firstKept : Int32) (v_secondKept : Int32) (v_year : Int32) : va_W := [(q0, .inr (8, [.ref q1, .ref d5, .ref d6, .int v_firstKept, .int v_secondKept, .ref d7, .ref d8, .ref d9, .ref d10])), (q1, .inr (5, [.ref q2, .ref d11, .ref d12, .int v_year])), (q2, .inr (3, [.ref d13, .ref d14, .ref d15, .ref q3, .ref q4, .ref d16, .ref d17])), (q3, .inl (cI, 10, .inl v_left)), (q4, .inl (cI, 10, .inl v_right))]
abbrev rmX8_ends : Jvm.Room := { frames := 2, cells := 0, slots := 0, locals := 42 }
theorem hyX8_ends : yX8_ends.cls ≠ "java/lang/invoke/MethodHandle" ∧ yX8_ends.cls ≠ "java/lang/invoke/VarHandle" ∧ (parseMethodDescriptor yX8_ends.desc).map (fun d => d.parameters.length) = some 3 := by decide +kernel
set_option maxHeartbeats 4000000 in
set_option maxRecDepth 100000 in
theorem mX8_ends (l : Launch) (D : va_G) (cI cZ : ClassId) (q0 : Nat) (q1 : Nat) (q2 : Nat) (q3 : Nat) (q4 : Nat) (d5 : Nat) (d6 : Nat) (d7 : Nat) (d8 : Nat) (d9 : Nat) (d10 : Nat) (d11 : Nat) (d12 : Nat) (d13 : Nat) (d14 : Nat) (d15 : Nat) (d16 : Nat) (d17 : Nat) (v_left : Nat → Int32) (v_right : Nat → Int32) (v_firstKept : Int32) (v_secondKept : Int32) (v_year : Int32) (x1 : Int32) (x2 : Int32) (x3 : Int32) (z : Int32 × (Nat → Int32) × (Nat → Int32)) (hF : fX8_ends v_left v_right x1 x2 x3 = some z) : mp l yX8_ends wtX8_ends rmX8_ends D cI cZ [.ref q0, .int x1, .int x2, .int x3] (wdX8_ends cI cZ q0 q1 q2 q3 q4 d5 d6 d7 d8 d9 d10 d11 d12 d13 d14 d15 d16 d17 v_left v_right v_firstKept v_secondKept v_year) (some (.int z.1)) (wdX8_ends cI cZ q0 q1 q2 q3 q4 d5 d6 d7 d8 d9 d10 d11 d12 d13 d14 d15 d16 d17 z.2.1 z.2.2 v_firstKept v_secondKept v_year) := by
  refine mp_i (lv0 := [(0, .ref q0), (1, .int x1), (2, .int x2), (3, .int x3)]) cX8_ends 5 z.1 (by decide) rfl (Nat.le_of_ble_eq_true rfl) rfl (fun E h hend0 => ?_)
  have hend : ∀ (z' : Int32 × (Nat → Int32) × (Nat → Int32)), some z' = some z → ∀ (pc : Nat) (lv : List (Nat × Value)), decode cX8_ends pc = .ok (.ireturn, 1) → G l D E 5 0 0 (wdX8_ends cI cZ q0 q1 q2 q3 q4 d5 d6 d7 d8 d9 d10 d11 d12 d13 d14 d15 d16 d17 (z'.2.1) (z'.2.2) v_firstKept v_secondKept v_year) pc lv [.int z'.1] := fun z' e => by cases e; exact hend0
  clear hend0
  unfold fX8_ends at hF
  refine g_iload_n (np := 1) h 1 rfl rfl dX8_ends_0 rfl ?_
  obtain ⟨r1, hr1, hF⟩ := Option.bind_eq_some_iff.mp hF
  refine g_callS (np := 4) (Wd' := (wdX8_ends cI cZ q0 q1 q2 q3 q4 d5 d6 d7 d8 d9 d10 d11 d12 d13 d14 d15 d16 d17 v_left v_right v_firstKept v_secondKept v_year)) (As := [.int x1]) h (mX8_isPiece l D cI cZ x1 r1 hr1) gcX8_ends_X8_isPiece rfl ⟨rfl, rfl⟩ hyX8_isPiece rfl rfl rfl rfl ⟨Nat.zero_le _, Nat.zero_le _⟩ [] [0, 1, 2, 3, 4] (N := 5) (by decide +kernel) rfl rfl rfl rfl rfl dX8_ends_1 rfl ?_
  refine g_if_ne h hF dX8_ends_4 (np := 7) rfl (tg := 9) rfl (fun c2 hF => ?_) (fun c2 hF => ?_)
  · refine g_iload_n (np := 10) h 2 rfl rfl dX8_ends_9 rfl ?_
    refine g_iconst (np := 11) (v := (0 : Int32)) h (by decide) dX8_ends_10 rfl ?_
    refine g_bipush (np := 13) (v := (9 : Int32)) h (by decide) dX8_ends_11 rfl ?_
    obtain ⟨r3, hr3, hF⟩ := Option.bind_eq_some_iff.mp hF
    refine g_callS (np := 16) (Wd' := (wdX8_ends cI cZ q0 q1 q2 q3 q4 d5 d6 d7 d8 d9 d10 d11 d12 d13 d14 d15 d16 d17 v_left v_right v_firstKept v_secondKept v_year)) (As := [.int x2, .int (0 : Int32), .int (9 : Int32)]) h (mX8_within l D cI cZ x2 (0 : Int32) (9 : Int32) r3 hr3) gcX8_ends_X8_within rfl ⟨rfl, rfl⟩ hyX8_within rfl rfl rfl rfl ⟨Nat.zero_le _, Nat.zero_le _⟩ [] [0, 1, 2, 3, 4] (N := 5) (by decide +kernel) rfl rfl rfl rfl rfl dX8_ends_13 rfl ?_
    refine g_if_eq h hF dX8_ends_16 (np := 19) rfl (tg := 29) rfl (fun c4 hF => ?_) (fun c4 hF => ?_)
    · refine g_bipush (np := 31) (v := (-2 : Int32)) h (by decide) dX8_ends_29 rfl ?_
      exact hend _ hF _ _ dX8_ends_31
    · refine g_iload_n (np := 20) h 3 rfl rfl dX8_ends_19 rfl ?_
      refine g_iconst (np := 21) (v := (0 : Int32)) h (by decide) dX8_ends_20 rfl ?_
      refine g_bipush (np := 23) (v := (9 : Int32)) h (by decide) dX8_ends_21 rfl ?_
      obtain ⟨r5, hr5, hF⟩ := Option.bind_eq_some_iff.mp hF
      refine g_callS (np := 26) (Wd' := (wdX8_ends cI cZ q0 q1 q2 q3 q4 d5 d6 d7 d8 d9 d10 d11 d12 d13 d14 d15 d16 d17 v_left v_right v_firstKept v_secondKept v_year)) (As := [.int x3, .int (0 : Int32), .int (9 : Int32)]) h (mX8_within l D cI cZ x3 (0 : Int32) (9 : Int32) r5 hr5) gcX8_ends_X8_within rfl ⟨rfl, rfl⟩ hyX8_within rfl rfl rfl rfl ⟨Nat.zero_le _, Nat.zero_le _⟩ [] [0, 1, 2, 3, 4] (N := 5) (by decide +kernel) rfl rfl rfl rfl rfl dX8_ends_23 rfl ?_
      refine g_if_ne h hF dX8_ends_26 (np := 29) rfl (tg := 32) rfl (fun c6 hF => ?_) (fun c6 hF => ?_)
      · refine g_bipush (np := 34) (v := (10 : Int32)) h (by decide) dX8_ends_32 rfl ?_
        refine g_aload_n (np := 35) h 0 rfl rfl dX8_ends_34 rfl ?_
        refine g_get (np := 38) (T := TX8) h imX8_ends_u_X8 0 8 rfl rfl 0 (by decide) (imX8_ends_own _ (List.mem_of_getElem? (i := 0) rfl)) rfl dX8_ends_35 rfl ?_
        refine g_get (np := 41) (T := TX5) h imX8_ends_u_X5 1 5 rfl rfl 0 (by decide) (imX8_ends_own _ (List.mem_of_getElem? (i := 1) rfl)) rfl dX8_ends_38 rfl ?_
        refine g_get (np := 44) (T := TX3) h imX8_ends_u_X3 2 3 rfl rfl 3 (by decide) (imX8_ends_own _ (List.mem_of_getElem? (i := 2) rfl)) rfl dX8_ends_41 rfl ?_
        refine g_iload_n (np := 45) h 1 rfl rfl dX8_ends_44 rfl ?_
        obtain ⟨r7, hr7, hF⟩ := Option.bind_eq_some_iff.mp hF
        refine g_callS (np := 48) (Wd' := (wdX8_ends cI cZ q0 q1 q2 q3 q4 d5 d6 d7 d8 d9 d10 d11 d12 d13 d14 d15 d16 d17 v_left v_right v_firstKept v_secondKept v_year)) (As := [.ref q3, .int x1]) h (mX8_at l D cI cZ q3 10 v_left x1 r7 hr7) gcX8_ends_X8_at rfl ⟨rfl, rfl⟩ hyX8_at rfl rfl rfl rfl ⟨Nat.zero_le _, Nat.zero_le _⟩ [3] [0, 1, 2, 4] (N := 5) (by decide +kernel) rfl rfl rfl rfl rfl dX8_ends_45 rfl ?_
        refine g_imul (np := 49) h dX8_ends_48 rfl ?_
        refine g_aload_n (np := 50) h 0 rfl rfl dX8_ends_49 rfl ?_
        refine g_get (np := 53) (T := TX8) h imX8_ends_u_X8 0 8 rfl rfl 0 (by decide) (imX8_ends_own _ (List.mem_of_getElem? (i := 0) rfl)) rfl dX8_ends_50 rfl ?_
        refine g_get (np := 56) (T := TX5) h imX8_ends_u_X5 1 5 rfl rfl 0 (by decide) (imX8_ends_own _ (List.mem_of_getElem? (i := 1) rfl)) rfl dX8_ends_53 rfl ?_
        refine g_get (np := 59) (T := TX3) h imX8_ends_u_X3 2 3 rfl rfl 4 (by decide) (imX8_ends_own _ (List.mem_of_getElem? (i := 3) rfl)) rfl dX8_ends_56 rfl ?_
        refine g_iload_n (np := 60) h 1 rfl rfl dX8_ends_59 rfl ?_
        obtain ⟨r8, hr8, hF⟩ := Option.bind_eq_some_iff.mp hF
        refine g_callS (np := 63) (Wd' := (wdX8_ends cI cZ q0 q1 q2 q3 q4 d5 d6 d7 d8 d9 d10 d11 d12 d13 d14 d15 d16 d17 v_left v_right v_firstKept v_secondKept v_year)) (As := [.ref q4, .int x1]) h (mX8_at l D cI cZ q4 10 v_right x1 r8 hr8) gcX8_ends_X8_at rfl ⟨rfl, rfl⟩ hyX8_at rfl rfl rfl rfl ⟨Nat.zero_le _, Nat.zero_le _⟩ [4] [0, 1, 2, 3] (N := 5) (by decide +kernel) rfl rfl rfl rfl rfl dX8_ends_60 rfl ?_
        refine g_iadd (np := 64) h dX8_ends_63 rfl ?_
        refine g_istore (np := 66) (lv' := [(4, .int (((10 : Int32) * r7) + r8)), (0, .ref q0), (1, .int x1), (2, .int x2), (3, .int x3)]) h (by decide) rfl dX8_ends_64 rfl ?_
        refine g_aload_n (np := 67) h 1 rfl rfl dX8_ends_66 rfl ?_
        refine g_get (np := 70) (T := TX8) h imX8_ends_u_X8 0 8 rfl rfl 0 (by decide) (imX8_ends_own _ (List.mem_of_getElem? (i := 0) rfl)) rfl dX8_ends_67 rfl ?_
        refine g_get (np := 73) (T := TX5) h imX8_ends_u_X5 1 5 rfl rfl 0 (by decide) (imX8_ends_own _ (List.mem_of_getElem? (i := 1) rfl)) rfl dX8_ends_70 rfl ?_
        refine g_get (np := 76) (T := TX3) h imX8_ends_u_X3 2 3 rfl rfl 3 (by decide) (imX8_ends_own _ (List.mem_of_getElem? (i := 2) rfl)) rfl dX8_ends_73 rfl ?_
        refine g_iload_n (np := 77) h 2 rfl rfl dX8_ends_76 rfl ?_
        refine g_iload_n (np := 78) h 3 rfl rfl dX8_ends_77 rfl ?_
        obtain ⟨r9, hr9, hF⟩ := Option.bind_eq_some_iff.mp hF
        refine g_callS (np := 81) (Wd' := (wdX8_ends cI cZ q0 q1 q2 q3 q4 d5 d6 d7 d8 d9 d10 d11 d12 d13 d14 d15 d16 d17 r9 v_right v_firstKept v_secondKept v_year)) (As := [.ref q3, .int x1, .int x2]) h (mX8_put l D cI cZ q3 10 v_left x1 x2 r9 hr9) gcX8_ends_X8_put rfl ⟨rfl, rfl⟩ hyX8_put rfl rfl rfl rfl ⟨Nat.zero_le _, Nat.zero_le _⟩ [3] [0, 1, 2, 4] (N := 5) (by decide +kernel) rfl rfl rfl rfl rfl dX8_ends_78 rfl ?_
        refine g_aload_n (np := 82) h 1 rfl rfl dX8_ends_81 rfl ?_
        refine g_get (np := 85) (T := TX8) h imX8_ends_u_X8 0 8 rfl rfl 0 (by decide) (imX8_ends_own _ (List.mem_of_getElem? (i := 0) rfl)) rfl dX8_ends_82 rfl ?_
        refine g_get (np := 88) (T := TX5) h imX8_ends_u_X5 1 5 rfl rfl 0 (by decide) (imX8_ends_own _ (List.mem_of_getElem? (i := 1) rfl)) rfl dX8_ends_85 rfl ?_
        refine g_get (np := 91) (T := TX3) h imX8_ends_u_X3 2 3 rfl rfl 4 (by decide) (imX8_ends_own _ (List.mem_of_getElem? (i := 3) rfl)) rfl dX8_ends_88 rfl ?_
        refine g_iload_n (np := 92) h 2 rfl rfl dX8_ends_91 rfl ?_
        refine g_iload_n (np := 93) h 4 rfl rfl dX8_ends_92 rfl ?_
        obtain ⟨r10, hr10, hF⟩ := Option.bind_eq_some_iff.mp hF
        refine g_callS (np := 96) (Wd' := (wdX8_ends cI cZ q0 q1 q2 q3 q4 d5 d6 d7 d8 d9 d10 d11 d12 d13 d14 d15 d16 d17 r9 r10 v_firstKept v_secondKept v_year)) (As := [.ref q4, .int x1, .int x3]) h (mX8_put l D cI cZ q4 10 v_right x1 x3 r10 hr10) gcX8_ends_X8_put rfl ⟨rfl, rfl⟩ hyX8_put rfl rfl rfl rfl ⟨Nat.zero_le _, Nat.zero_le _⟩ [4] [0, 1, 2, 3] (N := 5) (by decide +kernel) rfl rfl rfl rfl rfl dX8_ends_93 rfl ?_
        refine g_iload (np := 98) h 0 rfl dX8_ends_96 rfl ?_
        exact hend _ hF _ _ dX8_ends_98
      · refine g_bipush (np := 31) (v := (-2 : Int32)) h (by decide) dX8_ends_29 rfl ?_
        exact hend _ hF _ _ dX8_ends_31
  · refine g_iconst (np := 8) (v := (-1 : Int32)) h (by decide) dX8_ends_7 rfl ?_
    exact hend _ hF _ _ dX8_ends_8
theorem dX8_rings_0 : decode cX8_rings 0 = .ok (.iload_n 1, 1) := by decide +kernel
theorem dX8_rings_1 : decode cX8_rings 1 = .ok (.invokestatic 57, 3) := by decide +kernel
theorem dX8_rings_4 : decode cX8_rings 4 = .ok (.ifCond .ne 5, 3) := by decide +kernel
theorem dX8_rings_7 : decode cX8_rings 7 = .ok (.iconst (-1), 1) := by decide +kernel
theorem dX8_rings_8 : decode cX8_rings 8 = .ok (.ireturn, 1) := by decide +kernel
theorem dX8_rings_9 : decode cX8_rings 9 = .ok (.iload_n 2, 1) := by decide +kernel
theorem dX8_rings_10 : decode cX8_rings 10 = .ok (.iconst 0, 1) := by decide +kernel
theorem dX8_rings_11 : decode cX8_rings 11 = .ok (.ldc 95, 2) := by decide +kernel
theorem dX8_rings_13 : decode cX8_rings 13 = .ok (.invokestatic 61, 3) := by decide +kernel
theorem dX8_rings_16 : decode cX8_rings 16 = .ok (.ifCond .ne 6, 3) := by decide +kernel
theorem dX8_rings_19 : decode cX8_rings 19 = .ok (.bipush (-2), 2) := by decide +kernel
theorem dX8_rings_21 : decode cX8_rings 21 = .ok (.ireturn, 1) := by decide +kernel
theorem dX8_rings_22 : decode cX8_rings 22 = .ok (.aload_n 0, 1) := by decide +kernel
theorem dX8_rings_23 : decode cX8_rings 23 = .ok (.getfield 10, 3) := by decide +kernel
theorem dX8_rings_26 : decode cX8_rings 26 = .ok (.getfield 65, 3) := by decide +kernel
theorem dX8_rings_29 : decode cX8_rings 29 = .ok (.getfield 96, 3) := by decide +kernel
theorem dX8_rings_32 : decode cX8_rings 32 = .ok (.iload_n 1, 1) := by decide +kernel
theorem dX8_rings_33 : decode cX8_rings 33 = .ok (.invokestatic 75, 3) := by decide +kernel
theorem dX8_rings_36 : decode cX8_rings 36 = .ok (.istore_n 3, 1) := by decide +kernel
theorem dX8_rings_37 : decode cX8_rings 37 = .ok (.aload_n 0, 1) := by decide +kernel
theorem dX8_rings_38 : decode cX8_rings 38 = .ok (.getfield 10, 3) := by decide +kernel
theorem dX8_rings_41 : decode cX8_rings 41 = .ok (.getfield 65, 3) := by decide +kernel
theorem dX8_rings_44 : decode cX8_rings 44 = .ok (.getfield 96, 3) := by decide +kernel
theorem dX8_rings_47 : decode cX8_rings 47 = .ok (.iload_n 1, 1) := by decide +kernel
theorem dX8_rings_48 : decode cX8_rings 48 = .ok (.iload_n 2, 1) := by decide +kernel
theorem dX8_rings_49 : decode cX8_rings 49 = .ok (.invokestatic 82, 3) := by decide +kernel
theorem dX8_rings_52 : decode cX8_rings 52 = .ok (.iload_n 3, 1) := by decide +kernel
theorem dX8_rings_53 : decode cX8_rings 53 = .ok (.ireturn, 1) := by decide +kernel
def wtX8_rings : List Cond := .code yX8_rings cX8_rings 4 (some .int) :: (([.constant RX8 95 (99999999), .fieldLink RX8 10 "DriftKin" "now" "LDriftKin$Shore;", .fieldLink RX8 65 "DriftKin$Shore" "pieces" "LDriftKin$Pieces;", .fieldLink RX8 96 "DriftKin$Pieces" "rings" "[I"]) ++ ((u_ws RX3 TX3 7) ++ ((u_ws RX5 TX5 4) ++ ((u_ws RX8 TX8 9) ++ ((va_wsS RX8 57 yX8_isPiece wtX8_isPiece) ++ ((va_wsS RX8 61 yX8_within wtX8_within) ++ ((va_wsS RX8 75 yX8_at wtX8_at) ++ ((va_wsS RX8 82 yX8_put wtX8_put) ++ []))))))))
theorem imX8_rings_own : ∀ w ∈ ([.constant RX8 95 (99999999), .fieldLink RX8 10 "DriftKin" "now" "LDriftKin$Shore;", .fieldLink RX8 65 "DriftKin$Shore" "pieces" "LDriftKin$Pieces;", .fieldLink RX8 96 "DriftKin$Pieces" "rings" "[I"] : List Cond), w ∈ wtX8_rings := fun w h => List.mem_cons_of_mem _ (inl h)
theorem imX8_rings_u_X3 : ∀ w ∈ (u_ws RX3 TX3 7 : List Cond), w ∈ wtX8_rings := fun w h => List.mem_cons_of_mem _ (inr (inl h))
theorem imX8_rings_u_X5 : ∀ w ∈ (u_ws RX5 TX5 4 : List Cond), w ∈ wtX8_rings := fun w h => List.mem_cons_of_mem _ (inr (inr (inl h)))
theorem imX8_rings_u_X8 : ∀ w ∈ (u_ws RX8 TX8 9 : List Cond), w ∈ wtX8_rings := fun w h => List.mem_cons_of_mem _ (inr (inr (inr (inl h))))
theorem imX8_rings_c_X8_isPiece : ∀ w ∈ (va_wsS RX8 57 yX8_isPiece wtX8_isPiece : List Cond), w ∈ wtX8_rings := fun w h => List.mem_cons_of_mem _ (inr (inr (inr (inr (inl h)))))
theorem imX8_rings_c_X8_within : ∀ w ∈ (va_wsS RX8 61 yX8_within wtX8_within : List Cond), w ∈ wtX8_rings := fun w h => List.mem_cons_of_mem _ (inr (inr (inr (inr (inr (inl h))))))
theorem imX8_rings_c_X8_at : ∀ w ∈ (va_wsS RX8 75 yX8_at wtX8_at : List Cond), w ∈ wtX8_rings := fun w h => List.mem_cons_of_mem _ (inr (inr (inr (inr (inr (inr (inl h)))))))
theorem imX8_rings_c_X8_put : ∀ w ∈ (va_wsS RX8 82 yX8_put wtX8_put : List Cond), w ∈ wtX8_rings := fun w h => List.mem_cons_of_mem _ (inr (inr (inr (inr (inr (inr (inr (inl h))))))))
theorem gdX8_rings : ∀ w ∈ wtX8_rings, Gd w := gdc rfl (gda (gdl (by decide +kernel)) (gda (gdu _ _ _) (gda (gdu _ _ _) (gda (gdu _ _ _) (gda (gda (gdl (by decide +kernel)) gdX8_isPiece) (gda (gda (gdl (by decide +kernel)) gdX8_within) (gda (gda (gdl (by decide +kernel)) gdX8_at) (gda (gda (gdl (by decide +kernel)) gdX8_put) gdn))))))))
theorem gcX8_rings_X8_isPiece : GoodIn wtX8_rings (va_wsS RX8 57 yX8_isPiece wtX8_isPiece) := fun w h => ⟨imX8_rings_c_X8_isPiece w h, (gda (gdl (by decide +kernel)) gdX8_isPiece) w h⟩
theorem gcX8_rings_X8_within : GoodIn wtX8_rings (va_wsS RX8 61 yX8_within wtX8_within) := fun w h => ⟨imX8_rings_c_X8_within w h, (gda (gdl (by decide +kernel)) gdX8_within) w h⟩
theorem gcX8_rings_X8_at : GoodIn wtX8_rings (va_wsS RX8 75 yX8_at wtX8_at) := fun w h => ⟨imX8_rings_c_X8_at w h, (gda (gdl (by decide +kernel)) gdX8_at) w h⟩
theorem gcX8_rings_X8_put : GoodIn wtX8_rings (va_wsS RX8 82 yX8_put wtX8_put) := fun w h => ⟨imX8_rings_c_X8_put w h, (gda (gdl (by decide +kernel)) gdX8_put) w h⟩
def fX8_rings (v_rings : Nat → Int32) (x1 : Int32) (x2 : Int32) : Option (Int32 × (Nat → Int32)) :=
  (fX8_isPiece x1).bind (fun r1 =>
    if r1 = (0 : Int32) then
      some ((-1 : Int32), v_rings)
    else
      (fX8_within x2 (0 : Int32) (99999999 : Int32)).bind (fun r3 =>
        if r3 = (0 : Int32) then
          some ((-2 : Int32), v_rings)
        else
          (fX8_at 10 v_rings x1).bind (fun r5 =>
            (fX8_put 10 v_rings x1 x2).bind (fun r6 =>
              some (r5, r6)))))
def wdX8_rings (cI cZ : ClassId) (q0 : Nat) (q1 : Nat) (q2 : Nat) (q3 : Nat) (d4 : Nat) (d5 : Nat) (d6 : Nat) (d7 : Nat) (d8 : Nat) (d9 : Nat) (d10 : Nat) (d11 : Nat) (d12 : Nat) (d13 : Nat) (d14 : Nat) (d15 : Nat) (d16 : Nat) (d17 : Nat)  (v_rings : Nat → Int32) (v_firstKept : Int32) (v_secondKept : Int32) (v_year : Int32) : va_W := [(q0, .inr (8, [.ref q1, .ref d4, .ref d5, .int v_firstKept, .int v_secondKept, .ref d6, .ref d7, .ref d8, .ref d9])), (q1, .inr (5, [.ref q2, .ref d10, .ref d11, .int v_year])), (q2, .inr (3, [.ref d12, .ref d13, .ref d14, .ref d15, .ref d16, .ref d17, .ref q3])), (q3, .inl (cI, 10, .inl v_rings))]
abbrev rmX8_rings : Jvm.Room := { frames := 2, cells := 0, slots := 0, locals := 42 }
theorem hyX8_rings : yX8_rings.cls ≠ "java/lang/invoke/MethodHandle" ∧ yX8_rings.cls ≠ "java/lang/invoke/VarHandle" ∧ (parseMethodDescriptor yX8_rings.desc).map (fun d => d.parameters.length) = some 2 := by decide +kernel
set_option maxHeartbeats 4000000 in
set_option maxRecDepth 100000 in
theorem mX8_rings (l : Launch) (D : va_G) (cI cZ : ClassId) (q0 : Nat) (q1 : Nat) (q2 : Nat) (q3 : Nat) (d4 : Nat) (d5 : Nat) (d6 : Nat) (d7 : Nat) (d8 : Nat) (d9 : Nat) (d10 : Nat) (d11 : Nat) (d12 : Nat) (d13 : Nat) (d14 : Nat) (d15 : Nat) (d16 : Nat) (d17 : Nat) (v_rings : Nat → Int32) (v_firstKept : Int32) (v_secondKept : Int32) (v_year : Int32) (x1 : Int32) (x2 : Int32) (z : Int32 × (Nat → Int32)) (hF : fX8_rings v_rings x1 x2 = some z) : mp l yX8_rings wtX8_rings rmX8_rings D cI cZ [.ref q0, .int x1, .int x2] (wdX8_rings cI cZ q0 q1 q2 q3 d4 d5 d6 d7 d8 d9 d10 d11 d12 d13 d14 d15 d16 d17 v_rings v_firstKept v_secondKept v_year) (some (.int z.1)) (wdX8_rings cI cZ q0 q1 q2 q3 d4 d5 d6 d7 d8 d9 d10 d11 d12 d13 d14 d15 d16 d17 z.2 v_firstKept v_secondKept v_year) := by
  refine mp_i (lv0 := [(0, .ref q0), (1, .int x1), (2, .int x2)]) cX8_rings 4 z.1 (by decide) rfl (Nat.le_of_ble_eq_true rfl) rfl (fun E h hend0 => ?_)
  have hend : ∀ (z' : Int32 × (Nat → Int32)), some z' = some z → ∀ (pc : Nat) (lv : List (Nat × Value)), decode cX8_rings pc = .ok (.ireturn, 1) → G l D E 4 0 0 (wdX8_rings cI cZ q0 q1 q2 q3 d4 d5 d6 d7 d8 d9 d10 d11 d12 d13 d14 d15 d16 d17 (z'.2) v_firstKept v_secondKept v_year) pc lv [.int z'.1] := fun z' e => by cases e; exact hend0
  clear hend0
  unfold fX8_rings at hF
  refine g_iload_n (np := 1) h 1 rfl rfl dX8_rings_0 rfl ?_
  obtain ⟨r1, hr1, hF⟩ := Option.bind_eq_some_iff.mp hF
  refine g_callS (np := 4) (Wd' := (wdX8_rings cI cZ q0 q1 q2 q3 d4 d5 d6 d7 d8 d9 d10 d11 d12 d13 d14 d15 d16 d17 v_rings v_firstKept v_secondKept v_year)) (As := [.int x1]) h (mX8_isPiece l D cI cZ x1 r1 hr1) gcX8_rings_X8_isPiece rfl ⟨rfl, rfl⟩ hyX8_isPiece rfl rfl rfl rfl ⟨Nat.zero_le _, Nat.zero_le _⟩ [] [0, 1, 2, 3] (N := 4) (by decide +kernel) rfl rfl rfl rfl rfl dX8_rings_1 rfl ?_
  refine g_if_ne h hF dX8_rings_4 (np := 7) rfl (tg := 9) rfl (fun c2 hF => ?_) (fun c2 hF => ?_)
  · refine g_iload_n (np := 10) h 2 rfl rfl dX8_rings_9 rfl ?_
    refine g_iconst (np := 11) (v := (0 : Int32)) h (by decide) dX8_rings_10 rfl ?_
    refine g_ldc (np := 13) (v := (99999999 : Int32)) h (imX8_rings_own _ (List.mem_of_getElem? (i := 0) rfl)) dX8_rings_11 rfl ?_
    obtain ⟨r3, hr3, hF⟩ := Option.bind_eq_some_iff.mp hF
    refine g_callS (np := 16) (Wd' := (wdX8_rings cI cZ q0 q1 q2 q3 d4 d5 d6 d7 d8 d9 d10 d11 d12 d13 d14 d15 d16 d17 v_rings v_firstKept v_secondKept v_year)) (As := [.int x2, .int (0 : Int32), .int (99999999 : Int32)]) h (mX8_within l D cI cZ x2 (0 : Int32) (99999999 : Int32) r3 hr3) gcX8_rings_X8_within rfl ⟨rfl, rfl⟩ hyX8_within rfl rfl rfl rfl ⟨Nat.zero_le _, Nat.zero_le _⟩ [] [0, 1, 2, 3] (N := 4) (by decide +kernel) rfl rfl rfl rfl rfl dX8_rings_13 rfl ?_
    refine g_if_ne h hF dX8_rings_16 (np := 19) rfl (tg := 22) rfl (fun c4 hF => ?_) (fun c4 hF => ?_)
    · refine g_aload_n (np := 23) h 0 rfl rfl dX8_rings_22 rfl ?_
      refine g_get (np := 26) (T := TX8) h imX8_rings_u_X8 0 8 rfl rfl 0 (by decide) (imX8_rings_own _ (List.mem_of_getElem? (i := 1) rfl)) rfl dX8_rings_23 rfl ?_
      refine g_get (np := 29) (T := TX5) h imX8_rings_u_X5 1 5 rfl rfl 0 (by decide) (imX8_rings_own _ (List.mem_of_getElem? (i := 2) rfl)) rfl dX8_rings_26 rfl ?_
      refine g_get (np := 32) (T := TX3) h imX8_rings_u_X3 2 3 rfl rfl 6 (by decide) (imX8_rings_own _ (List.mem_of_getElem? (i := 3) rfl)) rfl dX8_rings_29 rfl ?_
      refine g_iload_n (np := 33) h 1 rfl rfl dX8_rings_32 rfl ?_
      obtain ⟨r5, hr5, hF⟩ := Option.bind_eq_some_iff.mp hF
      refine g_callS (np := 36) (Wd' := (wdX8_rings cI cZ q0 q1 q2 q3 d4 d5 d6 d7 d8 d9 d10 d11 d12 d13 d14 d15 d16 d17 v_rings v_firstKept v_secondKept v_year)) (As := [.ref q3, .int x1]) h (mX8_at l D cI cZ q3 10 v_rings x1 r5 hr5) gcX8_rings_X8_at rfl ⟨rfl, rfl⟩ hyX8_at rfl rfl rfl rfl ⟨Nat.zero_le _, Nat.zero_le _⟩ [3] [0, 1, 2] (N := 4) (by decide +kernel) rfl rfl rfl rfl rfl dX8_rings_33 rfl ?_
      refine g_istore_n (np := 37) (lv' := [(3, .int r5), (0, .ref q0), (1, .int x1), (2, .int x2)]) h rfl (by decide) rfl dX8_rings_36 rfl ?_
      refine g_aload_n (np := 38) h 1 rfl rfl dX8_rings_37 rfl ?_
      refine g_get (np := 41) (T := TX8) h imX8_rings_u_X8 0 8 rfl rfl 0 (by decide) (imX8_rings_own _ (List.mem_of_getElem? (i := 1) rfl)) rfl dX8_rings_38 rfl ?_
      refine g_get (np := 44) (T := TX5) h imX8_rings_u_X5 1 5 rfl rfl 0 (by decide) (imX8_rings_own _ (List.mem_of_getElem? (i := 2) rfl)) rfl dX8_rings_41 rfl ?_
      refine g_get (np := 47) (T := TX3) h imX8_rings_u_X3 2 3 rfl rfl 6 (by decide) (imX8_rings_own _ (List.mem_of_getElem? (i := 3) rfl)) rfl dX8_rings_44 rfl ?_
      refine g_iload_n (np := 48) h 2 rfl rfl dX8_rings_47 rfl ?_
      refine g_iload_n (np := 49) h 3 rfl rfl dX8_rings_48 rfl ?_
      obtain ⟨r6, hr6, hF⟩ := Option.bind_eq_some_iff.mp hF
      refine g_callS (np := 52) (Wd' := (wdX8_rings cI cZ q0 q1 q2 q3 d4 d5 d6 d7 d8 d9 d10 d11 d12 d13 d14 d15 d16 d17 r6 v_firstKept v_secondKept v_year)) (As := [.ref q3, .int x1, .int x2]) h (mX8_put l D cI cZ q3 10 v_rings x1 x2 r6 hr6) gcX8_rings_X8_put rfl ⟨rfl, rfl⟩ hyX8_put rfl rfl rfl rfl ⟨Nat.zero_le _, Nat.zero_le _⟩ [3] [0, 1, 2] (N := 4) (by decide +kernel) rfl rfl rfl rfl rfl dX8_rings_49 rfl ?_
      refine g_iload_n (np := 53) h 0 rfl rfl dX8_rings_52 rfl ?_
      exact hend _ hF _ _ dX8_rings_53
    · refine g_bipush (np := 21) (v := (-2 : Int32)) h (by decide) dX8_rings_19 rfl ?_
      exact hend _ hF _ _ dX8_rings_21
  · refine g_iconst (np := 8) (v := (-1 : Int32)) h (by decide) dX8_rings_7 rfl ?_
    exact hend _ hF _ _ dX8_rings_8
theorem dX8_say_0 : decode cX8_say 0 = .ok (.iload_n 1, 1) := by decide +kernel
theorem dX8_say_1 : decode cX8_say 1 = .ok (.bipush 33, 2) := by decide +kernel
theorem dX8_say_3 : decode cX8_say 3 = .ok (.bipush 126, 2) := by decide +kernel
theorem dX8_say_5 : decode cX8_say 5 = .ok (.invokestatic 61, 3) := by decide +kernel
theorem dX8_say_8 : decode cX8_say 8 = .ok (.ifCond .ne 6, 3) := by decide +kernel
theorem dX8_say_11 : decode cX8_say 11 = .ok (.bipush (-2), 2) := by decide +kernel
theorem dX8_say_13 : decode cX8_say 13 = .ok (.ireturn, 1) := by decide +kernel
theorem dX8_say_14 : decode cX8_say 14 = .ok (.aload_n 0, 1) := by decide +kernel
theorem dX8_say_15 : decode cX8_say 15 = .ok (.getfield 32, 3) := by decide +kernel
theorem dX8_say_18 : decode cX8_say 18 = .ok (.getfield 99, 3) := by decide +kernel
theorem dX8_say_21 : decode cX8_say 21 = .ok (.bipush 60, 2) := by decide +kernel
theorem dX8_say_23 : decode cX8_say 23 = .ok (.if_icmp .lt 6, 3) := by decide +kernel
theorem dX8_say_26 : decode cX8_say 26 = .ok (.bipush (-4), 2) := by decide +kernel
theorem dX8_say_28 : decode cX8_say 28 = .ok (.ireturn, 1) := by decide +kernel
theorem dX8_say_29 : decode cX8_say 29 = .ok (.aload_n 0, 1) := by decide +kernel
theorem dX8_say_30 : decode cX8_say 30 = .ok (.getfield 32, 3) := by decide +kernel
theorem dX8_say_33 : decode cX8_say 33 = .ok (.getfield 103, 3) := by decide +kernel
theorem dX8_say_36 : decode cX8_say 36 = .ok (.aload_n 0, 1) := by decide +kernel
theorem dX8_say_37 : decode cX8_say 37 = .ok (.getfield 32, 3) := by decide +kernel
theorem dX8_say_40 : decode cX8_say 40 = .ok (.getfield 99, 3) := by decide +kernel
theorem dX8_say_43 : decode cX8_say 43 = .ok (.iload_n 1, 1) := by decide +kernel
theorem dX8_say_44 : decode cX8_say 44 = .ok (.invokestatic 82, 3) := by decide +kernel
theorem dX8_say_47 : decode cX8_say 47 = .ok (.aload_n 0, 1) := by decide +kernel
theorem dX8_say_48 : decode cX8_say 48 = .ok (.getfield 32, 3) := by decide +kernel
theorem dX8_say_51 : decode cX8_say 51 = .ok (.dup, 1) := by decide +kernel
theorem dX8_say_52 : decode cX8_say 52 = .ok (.getfield 99, 3) := by decide +kernel
theorem dX8_say_55 : decode cX8_say 55 = .ok (.iconst 1, 1) := by decide +kernel
theorem dX8_say_56 : decode cX8_say 56 = .ok (.iadd, 1) := by decide +kernel
theorem dX8_say_57 : decode cX8_say 57 = .ok (.putfield 99, 3) := by decide +kernel
theorem dX8_say_60 : decode cX8_say 60 = .ok (.aload_n 0, 1) := by decide +kernel
theorem dX8_say_61 : decode cX8_say 61 = .ok (.getfield 32, 3) := by decide +kernel
theorem dX8_say_64 : decode cX8_say 64 = .ok (.getfield 99, 3) := by decide +kernel
theorem dX8_say_67 : decode cX8_say 67 = .ok (.ireturn, 1) := by decide +kernel
def wtX8_say : List Cond := .code yX8_say cX8_say 2 (some .int) :: (([.fieldLink RX8 32 "DriftKin" "pad" "LDriftKin$Pad;", .fieldLink RX8 99 "DriftKin$Pad" "count" "I", .fieldLink RX8 103 "DriftKin$Pad" "signs" "[I"]) ++ ((u_ws RX2 TX2 2) ++ ((u_ws RX8 TX8 9) ++ ((va_wsS RX8 61 yX8_within wtX8_within) ++ ((va_wsS RX8 82 yX8_put wtX8_put) ++ [])))))
theorem imX8_say_own : ∀ w ∈ ([.fieldLink RX8 32 "DriftKin" "pad" "LDriftKin$Pad;", .fieldLink RX8 99 "DriftKin$Pad" "count" "I", .fieldLink RX8 103 "DriftKin$Pad" "signs" "[I"] : List Cond), w ∈ wtX8_say := fun w h => List.mem_cons_of_mem _ (inl h)
theorem imX8_say_u_X2 : ∀ w ∈ (u_ws RX2 TX2 2 : List Cond), w ∈ wtX8_say := fun w h => List.mem_cons_of_mem _ (inr (inl h))
theorem imX8_say_u_X8 : ∀ w ∈ (u_ws RX8 TX8 9 : List Cond), w ∈ wtX8_say := fun w h => List.mem_cons_of_mem _ (inr (inr (inl h)))
theorem imX8_say_c_X8_within : ∀ w ∈ (va_wsS RX8 61 yX8_within wtX8_within : List Cond), w ∈ wtX8_say := fun w h => List.mem_cons_of_mem _ (inr (inr (inr (inl h))))
theorem imX8_say_c_X8_put : ∀ w ∈ (va_wsS RX8 82 yX8_put wtX8_put : List Cond), w ∈ wtX8_say := fun w h => List.mem_cons_of_mem _ (inr (inr (inr (inr (inl h)))))
theorem gdX8_say : ∀ w ∈ wtX8_say, Gd w := gdc rfl (gda (gdl (by decide +kernel)) (gda (gdu _ _ _) (gda (gdu _ _ _) (gda (gda (gdl (by decide +kernel)) gdX8_within) (gda (gda (gdl (by decide +kernel)) gdX8_put) gdn)))))
theorem gcX8_say_X8_within : GoodIn wtX8_say (va_wsS RX8 61 yX8_within wtX8_within) := fun w h => ⟨imX8_say_c_X8_within w h, (gda (gdl (by decide +kernel)) gdX8_within) w h⟩
theorem gcX8_say_X8_put : GoodIn wtX8_say (va_wsS RX8 82 yX8_put wtX8_put) := fun w h => ⟨imX8_say_c_X8_put w h, (gda (gdl (by decide +kernel)) gdX8_put) w h⟩
def fX8_say (v_count : Int32) (v_signs : Nat → Int32) (x1 : Int32) : Option (Int32 × Int32 × (Nat → Int32)) :=
  (fX8_within x1 (33 : Int32) (126 : Int32)).bind (fun r1 =>
    if r1 = (0 : Int32) then
      some ((-2 : Int32), v_count, v_signs)
    else
      if v_count < (60 : Int32) then
        (fX8_put 60 v_signs v_count x1).bind (fun r4 =>
          some ((v_count + (1 : Int32)), (v_count + (1 : Int32)), r4))
      else
        some ((-4 : Int32), v_count, v_signs))
def wdX8_say (cI cZ : ClassId) (q0 : Nat) (q1 : Nat) (q2 : Nat) (d3 : Nat) (d4 : Nat) (d5 : Nat) (d6 : Nat) (d7 : Nat) (d8 : Nat)  (v_count : Int32) (v_signs : Nat → Int32) (v_firstKept : Int32) (v_secondKept : Int32) : va_W := [(q0, .inr (8, [.ref d3, .ref d4, .ref d5, .int v_firstKept, .int v_secondKept, .ref q1, .ref d6, .ref d7, .ref d8])), (q1, .inr (2, [.ref q2, .int v_count])), (q2, .inl (cI, 60, .inl v_signs))]
abbrev rmX8_say : Jvm.Room := { frames := 1, cells := 0, slots := 0, locals := 22 }
theorem hyX8_say : yX8_say.cls ≠ "java/lang/invoke/MethodHandle" ∧ yX8_say.cls ≠ "java/lang/invoke/VarHandle" ∧ (parseMethodDescriptor yX8_say.desc).map (fun d => d.parameters.length) = some 1 := by decide +kernel
set_option maxHeartbeats 4000000 in
set_option maxRecDepth 100000 in
theorem mX8_say (l : Launch) (D : va_G) (cI cZ : ClassId) (q0 : Nat) (q1 : Nat) (q2 : Nat) (d3 : Nat) (d4 : Nat) (d5 : Nat) (d6 : Nat) (d7 : Nat) (d8 : Nat) (v_count : Int32) (v_signs : Nat → Int32) (v_firstKept : Int32) (v_secondKept : Int32) (x1 : Int32) (z : Int32 × Int32 × (Nat → Int32)) (hF : fX8_say v_count v_signs x1 = some z) : mp l yX8_say wtX8_say rmX8_say D cI cZ [.ref q0, .int x1] (wdX8_say cI cZ q0 q1 q2 d3 d4 d5 d6 d7 d8 v_count v_signs v_firstKept v_secondKept) (some (.int z.1)) (wdX8_say cI cZ q0 q1 q2 d3 d4 d5 d6 d7 d8 z.2.1 z.2.2 v_firstKept v_secondKept) := by
  refine mp_i (lv0 := [(0, .ref q0), (1, .int x1)]) cX8_say 2 z.1 (by decide) rfl (Nat.le_of_ble_eq_true rfl) rfl (fun E h hend0 => ?_)
  have hend : ∀ (z' : Int32 × Int32 × (Nat → Int32)), some z' = some z → ∀ (pc : Nat) (lv : List (Nat × Value)), decode cX8_say pc = .ok (.ireturn, 1) → G l D E 2 0 0 (wdX8_say cI cZ q0 q1 q2 d3 d4 d5 d6 d7 d8 (z'.2.1) (z'.2.2) v_firstKept v_secondKept) pc lv [.int z'.1] := fun z' e => by cases e; exact hend0
  clear hend0
  unfold fX8_say at hF
  refine g_iload_n (np := 1) h 1 rfl rfl dX8_say_0 rfl ?_
  refine g_bipush (np := 3) (v := (33 : Int32)) h (by decide) dX8_say_1 rfl ?_
  refine g_bipush (np := 5) (v := (126 : Int32)) h (by decide) dX8_say_3 rfl ?_
  obtain ⟨r1, hr1, hF⟩ := Option.bind_eq_some_iff.mp hF
  refine g_callS (np := 8) (Wd' := (wdX8_say cI cZ q0 q1 q2 d3 d4 d5 d6 d7 d8 v_count v_signs v_firstKept v_secondKept)) (As := [.int x1, .int (33 : Int32), .int (126 : Int32)]) h (mX8_within l D cI cZ x1 (33 : Int32) (126 : Int32) r1 hr1) gcX8_say_X8_within rfl ⟨rfl, rfl⟩ hyX8_within rfl rfl rfl rfl ⟨Nat.zero_le _, Nat.zero_le _⟩ [] [0, 1, 2] (N := 3) (by decide +kernel) rfl rfl rfl rfl rfl dX8_say_5 rfl ?_
  refine g_if_ne h hF dX8_say_8 (np := 11) rfl (tg := 14) rfl (fun c2 hF => ?_) (fun c2 hF => ?_)
  · refine g_aload_n (np := 15) h 0 rfl rfl dX8_say_14 rfl ?_
    refine g_get (np := 18) (T := TX8) h imX8_say_u_X8 0 8 rfl rfl 5 (by decide) (imX8_say_own _ (List.mem_of_getElem? (i := 0) rfl)) rfl dX8_say_15 rfl ?_
    refine g_get (np := 21) (T := TX2) h imX8_say_u_X2 1 2 rfl rfl 1 (by decide) (imX8_say_own _ (List.mem_of_getElem? (i := 1) rfl)) rfl dX8_say_18 rfl ?_
    refine g_bipush (np := 23) (v := (60 : Int32)) h (by decide) dX8_say_21 rfl ?_
    refine g_icmp_lt h hF dX8_say_23 (np := 26) rfl (tg := 29) rfl (fun c3 hF => ?_) (fun c3 hF => ?_)
    · refine g_aload_n (np := 30) h 0 rfl rfl dX8_say_29 rfl ?_
      refine g_get (np := 33) (T := TX8) h imX8_say_u_X8 0 8 rfl rfl 5 (by decide) (imX8_say_own _ (List.mem_of_getElem? (i := 0) rfl)) rfl dX8_say_30 rfl ?_
      refine g_get (np := 36) (T := TX2) h imX8_say_u_X2 1 2 rfl rfl 0 (by decide) (imX8_say_own _ (List.mem_of_getElem? (i := 2) rfl)) rfl dX8_say_33 rfl ?_
      refine g_aload_n (np := 37) h 0 rfl rfl dX8_say_36 rfl ?_
      refine g_get (np := 40) (T := TX8) h imX8_say_u_X8 0 8 rfl rfl 5 (by decide) (imX8_say_own _ (List.mem_of_getElem? (i := 0) rfl)) rfl dX8_say_37 rfl ?_
      refine g_get (np := 43) (T := TX2) h imX8_say_u_X2 1 2 rfl rfl 1 (by decide) (imX8_say_own _ (List.mem_of_getElem? (i := 1) rfl)) rfl dX8_say_40 rfl ?_
      refine g_iload_n (np := 44) h 1 rfl rfl dX8_say_43 rfl ?_
      obtain ⟨r4, hr4, hF⟩ := Option.bind_eq_some_iff.mp hF
      refine g_callS (np := 47) (Wd' := (wdX8_say cI cZ q0 q1 q2 d3 d4 d5 d6 d7 d8 v_count r4 v_firstKept v_secondKept)) (As := [.ref q2, .int v_count, .int x1]) h (mX8_put l D cI cZ q2 60 v_signs v_count x1 r4 hr4) gcX8_say_X8_put rfl ⟨rfl, rfl⟩ hyX8_put rfl rfl rfl rfl ⟨Nat.zero_le _, Nat.zero_le _⟩ [2] [0, 1] (N := 3) (by decide +kernel) rfl rfl rfl rfl rfl dX8_say_44 rfl ?_
      refine g_aload_n (np := 48) h 0 rfl rfl dX8_say_47 rfl ?_
      refine g_get (np := 51) (T := TX8) h imX8_say_u_X8 0 8 rfl rfl 5 (by decide) (imX8_say_own _ (List.mem_of_getElem? (i := 0) rfl)) rfl dX8_say_48 rfl ?_
      refine g_dup (np := 52) h rfl dX8_say_51 rfl ?_
      refine g_get (np := 55) (T := TX2) h imX8_say_u_X2 1 2 rfl rfl 1 (by decide) (imX8_say_own _ (List.mem_of_getElem? (i := 1) rfl)) rfl dX8_say_52 rfl ?_
      refine g_iconst (np := 56) (v := (1 : Int32)) h (by decide) dX8_say_55 rfl ?_
      refine g_iadd (np := 57) h dX8_say_56 rfl ?_
      refine g_put (np := 60) (T := TX2) (Wd' := (wdX8_say cI cZ q0 q1 q2 d3 d4 d5 d6 d7 d8 (v_count + (1 : Int32)) r4 v_firstKept v_secondKept)) h imX8_say_u_X2 tyX2_ok nmX2 1 2 rfl rfl 1 (by decide) (imX8_say_own _ (List.mem_of_getElem? (i := 1) rfl)) rfl rfl rfl (Nat.le_of_ble_eq_true rfl) rfl dX8_say_57 rfl ?_
      refine g_aload_n (np := 61) h 0 rfl rfl dX8_say_60 rfl ?_
      refine g_get (np := 64) (T := TX8) h imX8_say_u_X8 0 8 rfl rfl 5 (by decide) (imX8_say_own _ (List.mem_of_getElem? (i := 0) rfl)) rfl dX8_say_61 rfl ?_
      refine g_get (np := 67) (T := TX2) h imX8_say_u_X2 1 2 rfl rfl 1 (by decide) (imX8_say_own _ (List.mem_of_getElem? (i := 1) rfl)) rfl dX8_say_64 rfl ?_
      exact hend _ hF _ _ dX8_say_67
    · refine g_bipush (np := 28) (v := (-4 : Int32)) h (by decide) dX8_say_26 rfl ?_
      exact hend _ hF _ _ dX8_say_28
  · refine g_bipush (np := 13) (v := (-2 : Int32)) h (by decide) dX8_say_11 rfl ?_
    exact hend _ hF _ _ dX8_say_13
theorem dX8_wipe_0 : decode cX8_wipe 0 = .ok (.aload_n 0, 1) := by decide +kernel
theorem dX8_wipe_1 : decode cX8_wipe 1 = .ok (.getfield 32, 3) := by decide +kernel
theorem dX8_wipe_4 : decode cX8_wipe 4 = .ok (.getfield 99, 3) := by decide +kernel
theorem dX8_wipe_7 : decode cX8_wipe 7 = .ok (.istore_n 1, 1) := by decide +kernel
theorem dX8_wipe_8 : decode cX8_wipe 8 = .ok (.aload_n 0, 1) := by decide +kernel
theorem dX8_wipe_9 : decode cX8_wipe 9 = .ok (.getfield 32, 3) := by decide +kernel
theorem dX8_wipe_12 : decode cX8_wipe 12 = .ok (.iconst 0, 1) := by decide +kernel
theorem dX8_wipe_13 : decode cX8_wipe 13 = .ok (.putfield 99, 3) := by decide +kernel
theorem dX8_wipe_16 : decode cX8_wipe 16 = .ok (.iload_n 1, 1) := by decide +kernel
theorem dX8_wipe_17 : decode cX8_wipe 17 = .ok (.ireturn, 1) := by decide +kernel
def wtX8_wipe : List Cond := .code yX8_wipe cX8_wipe 2 (some .int) :: (([.fieldLink RX8 32 "DriftKin" "pad" "LDriftKin$Pad;", .fieldLink RX8 99 "DriftKin$Pad" "count" "I"]) ++ ((u_ws RX2 TX2 2) ++ ((u_ws RX8 TX8 9) ++ [])))
theorem imX8_wipe_own : ∀ w ∈ ([.fieldLink RX8 32 "DriftKin" "pad" "LDriftKin$Pad;", .fieldLink RX8 99 "DriftKin$Pad" "count" "I"] : List Cond), w ∈ wtX8_wipe := fun w h => List.mem_cons_of_mem _ (inl h)
theorem imX8_wipe_u_X2 : ∀ w ∈ (u_ws RX2 TX2 2 : List Cond), w ∈ wtX8_wipe := fun w h => List.mem_cons_of_mem _ (inr (inl h))
theorem imX8_wipe_u_X8 : ∀ w ∈ (u_ws RX8 TX8 9 : List Cond), w ∈ wtX8_wipe := fun w h => List.mem_cons_of_mem _ (inr (inr (inl h)))
theorem gdX8_wipe : ∀ w ∈ wtX8_wipe, Gd w := gdc rfl (gda (gdl (by decide +kernel)) (gda (gdu _ _ _) (gda (gdu _ _ _) gdn)))
def fX8_wipe (v_count : Int32) : Option (Int32 × Int32) :=
  some (v_count, (0 : Int32))
def wdX8_wipe (cI cZ : ClassId) (q0 : Nat) (q1 : Nat) (d2 : Nat) (d3 : Nat) (d4 : Nat) (d5 : Nat) (d6 : Nat) (d7 : Nat) (d8 : Nat)  (v_count : Int32) (v_firstKept : Int32) (v_secondKept : Int32) : va_W := [(q0, .inr (8, [.ref d2, .ref d3, .ref d4, .int v_firstKept, .int v_secondKept, .ref q1, .ref d5, .ref d6, .ref d7])), (q1, .inr (2, [.ref d8, .int v_count]))]
abbrev rmX8_wipe : Jvm.Room := { frames := 0, cells := 0, slots := 0, locals := 0 }
theorem hyX8_wipe : yX8_wipe.cls ≠ "java/lang/invoke/MethodHandle" ∧ yX8_wipe.cls ≠ "java/lang/invoke/VarHandle" ∧ (parseMethodDescriptor yX8_wipe.desc).map (fun d => d.parameters.length) = some 0 := by decide +kernel
set_option maxHeartbeats 4000000 in
set_option maxRecDepth 100000 in
theorem mX8_wipe (l : Launch) (D : va_G) (cI cZ : ClassId) (q0 : Nat) (q1 : Nat) (d2 : Nat) (d3 : Nat) (d4 : Nat) (d5 : Nat) (d6 : Nat) (d7 : Nat) (d8 : Nat) (v_count : Int32) (v_firstKept : Int32) (v_secondKept : Int32) (z : Int32 × Int32) (hF : fX8_wipe v_count = some z) : mp l yX8_wipe wtX8_wipe rmX8_wipe D cI cZ [.ref q0] (wdX8_wipe cI cZ q0 q1 d2 d3 d4 d5 d6 d7 d8 v_count v_firstKept v_secondKept) (some (.int z.1)) (wdX8_wipe cI cZ q0 q1 d2 d3 d4 d5 d6 d7 d8 z.2 v_firstKept v_secondKept) := by
  refine mp_i (lv0 := [(0, .ref q0)]) cX8_wipe 2 z.1 (by decide) rfl (Nat.le_of_ble_eq_true rfl) rfl (fun E h hend0 => ?_)
  have hend : ∀ (z' : Int32 × Int32), some z' = some z → ∀ (pc : Nat) (lv : List (Nat × Value)), decode cX8_wipe pc = .ok (.ireturn, 1) → G l D E 2 0 0 (wdX8_wipe cI cZ q0 q1 d2 d3 d4 d5 d6 d7 d8 (z'.2) v_firstKept v_secondKept) pc lv [.int z'.1] := fun z' e => by cases e; exact hend0
  clear hend0
  unfold fX8_wipe at hF
  refine g_aload_n (np := 1) h 0 rfl rfl dX8_wipe_0 rfl ?_
  refine g_get (np := 4) (T := TX8) h imX8_wipe_u_X8 0 8 rfl rfl 5 (by decide) (imX8_wipe_own _ (List.mem_of_getElem? (i := 0) rfl)) rfl dX8_wipe_1 rfl ?_
  refine g_get (np := 7) (T := TX2) h imX8_wipe_u_X2 1 2 rfl rfl 1 (by decide) (imX8_wipe_own _ (List.mem_of_getElem? (i := 1) rfl)) rfl dX8_wipe_4 rfl ?_
  refine g_istore_n (np := 8) (lv' := [(1, .int v_count), (0, .ref q0)]) h rfl (by decide) rfl dX8_wipe_7 rfl ?_
  refine g_aload_n (np := 9) h 1 rfl rfl dX8_wipe_8 rfl ?_
  refine g_get (np := 12) (T := TX8) h imX8_wipe_u_X8 0 8 rfl rfl 5 (by decide) (imX8_wipe_own _ (List.mem_of_getElem? (i := 0) rfl)) rfl dX8_wipe_9 rfl ?_
  refine g_iconst (np := 13) (v := (0 : Int32)) h (by decide) dX8_wipe_12 rfl ?_
  refine g_put (np := 16) (T := TX2) (Wd' := (wdX8_wipe cI cZ q0 q1 d2 d3 d4 d5 d6 d7 d8 (0 : Int32) v_firstKept v_secondKept)) h imX8_wipe_u_X2 tyX2_ok nmX2 1 2 rfl rfl 1 (by decide) (imX8_wipe_own _ (List.mem_of_getElem? (i := 1) rfl)) rfl rfl rfl (Nat.le_of_ble_eq_true rfl) rfl dX8_wipe_13 rfl ?_
  refine g_iload_n (np := 17) h 0 rfl rfl dX8_wipe_16 rfl ?_
  exact hend _ hF _ _ dX8_wipe_17
theorem dX8_fault_0 : decode cX8_fault 0 = .ok (.aload_n 0, 1) := by decide +kernel
theorem dX8_fault_1 : decode cX8_fault 1 = .ok (.getfield 32, 3) := by decide +kernel
theorem dX8_fault_4 : decode cX8_fault 4 = .ok (.invokevirtual 106, 3) := by decide +kernel
theorem dX8_fault_7 : decode cX8_fault 7 = .ok (.ireturn, 1) := by decide +kernel
def wtX8_fault : List Cond := .code yX8_fault cX8_fault 1 (some .int) :: (([.fieldLink RX8 32 "DriftKin" "pad" "LDriftKin$Pad;"]) ++ ((u_ws RX8 TX8 9) ++ ((wsV RX8 106 RX2 yX2_firstWrong wtX2_firstWrong) ++ [])))
theorem imX8_fault_own : ∀ w ∈ ([.fieldLink RX8 32 "DriftKin" "pad" "LDriftKin$Pad;"] : List Cond), w ∈ wtX8_fault := fun w h => List.mem_cons_of_mem _ (inl h)
theorem imX8_fault_u_X8 : ∀ w ∈ (u_ws RX8 TX8 9 : List Cond), w ∈ wtX8_fault := fun w h => List.mem_cons_of_mem _ (inr (inl h))
theorem imX8_fault_c_X2_firstWrong : ∀ w ∈ (wsV RX8 106 RX2 yX2_firstWrong wtX2_firstWrong : List Cond), w ∈ wtX8_fault := fun w h => List.mem_cons_of_mem _ (inr (inr (inl h)))
theorem gdX8_fault : ∀ w ∈ wtX8_fault, Gd w := gdc rfl (gda (gdl (by decide +kernel)) (gda (gdu _ _ _) (gda (gda (gdl (by decide +kernel)) gdX2_firstWrong) gdn)))
theorem gcX8_fault_X2_firstWrong : GoodIn wtX8_fault (wsV RX8 106 RX2 yX2_firstWrong wtX2_firstWrong) := fun w h => ⟨imX8_fault_c_X2_firstWrong w h, (gda (gdl (by decide +kernel)) gdX2_firstWrong) w h⟩
def fX8_fault (v_count : Int32) (v_signs : Nat → Int32) : Option (Int32) :=
  (fX2_firstWrong v_count v_signs).bind (fun r1 =>
    some r1)
def wdX8_fault (cI cZ : ClassId) (q0 : Nat) (q1 : Nat) (q2 : Nat) (d3 : Nat) (d4 : Nat) (d5 : Nat) (d6 : Nat) (d7 : Nat) (d8 : Nat)  (v_count : Int32) (v_signs : Nat → Int32) (v_firstKept : Int32) (v_secondKept : Int32) : va_W := [(q0, .inr (8, [.ref d3, .ref d4, .ref d5, .int v_firstKept, .int v_secondKept, .ref q1, .ref d6, .ref d7, .ref d8])), (q1, .inr (2, [.ref q2, .int v_count])), (q2, .inl (cI, 60, .inl v_signs))]
abbrev rmX8_fault : Jvm.Room := { frames := 5, cells := 0, slots := 0, locals := 105 }
theorem hyX8_fault : yX8_fault.cls ≠ "java/lang/invoke/MethodHandle" ∧ yX8_fault.cls ≠ "java/lang/invoke/VarHandle" ∧ (parseMethodDescriptor yX8_fault.desc).map (fun d => d.parameters.length) = some 0 := by decide +kernel
set_option maxHeartbeats 4000000 in
set_option maxRecDepth 100000 in
theorem mX8_fault (l : Launch) (D : va_G) (cI cZ : ClassId) (q0 : Nat) (q1 : Nat) (q2 : Nat) (d3 : Nat) (d4 : Nat) (d5 : Nat) (d6 : Nat) (d7 : Nat) (d8 : Nat) (v_count : Int32) (v_signs : Nat → Int32) (v_firstKept : Int32) (v_secondKept : Int32) (z : Int32) (hF : fX8_fault v_count v_signs = some z) : mp l yX8_fault wtX8_fault rmX8_fault D cI cZ [.ref q0] (wdX8_fault cI cZ q0 q1 q2 d3 d4 d5 d6 d7 d8 v_count v_signs v_firstKept v_secondKept) (some (.int z)) (wdX8_fault cI cZ q0 q1 q2 d3 d4 d5 d6 d7 d8 v_count v_signs v_firstKept v_secondKept) := by
  refine mp_i (lv0 := [(0, .ref q0)]) cX8_fault 1 z (by decide) rfl (Nat.le_of_ble_eq_true rfl) rfl (fun E h hend0 => ?_)
  have hend : ∀ (z' : Int32), some z' = some z → ∀ (pc : Nat) (lv : List (Nat × Value)), decode cX8_fault pc = .ok (.ireturn, 1) → G l D E 1 0 0 (wdX8_fault cI cZ q0 q1 q2 d3 d4 d5 d6 d7 d8 v_count v_signs v_firstKept v_secondKept) pc lv [.int z'] := fun z' e => by cases e; exact hend0
  clear hend0
  unfold fX8_fault at hF
  refine g_aload_n (np := 1) h 0 rfl rfl dX8_fault_0 rfl ?_
  refine g_get (np := 4) (T := TX8) h imX8_fault_u_X8 0 8 rfl rfl 5 (by decide) (imX8_fault_own _ (List.mem_of_getElem? (i := 0) rfl)) rfl dX8_fault_1 rfl ?_
  obtain ⟨r1, hr1, hF⟩ := Option.bind_eq_some_iff.mp hF
  refine g_callV (np := 7) (Wd' := (wdX8_fault cI cZ q0 q1 q2 d3 d4 d5 d6 d7 d8 v_count v_signs v_firstKept v_secondKept)) (As := []) h (mX2_firstWrong l D cI cZ q1 q2 v_count v_signs r1 hr1) gcX8_fault_X2_firstWrong rfl ⟨rfl, rfl⟩ ⟨rfl, hyX2_firstWrong⟩ rfl 2 1 rfl rfl rfl rfl rfl rfl ⟨Nat.zero_le _, Nat.zero_le _⟩ [1, 2] [0] (N := 3) (by decide +kernel) rfl rfl rfl rfl rfl dX8_fault_4 rfl ?_
  exact hend _ hF _ _ dX8_fault_7
theorem dX8_longest_0 : decode cX8_longest 0 = .ok (.iload_n 1, 1) := by decide +kernel
theorem dX8_longest_1 : decode cX8_longest 1 = .ok (.iconst 0, 1) := by decide +kernel
theorem dX8_longest_2 : decode cX8_longest 2 = .ok (.iconst 1, 1) := by decide +kernel
theorem dX8_longest_3 : decode cX8_longest 3 = .ok (.invokestatic 61, 3) := by decide +kernel
theorem dX8_longest_6 : decode cX8_longest 6 = .ok (.ifCond .ne 6, 3) := by decide +kernel
theorem dX8_longest_9 : decode cX8_longest 9 = .ok (.bipush (-2), 2) := by decide +kernel
theorem dX8_longest_11 : decode cX8_longest 11 = .ok (.ireturn, 1) := by decide +kernel
theorem dX8_longest_12 : decode cX8_longest 12 = .ok (.aload_n 0, 1) := by decide +kernel
theorem dX8_longest_13 : decode cX8_longest 13 = .ok (.getfield 46, 3) := by decide +kernel
theorem dX8_longest_16 : decode cX8_longest 16 = .ok (.aload_n 0, 1) := by decide +kernel
theorem dX8_longest_17 : decode cX8_longest 17 = .ok (.getfield 10, 3) := by decide +kernel
theorem dX8_longest_20 : decode cX8_longest 20 = .ok (.getfield 65, 3) := by decide +kernel
theorem dX8_longest_23 : decode cX8_longest 23 = .ok (.invokevirtual 157, 3) := by decide +kernel
theorem dX8_longest_26 : decode cX8_longest 26 = .ok (.aload_n 0, 1) := by decide +kernel
theorem dX8_longest_27 : decode cX8_longest 27 = .ok (.getfield 46, 3) := by decide +kernel
theorem dX8_longest_30 : decode cX8_longest 30 = .ok (.aload_n 0, 1) := by decide +kernel
theorem dX8_longest_31 : decode cX8_longest 31 = .ok (.getfield 10, 3) := by decide +kernel
theorem dX8_longest_34 : decode cX8_longest 34 = .ok (.getfield 65, 3) := by decide +kernel
theorem dX8_longest_37 : decode cX8_longest 37 = .ok (.invokevirtual 161, 3) := by decide +kernel
theorem dX8_longest_40 : decode cX8_longest 40 = .ok (.istore_n 2, 1) := by decide +kernel
theorem dX8_longest_41 : decode cX8_longest 41 = .ok (.iload_n 1, 1) := by decide +kernel
theorem dX8_longest_42 : decode cX8_longest 42 = .ok (.ifCond .ne 17, 3) := by decide +kernel
theorem dX8_longest_45 : decode cX8_longest 45 = .ok (.aload_n 0, 1) := by decide +kernel
theorem dX8_longest_46 : decode cX8_longest 46 = .ok (.getfield 10, 3) := by decide +kernel
theorem dX8_longest_49 : decode cX8_longest 49 = .ok (.getfield 65, 3) := by decide +kernel
theorem dX8_longest_52 : decode cX8_longest 52 = .ok (.iload_n 2, 1) := by decide +kernel
theorem dX8_longest_53 : decode cX8_longest 53 = .ok (.invokevirtual 165, 3) := by decide +kernel
theorem dX8_longest_56 : decode cX8_longest 56 = .ok (.goto 4, 3) := by decide +kernel
theorem dX8_longest_59 : decode cX8_longest 59 = .ok (.iload_n 2, 1) := by decide +kernel
theorem dX8_longest_60 : decode cX8_longest 60 = .ok (.ireturn, 1) := by decide +kernel
def wtX8_longest : List Cond := .code yX8_longest cX8_longest 3 (some .int) :: (([.fieldLink RX8 46 "DriftKin" "planks" "LDriftKin$Planks;", .fieldLink RX8 10 "DriftKin" "now" "LDriftKin$Shore;", .fieldLink RX8 65 "DriftKin$Shore" "pieces" "LDriftKin$Pieces;"]) ++ ((u_ws RX5 TX5 4) ++ ((u_ws RX8 TX8 9) ++ ((va_wsS RX8 61 yX8_within wtX8_within) ++ ((wsV RX8 157 RX4 yX4_lay wtX4_lay) ++ ((wsV RX8 161 RX4 yX4_longestBits wtX4_longestBits) ++ ((wsV RX8 165 RX3 yX3_lengthOf wtX3_lengthOf) ++ [])))))))
theorem imX8_longest_own : ∀ w ∈ ([.fieldLink RX8 46 "DriftKin" "planks" "LDriftKin$Planks;", .fieldLink RX8 10 "DriftKin" "now" "LDriftKin$Shore;", .fieldLink RX8 65 "DriftKin$Shore" "pieces" "LDriftKin$Pieces;"] : List Cond), w ∈ wtX8_longest := fun w h => List.mem_cons_of_mem _ (inl h)
theorem imX8_longest_u_X5 : ∀ w ∈ (u_ws RX5 TX5 4 : List Cond), w ∈ wtX8_longest := fun w h => List.mem_cons_of_mem _ (inr (inl h))
theorem imX8_longest_u_X8 : ∀ w ∈ (u_ws RX8 TX8 9 : List Cond), w ∈ wtX8_longest := fun w h => List.mem_cons_of_mem _ (inr (inr (inl h)))
theorem imX8_longest_c_X8_within : ∀ w ∈ (va_wsS RX8 61 yX8_within wtX8_within : List Cond), w ∈ wtX8_longest := fun w h => List.mem_cons_of_mem _ (inr (inr (inr (inl h))))
theorem imX8_longest_c_X4_lay : ∀ w ∈ (wsV RX8 157 RX4 yX4_lay wtX4_lay : List Cond), w ∈ wtX8_longest := fun w h => List.mem_cons_of_mem _ (inr (inr (inr (inr (inl h)))))
theorem imX8_longest_c_X4_longestBits : ∀ w ∈ (wsV RX8 161 RX4 yX4_longestBits wtX4_longestBits : List Cond), w ∈ wtX8_longest := fun w h => List.mem_cons_of_mem _ (inr (inr (inr (inr (inr (inl h))))))
theorem imX8_longest_c_X3_lengthOf : ∀ w ∈ (wsV RX8 165 RX3 yX3_lengthOf wtX3_lengthOf : List Cond), w ∈ wtX8_longest := fun w h => List.mem_cons_of_mem _ (inr (inr (inr (inr (inr (inr (inl h)))))))
theorem gdX8_longest : ∀ w ∈ wtX8_longest, Gd w := gdc rfl (gda (gdl (by decide +kernel)) (gda (gdu _ _ _) (gda (gdu _ _ _) (gda (gda (gdl (by decide +kernel)) gdX8_within) (gda (gda (gdl (by decide +kernel)) gdX4_lay) (gda (gda (gdl (by decide +kernel)) gdX4_longestBits) (gda (gda (gdl (by decide +kernel)) gdX3_lengthOf) gdn)))))))
theorem gcX8_longest_X8_within : GoodIn wtX8_longest (va_wsS RX8 61 yX8_within wtX8_within) := fun w h => ⟨imX8_longest_c_X8_within w h, (gda (gdl (by decide +kernel)) gdX8_within) w h⟩
theorem gcX8_longest_X4_lay : GoodIn wtX8_longest (wsV RX8 157 RX4 yX4_lay wtX4_lay) := fun w h => ⟨imX8_longest_c_X4_lay w h, (gda (gdl (by decide +kernel)) gdX4_lay) w h⟩
theorem gcX8_longest_X4_longestBits : GoodIn wtX8_longest (wsV RX8 161 RX4 yX4_longestBits wtX4_longestBits) := fun w h => ⟨imX8_longest_c_X4_longestBits w h, (gda (gdl (by decide +kernel)) gdX4_longestBits) w h⟩
theorem gcX8_longest_X3_lengthOf : GoodIn wtX8_longest (wsV RX8 165 RX3 yX3_lengthOf wtX3_lengthOf) := fun w h => ⟨imX8_longest_c_X3_lengthOf w h, (gda (gdl (by decide +kernel)) gdX3_lengthOf) w h⟩
def fX8_longest (v_wood : Nat → Int32) (v_length : Nat → Int32) (v_left : Nat → Int32) (v_right : Nat → Int32) (v_place : Nat → Int32) (v_usable : Int32) (v_before : Nat → Int32) (v_fewest : Nat → Int32) (v_lasts : Nat → Int32) (x1 : Int32) : Option (Int32 × Int32 × (Nat → Int32) × (Nat → Int32) × (Nat → Int32)) :=
  (fX8_within x1 (0 : Int32) (1 : Int32)).bind (fun r1 =>
    if r1 = (0 : Int32) then
      some ((-2 : Int32), v_usable, v_before, v_fewest, v_lasts)
    else
      (fX4_lay v_usable v_before v_fewest v_lasts v_wood v_left v_right v_place).bind (fun r3 =>
        (fX4_longestBits r3.1 r3.2.2.1 v_length).bind (fun r4 =>
          if x1 = (0 : Int32) then
            (fX3_lengthOf v_length r4).bind (fun r6 =>
              some (r6, r3.1, r3.2.1, r3.2.2.1, r3.2.2.2))
          else
            some (r4, r3.1, r3.2.1, r3.2.2.1, r3.2.2.2))))
def wdX8_longest (cI cZ : ClassId) (q0 : Nat) (q1 : Nat) (q2 : Nat) (q3 : Nat) (q4 : Nat) (q5 : Nat) (q6 : Nat) (q7 : Nat) (q8 : Nat) (q9 : Nat) (q10 : Nat) (q11 : Nat) (d12 : Nat) (d13 : Nat) (d14 : Nat) (d15 : Nat) (d16 : Nat) (d17 : Nat) (d18 : Nat) (d19 : Nat) (d20 : Nat)  (v_wood : Nat → Int32) (v_length : Nat → Int32) (v_left : Nat → Int32) (v_right : Nat → Int32) (v_place : Nat → Int32) (v_usable : Int32) (v_before : Nat → Int32) (v_fewest : Nat → Int32) (v_lasts : Nat → Int32) (v_firstKept : Int32) (v_secondKept : Int32) (v_year : Int32) : va_W := [(q0, .inr (8, [.ref q1, .ref d12, .ref d13, .int v_firstKept, .int v_secondKept, .ref d14, .ref d15, .ref q8, .ref d16])), (q1, .inr (5, [.ref q2, .ref d17, .ref d18, .int v_year])), (q2, .inr (3, [.ref d19, .ref q3, .ref q4, .ref q5, .ref q6, .ref q7, .ref d20])), (q3, .inl (cI, 10, .inl v_wood)), (q4, .inl (cI, 10, .inl v_length)), (q5, .inl (cI, 10, .inl v_left)), (q6, .inl (cI, 10, .inl v_right)), (q7, .inl (cI, 10, .inl v_place)), (q8, .inr (4, [.ref q9, .ref q10, .ref q11, .int v_usable])), (q9, .inl (cI, 10, .inl v_before)), (q10, .inl (cI, 1024, .inl v_fewest)), (q11, .inl (cI, 1024, .inl v_lasts))]
abbrev rmX8_longest : Jvm.Room := { frames := 4, cells := 0, slots := 0, locals := 90 }
theorem hyX8_longest : yX8_longest.cls ≠ "java/lang/invoke/MethodHandle" ∧ yX8_longest.cls ≠ "java/lang/invoke/VarHandle" ∧ (parseMethodDescriptor yX8_longest.desc).map (fun d => d.parameters.length) = some 1 := by decide +kernel
set_option maxHeartbeats 4000000 in
set_option maxRecDepth 100000 in
theorem mX8_longest (l : Launch) (D : va_G) (cI cZ : ClassId) (q0 : Nat) (q1 : Nat) (q2 : Nat) (q3 : Nat) (q4 : Nat) (q5 : Nat) (q6 : Nat) (q7 : Nat) (q8 : Nat) (q9 : Nat) (q10 : Nat) (q11 : Nat) (d12 : Nat) (d13 : Nat) (d14 : Nat) (d15 : Nat) (d16 : Nat) (d17 : Nat) (d18 : Nat) (d19 : Nat) (d20 : Nat) (v_wood : Nat → Int32) (v_length : Nat → Int32) (v_left : Nat → Int32) (v_right : Nat → Int32) (v_place : Nat → Int32) (v_usable : Int32) (v_before : Nat → Int32) (v_fewest : Nat → Int32) (v_lasts : Nat → Int32) (v_firstKept : Int32) (v_secondKept : Int32) (v_year : Int32) (x1 : Int32) (z : Int32 × Int32 × (Nat → Int32) × (Nat → Int32) × (Nat → Int32)) (hF : fX8_longest v_wood v_length v_left v_right v_place v_usable v_before v_fewest v_lasts x1 = some z) : mp l yX8_longest wtX8_longest rmX8_longest D cI cZ [.ref q0, .int x1] (wdX8_longest cI cZ q0 q1 q2 q3 q4 q5 q6 q7 q8 q9 q10 q11 d12 d13 d14 d15 d16 d17 d18 d19 d20 v_wood v_length v_left v_right v_place v_usable v_before v_fewest v_lasts v_firstKept v_secondKept v_year) (some (.int z.1)) (wdX8_longest cI cZ q0 q1 q2 q3 q4 q5 q6 q7 q8 q9 q10 q11 d12 d13 d14 d15 d16 d17 d18 d19 d20 v_wood v_length v_left v_right v_place z.2.1 z.2.2.1 z.2.2.2.1 z.2.2.2.2 v_firstKept v_secondKept v_year) := by
  refine mp_i (lv0 := [(0, .ref q0), (1, .int x1)]) cX8_longest 3 z.1 (by decide) rfl (Nat.le_of_ble_eq_true rfl) rfl (fun E h hend0 => ?_)
  have hend : ∀ (z' : Int32 × Int32 × (Nat → Int32) × (Nat → Int32) × (Nat → Int32)), some z' = some z → ∀ (pc : Nat) (lv : List (Nat × Value)), decode cX8_longest pc = .ok (.ireturn, 1) → G l D E 3 0 0 (wdX8_longest cI cZ q0 q1 q2 q3 q4 q5 q6 q7 q8 q9 q10 q11 d12 d13 d14 d15 d16 d17 d18 d19 d20 v_wood v_length v_left v_right v_place (z'.2.1) (z'.2.2.1) (z'.2.2.2.1) (z'.2.2.2.2) v_firstKept v_secondKept v_year) pc lv [.int z'.1] := fun z' e => by cases e; exact hend0
  clear hend0
  unfold fX8_longest at hF
  refine g_iload_n (np := 1) h 1 rfl rfl dX8_longest_0 rfl ?_
  refine g_iconst (np := 2) (v := (0 : Int32)) h (by decide) dX8_longest_1 rfl ?_
  refine g_iconst (np := 3) (v := (1 : Int32)) h (by decide) dX8_longest_2 rfl ?_
  obtain ⟨r1, hr1, hF⟩ := Option.bind_eq_some_iff.mp hF
  refine g_callS (np := 6) (Wd' := (wdX8_longest cI cZ q0 q1 q2 q3 q4 q5 q6 q7 q8 q9 q10 q11 d12 d13 d14 d15 d16 d17 d18 d19 d20 v_wood v_length v_left v_right v_place v_usable v_before v_fewest v_lasts v_firstKept v_secondKept v_year)) (As := [.int x1, .int (0 : Int32), .int (1 : Int32)]) h (mX8_within l D cI cZ x1 (0 : Int32) (1 : Int32) r1 hr1) gcX8_longest_X8_within rfl ⟨rfl, rfl⟩ hyX8_within rfl rfl rfl rfl ⟨Nat.zero_le _, Nat.zero_le _⟩ [] [0, 1, 2, 3, 4, 5, 6, 7, 8, 9, 10, 11] (N := 12) (by decide +kernel) rfl rfl rfl rfl rfl dX8_longest_3 rfl ?_
  refine g_if_ne h hF dX8_longest_6 (np := 9) rfl (tg := 12) rfl (fun c2 hF => ?_) (fun c2 hF => ?_)
  · refine g_aload_n (np := 13) h 0 rfl rfl dX8_longest_12 rfl ?_
    refine g_get (np := 16) (T := TX8) h imX8_longest_u_X8 0 8 rfl rfl 7 (by decide) (imX8_longest_own _ (List.mem_of_getElem? (i := 0) rfl)) rfl dX8_longest_13 rfl ?_
    refine g_aload_n (np := 17) h 0 rfl rfl dX8_longest_16 rfl ?_
    refine g_get (np := 20) (T := TX8) h imX8_longest_u_X8 0 8 rfl rfl 0 (by decide) (imX8_longest_own _ (List.mem_of_getElem? (i := 1) rfl)) rfl dX8_longest_17 rfl ?_
    refine g_get (np := 23) (T := TX5) h imX8_longest_u_X5 1 5 rfl rfl 0 (by decide) (imX8_longest_own _ (List.mem_of_getElem? (i := 2) rfl)) rfl dX8_longest_20 rfl ?_
    obtain ⟨r3, hr3, hF⟩ := Option.bind_eq_some_iff.mp hF
    refine g_callV (np := 26) (Wd' := (wdX8_longest cI cZ q0 q1 q2 q3 q4 q5 q6 q7 q8 q9 q10 q11 d12 d13 d14 d15 d16 d17 d18 d19 d20 v_wood v_length v_left v_right v_place r3.1 r3.2.1 r3.2.2.1 r3.2.2.2 v_firstKept v_secondKept v_year)) (As := [.ref q2]) h (mX4_lay l D cI cZ q8 q9 q10 q11 q2 q3 q5 q6 q7 d19 q4 d20 v_usable v_before v_fewest v_lasts v_wood v_left v_right v_place r3 hr3) gcX8_longest_X4_lay rfl ⟨rfl, rfl⟩ ⟨rfl, hyX4_lay⟩ rfl 4 8 rfl rfl rfl rfl rfl rfl ⟨Nat.zero_le _, Nat.zero_le _⟩ [8, 9, 10, 11, 2, 3, 5, 6, 7] [0, 1, 4] (N := 12) (by decide +kernel) rfl rfl rfl rfl rfl dX8_longest_23 rfl ?_
    refine g_aload_n (np := 27) h 0 rfl rfl dX8_longest_26 rfl ?_
    refine g_get (np := 30) (T := TX8) h imX8_longest_u_X8 0 8 rfl rfl 7 (by decide) (imX8_longest_own _ (List.mem_of_getElem? (i := 0) rfl)) rfl dX8_longest_27 rfl ?_
    refine g_aload_n (np := 31) h 0 rfl rfl dX8_longest_30 rfl ?_
    refine g_get (np := 34) (T := TX8) h imX8_longest_u_X8 0 8 rfl rfl 0 (by decide) (imX8_longest_own _ (List.mem_of_getElem? (i := 1) rfl)) rfl dX8_longest_31 rfl ?_
    refine g_get (np := 37) (T := TX5) h imX8_longest_u_X5 1 5 rfl rfl 0 (by decide) (imX8_longest_own _ (List.mem_of_getElem? (i := 2) rfl)) rfl dX8_longest_34 rfl ?_
    obtain ⟨r4, hr4, hF⟩ := Option.bind_eq_some_iff.mp hF
    refine g_callV (np := 40) (Wd' := (wdX8_longest cI cZ q0 q1 q2 q3 q4 q5 q6 q7 q8 q9 q10 q11 d12 d13 d14 d15 d16 d17 d18 d19 d20 v_wood v_length v_left v_right v_place r3.1 r3.2.1 r3.2.2.1 r3.2.2.2 v_firstKept v_secondKept v_year)) (As := [.ref q2]) h (mX4_longestBits l D cI cZ q8 q10 q2 q4 q9 q11 d19 q3 q5 q6 q7 d20 r3.1 r3.2.2.1 v_length r4 hr4) gcX8_longest_X4_longestBits rfl ⟨rfl, rfl⟩ ⟨rfl, hyX4_longestBits⟩ rfl 4 8 rfl rfl rfl rfl rfl rfl ⟨Nat.zero_le _, Nat.zero_le _⟩ [8, 10, 2, 4] [0, 1, 3, 5, 6, 7, 9, 11] (N := 12) (by decide +kernel) rfl rfl rfl rfl rfl dX8_longest_37 rfl ?_
    refine g_istore_n (np := 41) (lv' := [(2, .int r4), (0, .ref q0), (1, .int x1)]) h rfl (by decide) rfl dX8_longest_40 rfl ?_
    refine g_iload_n (np := 42) h 2 rfl rfl dX8_longest_41 rfl ?_
    refine g_if_ne h hF dX8_longest_42 (np := 45) rfl (tg := 59) rfl (fun c5 hF => ?_) (fun c5 hF => ?_)
    · refine g_iload_n (np := 60) h 0 rfl rfl dX8_longest_59 rfl ?_
      exact hend _ hF _ _ dX8_longest_60
    · refine g_aload_n (np := 46) h 1 rfl rfl dX8_longest_45 rfl ?_
      refine g_get (np := 49) (T := TX8) h imX8_longest_u_X8 0 8 rfl rfl 0 (by decide) (imX8_longest_own _ (List.mem_of_getElem? (i := 1) rfl)) rfl dX8_longest_46 rfl ?_
      refine g_get (np := 52) (T := TX5) h imX8_longest_u_X5 1 5 rfl rfl 0 (by decide) (imX8_longest_own _ (List.mem_of_getElem? (i := 2) rfl)) rfl dX8_longest_49 rfl ?_
      refine g_iload_n (np := 53) h 0 rfl rfl dX8_longest_52 rfl ?_
      obtain ⟨r6, hr6, hF⟩ := Option.bind_eq_some_iff.mp hF
      refine g_callV (np := 56) (Wd' := (wdX8_longest cI cZ q0 q1 q2 q3 q4 q5 q6 q7 q8 q9 q10 q11 d12 d13 d14 d15 d16 d17 d18 d19 d20 v_wood v_length v_left v_right v_place r3.1 r3.2.1 r3.2.2.1 r3.2.2.2 v_firstKept v_secondKept v_year)) (As := [.int r4]) h (mX3_lengthOf l D cI cZ q2 q4 d19 q3 q5 q6 q7 d20 v_length r4 r6 hr6) gcX8_longest_X3_lengthOf rfl ⟨rfl, rfl⟩ ⟨rfl, hyX3_lengthOf⟩ rfl 3 2 rfl rfl rfl rfl rfl rfl ⟨Nat.zero_le _, Nat.zero_le _⟩ [2, 4] [0, 1, 3, 5, 6, 7, 8, 9, 10, 11] (N := 12) (by decide +kernel) rfl rfl rfl rfl rfl dX8_longest_53 rfl ?_
      refine g_goto h dX8_longest_56 (np := 60) rfl ?_
      exact hend _ hF _ _ dX8_longest_60
  · refine g_bipush (np := 11) (v := (-2 : Int32)) h (by decide) dX8_longest_9 rfl ?_
    exact hend _ hF _ _ dX8_longest_11
theorem dX8_deck_0 : decode cX8_deck 0 = .ok (.aload_n 0, 1) := by decide +kernel
theorem dX8_deck_1 : decode cX8_deck 1 = .ok (.getfield 46, 3) := by decide +kernel
theorem dX8_deck_4 : decode cX8_deck 4 = .ok (.aload_n 0, 1) := by decide +kernel
theorem dX8_deck_5 : decode cX8_deck 5 = .ok (.getfield 10, 3) := by decide +kernel
theorem dX8_deck_8 : decode cX8_deck 8 = .ok (.getfield 65, 3) := by decide +kernel
theorem dX8_deck_11 : decode cX8_deck 11 = .ok (.invokevirtual 157, 3) := by decide +kernel
theorem dX8_deck_14 : decode cX8_deck 14 = .ok (.aload_n 0, 1) := by decide +kernel
theorem dX8_deck_15 : decode cX8_deck 15 = .ok (.getfield 46, 3) := by decide +kernel
theorem dX8_deck_18 : decode cX8_deck 18 = .ok (.getfield 168, 3) := by decide +kernel
theorem dX8_deck_21 : decode cX8_deck 21 = .ok (.aload_n 0, 1) := by decide +kernel
theorem dX8_deck_22 : decode cX8_deck 22 = .ok (.getfield 10, 3) := by decide +kernel
theorem dX8_deck_25 : decode cX8_deck 25 = .ok (.getfield 65, 3) := by decide +kernel
theorem dX8_deck_28 : decode cX8_deck 28 = .ok (.invokevirtual 171, 3) := by decide +kernel
theorem dX8_deck_31 : decode cX8_deck 31 = .ok (.invokestatic 75, 3) := by decide +kernel
theorem dX8_deck_34 : decode cX8_deck 34 = .ok (.ireturn, 1) := by decide +kernel
def wtX8_deck : List Cond := .code yX8_deck cX8_deck 1 (some .int) :: (([.fieldLink RX8 46 "DriftKin" "planks" "LDriftKin$Planks;", .fieldLink RX8 10 "DriftKin" "now" "LDriftKin$Shore;", .fieldLink RX8 65 "DriftKin$Shore" "pieces" "LDriftKin$Pieces;", .fieldLink RX8 168 "DriftKin$Planks" "fewest" "[I"]) ++ ((u_ws RX4 TX4 4) ++ ((u_ws RX5 TX5 4) ++ ((u_ws RX8 TX8 9) ++ ((wsV RX8 157 RX4 yX4_lay wtX4_lay) ++ ((wsV RX8 171 RX3 yX3_bitsNotBurnt wtX3_bitsNotBurnt) ++ ((va_wsS RX8 75 yX8_at wtX8_at) ++ [])))))))
theorem imX8_deck_own : ∀ w ∈ ([.fieldLink RX8 46 "DriftKin" "planks" "LDriftKin$Planks;", .fieldLink RX8 10 "DriftKin" "now" "LDriftKin$Shore;", .fieldLink RX8 65 "DriftKin$Shore" "pieces" "LDriftKin$Pieces;", .fieldLink RX8 168 "DriftKin$Planks" "fewest" "[I"] : List Cond), w ∈ wtX8_deck := fun w h => List.mem_cons_of_mem _ (inl h)
theorem imX8_deck_u_X4 : ∀ w ∈ (u_ws RX4 TX4 4 : List Cond), w ∈ wtX8_deck := fun w h => List.mem_cons_of_mem _ (inr (inl h))
theorem imX8_deck_u_X5 : ∀ w ∈ (u_ws RX5 TX5 4 : List Cond), w ∈ wtX8_deck := fun w h => List.mem_cons_of_mem _ (inr (inr (inl h)))
theorem imX8_deck_u_X8 : ∀ w ∈ (u_ws RX8 TX8 9 : List Cond), w ∈ wtX8_deck := fun w h => List.mem_cons_of_mem _ (inr (inr (inr (inl h))))
theorem imX8_deck_c_X4_lay : ∀ w ∈ (wsV RX8 157 RX4 yX4_lay wtX4_lay : List Cond), w ∈ wtX8_deck := fun w h => List.mem_cons_of_mem _ (inr (inr (inr (inr (inl h)))))
theorem imX8_deck_c_X3_bitsNotBurnt : ∀ w ∈ (wsV RX8 171 RX3 yX3_bitsNotBurnt wtX3_bitsNotBurnt : List Cond), w ∈ wtX8_deck := fun w h => List.mem_cons_of_mem _ (inr (inr (inr (inr (inr (inl h))))))
theorem imX8_deck_c_X8_at : ∀ w ∈ (va_wsS RX8 75 yX8_at wtX8_at : List Cond), w ∈ wtX8_deck := fun w h => List.mem_cons_of_mem _ (inr (inr (inr (inr (inr (inr (inl h)))))))
theorem gdX8_deck : ∀ w ∈ wtX8_deck, Gd w := gdc rfl (gda (gdl (by decide +kernel)) (gda (gdu _ _ _) (gda (gdu _ _ _) (gda (gdu _ _ _) (gda (gda (gdl (by decide +kernel)) gdX4_lay) (gda (gda (gdl (by decide +kernel)) gdX3_bitsNotBurnt) (gda (gda (gdl (by decide +kernel)) gdX8_at) gdn)))))))
theorem gcX8_deck_X4_lay : GoodIn wtX8_deck (wsV RX8 157 RX4 yX4_lay wtX4_lay) := fun w h => ⟨imX8_deck_c_X4_lay w h, (gda (gdl (by decide +kernel)) gdX4_lay) w h⟩
theorem gcX8_deck_X3_bitsNotBurnt : GoodIn wtX8_deck (wsV RX8 171 RX3 yX3_bitsNotBurnt wtX3_bitsNotBurnt) := fun w h => ⟨imX8_deck_c_X3_bitsNotBurnt w h, (gda (gdl (by decide +kernel)) gdX3_bitsNotBurnt) w h⟩
theorem gcX8_deck_X8_at : GoodIn wtX8_deck (va_wsS RX8 75 yX8_at wtX8_at) := fun w h => ⟨imX8_deck_c_X8_at w h, (gda (gdl (by decide +kernel)) gdX8_at) w h⟩
def fX8_deck (v_wood : Nat → Int32) (v_left : Nat → Int32) (v_right : Nat → Int32) (v_place : Nat → Int32) (v_usable : Int32) (v_before : Nat → Int32) (v_fewest : Nat → Int32) (v_lasts : Nat → Int32) : Option (Int32 × Int32 × (Nat → Int32) × (Nat → Int32) × (Nat → Int32)) :=
  (fX4_lay v_usable v_before v_fewest v_lasts v_wood v_left v_right v_place).bind (fun r1 =>
    (fX3_bitsNotBurnt v_place).bind (fun r2 =>
      (fX8_at 1024 r1.2.2.1 r2).bind (fun r3 =>
        some (r3, r1.1, r1.2.1, r1.2.2.1, r1.2.2.2))))
def wdX8_deck (cI cZ : ClassId) (q0 : Nat) (q1 : Nat) (q2 : Nat) (q3 : Nat) (q4 : Nat) (q5 : Nat) (q6 : Nat) (q7 : Nat) (q8 : Nat) (q9 : Nat) (q10 : Nat) (d11 : Nat) (d12 : Nat) (d13 : Nat) (d14 : Nat) (d15 : Nat) (d16 : Nat) (d17 : Nat) (d18 : Nat) (d19 : Nat) (d20 : Nat)  (v_wood : Nat → Int32) (v_left : Nat → Int32) (v_right : Nat → Int32) (v_place : Nat → Int32) (v_usable : Int32) (v_before : Nat → Int32) (v_fewest : Nat → Int32) (v_lasts : Nat → Int32) (v_firstKept : Int32) (v_secondKept : Int32) (v_year : Int32) : va_W := [(q0, .inr (8, [.ref q1, .ref d11, .ref d12, .int v_firstKept, .int v_secondKept, .ref d13, .ref d14, .ref q7, .ref d15])), (q1, .inr (5, [.ref q2, .ref d16, .ref d17, .int v_year])), (q2, .inr (3, [.ref d18, .ref q3, .ref d19, .ref q4, .ref q5, .ref q6, .ref d20])), (q3, .inl (cI, 10, .inl v_wood)), (q4, .inl (cI, 10, .inl v_left)), (q5, .inl (cI, 10, .inl v_right)), (q6, .inl (cI, 10, .inl v_place)), (q7, .inr (4, [.ref q8, .ref q9, .ref q10, .int v_usable])), (q8, .inl (cI, 10, .inl v_before)), (q9, .inl (cI, 1024, .inl v_fewest)), (q10, .inl (cI, 1024, .inl v_lasts))]
abbrev rmX8_deck : Jvm.Room := { frames := 4, cells := 0, slots := 0, locals := 90 }
theorem hyX8_deck : yX8_deck.cls ≠ "java/lang/invoke/MethodHandle" ∧ yX8_deck.cls ≠ "java/lang/invoke/VarHandle" ∧ (parseMethodDescriptor yX8_deck.desc).map (fun d => d.parameters.length) = some 0 := by decide +kernel
set_option maxHeartbeats 4000000 in
set_option maxRecDepth 100000 in
theorem mX8_deck (l : Launch) (D : va_G) (cI cZ : ClassId) (q0 : Nat) (q1 : Nat) (q2 : Nat) (q3 : Nat) (q4 : Nat) (q5 : Nat) (q6 : Nat) (q7 : Nat) (q8 : Nat) (q9 : Nat) (q10 : Nat) (d11 : Nat) (d12 : Nat) (d13 : Nat) (d14 : Nat) (d15 : Nat) (d16 : Nat) (d17 : Nat) (d18 : Nat) (d19 : Nat) (d20 : Nat) (v_wood : Nat → Int32) (v_left : Nat → Int32) (v_right : Nat → Int32) (v_place : Nat → Int32) (v_usable : Int32) (v_before : Nat → Int32) (v_fewest : Nat → Int32) (v_lasts : Nat → Int32) (v_firstKept : Int32) (v_secondKept : Int32) (v_year : Int32) (z : Int32 × Int32 × (Nat → Int32) × (Nat → Int32) × (Nat → Int32)) (hF : fX8_deck v_wood v_left v_right v_place v_usable v_before v_fewest v_lasts = some z) : mp l yX8_deck wtX8_deck rmX8_deck D cI cZ [.ref q0] (wdX8_deck cI cZ q0 q1 q2 q3 q4 q5 q6 q7 q8 q9 q10 d11 d12 d13 d14 d15 d16 d17 d18 d19 d20 v_wood v_left v_right v_place v_usable v_before v_fewest v_lasts v_firstKept v_secondKept v_year) (some (.int z.1)) (wdX8_deck cI cZ q0 q1 q2 q3 q4 q5 q6 q7 q8 q9 q10 d11 d12 d13 d14 d15 d16 d17 d18 d19 d20 v_wood v_left v_right v_place z.2.1 z.2.2.1 z.2.2.2.1 z.2.2.2.2 v_firstKept v_secondKept v_year) := by
  refine mp_i (lv0 := [(0, .ref q0)]) cX8_deck 1 z.1 (by decide) rfl (Nat.le_of_ble_eq_true rfl) rfl (fun E h hend0 => ?_)
  have hend : ∀ (z' : Int32 × Int32 × (Nat → Int32) × (Nat → Int32) × (Nat → Int32)), some z' = some z → ∀ (pc : Nat) (lv : List (Nat × Value)), decode cX8_deck pc = .ok (.ireturn, 1) → G l D E 1 0 0 (wdX8_deck cI cZ q0 q1 q2 q3 q4 q5 q6 q7 q8 q9 q10 d11 d12 d13 d14 d15 d16 d17 d18 d19 d20 v_wood v_left v_right v_place (z'.2.1) (z'.2.2.1) (z'.2.2.2.1) (z'.2.2.2.2) v_firstKept v_secondKept v_year) pc lv [.int z'.1] := fun z' e => by cases e; exact hend0
  clear hend0
  unfold fX8_deck at hF
  refine g_aload_n (np := 1) h 0 rfl rfl dX8_deck_0 rfl ?_
  refine g_get (np := 4) (T := TX8) h imX8_deck_u_X8 0 8 rfl rfl 7 (by decide) (imX8_deck_own _ (List.mem_of_getElem? (i := 0) rfl)) rfl dX8_deck_1 rfl ?_
  refine g_aload_n (np := 5) h 0 rfl rfl dX8_deck_4 rfl ?_
  refine g_get (np := 8) (T := TX8) h imX8_deck_u_X8 0 8 rfl rfl 0 (by decide) (imX8_deck_own _ (List.mem_of_getElem? (i := 1) rfl)) rfl dX8_deck_5 rfl ?_
  refine g_get (np := 11) (T := TX5) h imX8_deck_u_X5 1 5 rfl rfl 0 (by decide) (imX8_deck_own _ (List.mem_of_getElem? (i := 2) rfl)) rfl dX8_deck_8 rfl ?_
  obtain ⟨r1, hr1, hF⟩ := Option.bind_eq_some_iff.mp hF
  refine g_callV (np := 14) (Wd' := (wdX8_deck cI cZ q0 q1 q2 q3 q4 q5 q6 q7 q8 q9 q10 d11 d12 d13 d14 d15 d16 d17 d18 d19 d20 v_wood v_left v_right v_place r1.1 r1.2.1 r1.2.2.1 r1.2.2.2 v_firstKept v_secondKept v_year)) (As := [.ref q2]) h (mX4_lay l D cI cZ q7 q8 q9 q10 q2 q3 q4 q5 q6 d18 d19 d20 v_usable v_before v_fewest v_lasts v_wood v_left v_right v_place r1 hr1) gcX8_deck_X4_lay rfl ⟨rfl, rfl⟩ ⟨rfl, hyX4_lay⟩ rfl 4 7 rfl rfl rfl rfl rfl rfl ⟨Nat.zero_le _, Nat.zero_le _⟩ [7, 8, 9, 10, 2, 3, 4, 5, 6] [0, 1] (N := 11) (by decide +kernel) rfl rfl rfl rfl rfl dX8_deck_11 rfl ?_
  refine g_aload_n (np := 15) h 0 rfl rfl dX8_deck_14 rfl ?_
  refine g_get (np := 18) (T := TX8) h imX8_deck_u_X8 0 8 rfl rfl 7 (by decide) (imX8_deck_own _ (List.mem_of_getElem? (i := 0) rfl)) rfl dX8_deck_15 rfl ?_
  refine g_get (np := 21) (T := TX4) h imX8_deck_u_X4 7 4 rfl rfl 1 (by decide) (imX8_deck_own _ (List.mem_of_getElem? (i := 3) rfl)) rfl dX8_deck_18 rfl ?_
  refine g_aload_n (np := 22) h 0 rfl rfl dX8_deck_21 rfl ?_
  refine g_get (np := 25) (T := TX8) h imX8_deck_u_X8 0 8 rfl rfl 0 (by decide) (imX8_deck_own _ (List.mem_of_getElem? (i := 1) rfl)) rfl dX8_deck_22 rfl ?_
  refine g_get (np := 28) (T := TX5) h imX8_deck_u_X5 1 5 rfl rfl 0 (by decide) (imX8_deck_own _ (List.mem_of_getElem? (i := 2) rfl)) rfl dX8_deck_25 rfl ?_
  obtain ⟨r2, hr2, hF⟩ := Option.bind_eq_some_iff.mp hF
  refine g_callV (np := 31) (Wd' := (wdX8_deck cI cZ q0 q1 q2 q3 q4 q5 q6 q7 q8 q9 q10 d11 d12 d13 d14 d15 d16 d17 d18 d19 d20 v_wood v_left v_right v_place r1.1 r1.2.1 r1.2.2.1 r1.2.2.2 v_firstKept v_secondKept v_year)) (As := []) h (mX3_bitsNotBurnt l D cI cZ q2 q6 d18 q3 d19 q4 q5 d20 v_place r2 hr2) gcX8_deck_X3_bitsNotBurnt rfl ⟨rfl, rfl⟩ ⟨rfl, hyX3_bitsNotBurnt⟩ rfl 3 2 rfl rfl rfl rfl rfl rfl ⟨Nat.zero_le _, Nat.zero_le _⟩ [2, 6] [0, 1, 3, 4, 5, 7, 8, 9, 10] (N := 11) (by decide +kernel) rfl rfl rfl rfl rfl dX8_deck_28 rfl ?_
  obtain ⟨r3, hr3, hF⟩ := Option.bind_eq_some_iff.mp hF
  refine g_callS (np := 34) (Wd' := (wdX8_deck cI cZ q0 q1 q2 q3 q4 q5 q6 q7 q8 q9 q10 d11 d12 d13 d14 d15 d16 d17 d18 d19 d20 v_wood v_left v_right v_place r1.1 r1.2.1 r1.2.2.1 r1.2.2.2 v_firstKept v_secondKept v_year)) (As := [.ref q9, .int r2]) h (mX8_at l D cI cZ q9 1024 r1.2.2.1 r2 r3 hr3) gcX8_deck_X8_at rfl ⟨rfl, rfl⟩ hyX8_at rfl rfl rfl rfl ⟨Nat.zero_le _, Nat.zero_le _⟩ [9] [0, 1, 2, 3, 4, 5, 6, 7, 8, 10] (N := 11) (by decide +kernel) rfl rfl rfl rfl rfl dX8_deck_31 rfl ?_
  exact hend _ hF _ _ dX8_deck_34
theorem dX8_same_0 : decode cX8_same 0 = .ok (.iload_n 1, 1) := by decide +kernel
theorem dX8_same_1 : decode cX8_same 1 = .ok (.invokestatic 57, 3) := by decide +kernel
theorem dX8_same_4 : decode cX8_same 4 = .ok (.ifCond .eq 10, 3) := by decide +kernel
theorem dX8_same_7 : decode cX8_same 7 = .ok (.iload_n 2, 1) := by decide +kernel
theorem dX8_same_8 : decode cX8_same 8 = .ok (.invokestatic 57, 3) := by decide +kernel
theorem dX8_same_11 : decode cX8_same 11 = .ok (.ifCond .ne 5, 3) := by decide +kernel
theorem dX8_same_14 : decode cX8_same 14 = .ok (.iconst (-1), 1) := by decide +kernel
theorem dX8_same_15 : decode cX8_same 15 = .ok (.ireturn, 1) := by decide +kernel
theorem dX8_same_16 : decode cX8_same 16 = .ok (.iload_n 3, 1) := by decide +kernel
theorem dX8_same_17 : decode cX8_same 17 = .ok (.bipush (-5), 2) := by decide +kernel
theorem dX8_same_19 : decode cX8_same 19 = .ok (.iconst 5, 1) := by decide +kernel
theorem dX8_same_20 : decode cX8_same 20 = .ok (.invokestatic 61, 3) := by decide +kernel
theorem dX8_same_23 : decode cX8_same 23 = .ok (.ifCond .ne 6, 3) := by decide +kernel
theorem dX8_same_26 : decode cX8_same 26 = .ok (.bipush (-2), 2) := by decide +kernel
theorem dX8_same_28 : decode cX8_same 28 = .ok (.ireturn, 1) := by decide +kernel
theorem dX8_same_29 : decode cX8_same 29 = .ok (.aload_n 0, 1) := by decide +kernel
theorem dX8_same_30 : decode cX8_same 30 = .ok (.getfield 10, 3) := by decide +kernel
theorem dX8_same_33 : decode cX8_same 33 = .ok (.getfield 65, 3) := by decide +kernel
theorem dX8_same_36 : decode cX8_same 36 = .ok (.getfield 96, 3) := by decide +kernel
theorem dX8_same_39 : decode cX8_same 39 = .ok (.iload_n 1, 1) := by decide +kernel
theorem dX8_same_40 : decode cX8_same 40 = .ok (.invokestatic 75, 3) := by decide +kernel
theorem dX8_same_43 : decode cX8_same 43 = .ok (.aload_n 0, 1) := by decide +kernel
theorem dX8_same_44 : decode cX8_same 44 = .ok (.getfield 10, 3) := by decide +kernel
theorem dX8_same_47 : decode cX8_same 47 = .ok (.getfield 65, 3) := by decide +kernel
theorem dX8_same_50 : decode cX8_same 50 = .ok (.getfield 96, 3) := by decide +kernel
theorem dX8_same_53 : decode cX8_same 53 = .ok (.iload_n 2, 1) := by decide +kernel
theorem dX8_same_54 : decode cX8_same 54 = .ok (.invokestatic 75, 3) := by decide +kernel
theorem dX8_same_57 : decode cX8_same 57 = .ok (.iload_n 3, 1) := by decide +kernel
theorem dX8_same_58 : decode cX8_same 58 = .ok (.invokestatic 174, 3) := by decide +kernel
theorem dX8_same_61 : decode cX8_same 61 = .ok (.ireturn, 1) := by decide +kernel
def wtX8_same : List Cond := .code yX8_same cX8_same 4 (some .int) :: (([.fieldLink RX8 10 "DriftKin" "now" "LDriftKin$Shore;", .fieldLink RX8 65 "DriftKin$Shore" "pieces" "LDriftKin$Pieces;", .fieldLink RX8 96 "DriftKin$Pieces" "rings" "[I"]) ++ ((u_ws RX3 TX3 7) ++ ((u_ws RX5 TX5 4) ++ ((u_ws RX8 TX8 9) ++ ((va_wsS RX8 57 yX8_isPiece wtX8_isPiece) ++ ((va_wsS RX8 61 yX8_within wtX8_within) ++ ((va_wsS RX8 75 yX8_at wtX8_at) ++ ((va_wsS RX8 174 yX8_alike wtX8_alike) ++ []))))))))
theorem imX8_same_own : ∀ w ∈ ([.fieldLink RX8 10 "DriftKin" "now" "LDriftKin$Shore;", .fieldLink RX8 65 "DriftKin$Shore" "pieces" "LDriftKin$Pieces;", .fieldLink RX8 96 "DriftKin$Pieces" "rings" "[I"] : List Cond), w ∈ wtX8_same := fun w h => List.mem_cons_of_mem _ (inl h)
theorem imX8_same_u_X3 : ∀ w ∈ (u_ws RX3 TX3 7 : List Cond), w ∈ wtX8_same := fun w h => List.mem_cons_of_mem _ (inr (inl h))
theorem imX8_same_u_X5 : ∀ w ∈ (u_ws RX5 TX5 4 : List Cond), w ∈ wtX8_same := fun w h => List.mem_cons_of_mem _ (inr (inr (inl h)))
theorem imX8_same_u_X8 : ∀ w ∈ (u_ws RX8 TX8 9 : List Cond), w ∈ wtX8_same := fun w h => List.mem_cons_of_mem _ (inr (inr (inr (inl h))))
theorem imX8_same_c_X8_isPiece : ∀ w ∈ (va_wsS RX8 57 yX8_isPiece wtX8_isPiece : List Cond), w ∈ wtX8_same := fun w h => List.mem_cons_of_mem _ (inr (inr (inr (inr (inl h)))))
theorem imX8_same_c_X8_within : ∀ w ∈ (va_wsS RX8 61 yX8_within wtX8_within : List Cond), w ∈ wtX8_same := fun w h => List.mem_cons_of_mem _ (inr (inr (inr (inr (inr (inl h))))))
theorem imX8_same_c_X8_at : ∀ w ∈ (va_wsS RX8 75 yX8_at wtX8_at : List Cond), w ∈ wtX8_same := fun w h => List.mem_cons_of_mem _ (inr (inr (inr (inr (inr (inr (inl h)))))))
theorem imX8_same_c_X8_alike : ∀ w ∈ (va_wsS RX8 174 yX8_alike wtX8_alike : List Cond), w ∈ wtX8_same := fun w h => List.mem_cons_of_mem _ (inr (inr (inr (inr (inr (inr (inr (inl h))))))))
theorem gdX8_same : ∀ w ∈ wtX8_same, Gd w := gdc rfl (gda (gdl (by decide +kernel)) (gda (gdu _ _ _) (gda (gdu _ _ _) (gda (gdu _ _ _) (gda (gda (gdl (by decide +kernel)) gdX8_isPiece) (gda (gda (gdl (by decide +kernel)) gdX8_within) (gda (gda (gdl (by decide +kernel)) gdX8_at) (gda (gda (gdl (by decide +kernel)) gdX8_alike) gdn))))))))
theorem gcX8_same_X8_isPiece : GoodIn wtX8_same (va_wsS RX8 57 yX8_isPiece wtX8_isPiece) := fun w h => ⟨imX8_same_c_X8_isPiece w h, (gda (gdl (by decide +kernel)) gdX8_isPiece) w h⟩
theorem gcX8_same_X8_within : GoodIn wtX8_same (va_wsS RX8 61 yX8_within wtX8_within) := fun w h => ⟨imX8_same_c_X8_within w h, (gda (gdl (by decide +kernel)) gdX8_within) w h⟩
theorem gcX8_same_X8_at : GoodIn wtX8_same (va_wsS RX8 75 yX8_at wtX8_at) := fun w h => ⟨imX8_same_c_X8_at w h, (gda (gdl (by decide +kernel)) gdX8_at) w h⟩
theorem gcX8_same_X8_alike : GoodIn wtX8_same (va_wsS RX8 174 yX8_alike wtX8_alike) := fun w h => ⟨imX8_same_c_X8_alike w h, (gda (gdl (by decide +kernel)) gdX8_alike) w h⟩
def fX8_same (v_rings : Nat → Int32) (x1 : Int32) (x2 : Int32) (x3 : Int32) : Option (Int32) :=
  (fX8_isPiece x1).bind (fun r1 =>
    if r1 = (0 : Int32) then
      some (-1 : Int32)
    else
      (fX8_isPiece x2).bind (fun r3 =>
        if r3 = (0 : Int32) then
          some (-1 : Int32)
        else
          (fX8_within x3 (-5 : Int32) (5 : Int32)).bind (fun r5 =>
            if r5 = (0 : Int32) then
              some (-2 : Int32)
            else
              (fX8_at 10 v_rings x1).bind (fun r7 =>
                (fX8_at 10 v_rings x2).bind (fun r8 =>
                  (fX8_alike r7 r8 x3).bind (fun r9 =>
                    some r9))))))
def wdX8_same (cI cZ : ClassId) (q0 : Nat) (q1 : Nat) (q2 : Nat) (q3 : Nat) (d4 : Nat) (d5 : Nat) (d6 : Nat) (d7 : Nat) (d8 : Nat) (d9 : Nat) (d10 : Nat) (d11 : Nat) (d12 : Nat) (d13 : Nat) (d14 : Nat) (d15 : Nat) (d16 : Nat) (d17 : Nat)  (v_rings : Nat → Int32) (v_firstKept : Int32) (v_secondKept : Int32) (v_year : Int32) : va_W := [(q0, .inr (8, [.ref q1, .ref d4, .ref d5, .int v_firstKept, .int v_secondKept, .ref d6, .ref d7, .ref d8, .ref d9])), (q1, .inr (5, [.ref q2, .ref d10, .ref d11, .int v_year])), (q2, .inr (3, [.ref d12, .ref d13, .ref d14, .ref d15, .ref d16, .ref d17, .ref q3])), (q3, .inl (cI, 10, .inl v_rings))]
abbrev rmX8_same : Jvm.Room := { frames := 2, cells := 0, slots := 0, locals := 48 }
theorem hyX8_same : yX8_same.cls ≠ "java/lang/invoke/MethodHandle" ∧ yX8_same.cls ≠ "java/lang/invoke/VarHandle" ∧ (parseMethodDescriptor yX8_same.desc).map (fun d => d.parameters.length) = some 3 := by decide +kernel
set_option maxHeartbeats 4000000 in
set_option maxRecDepth 100000 in
theorem mX8_same (l : Launch) (D : va_G) (cI cZ : ClassId) (q0 : Nat) (q1 : Nat) (q2 : Nat) (q3 : Nat) (d4 : Nat) (d5 : Nat) (d6 : Nat) (d7 : Nat) (d8 : Nat) (d9 : Nat) (d10 : Nat) (d11 : Nat) (d12 : Nat) (d13 : Nat) (d14 : Nat) (d15 : Nat) (d16 : Nat) (d17 : Nat) (v_rings : Nat → Int32) (v_firstKept : Int32) (v_secondKept : Int32) (v_year : Int32) (x1 : Int32) (x2 : Int32) (x3 : Int32) (z : Int32) (hF : fX8_same v_rings x1 x2 x3 = some z) : mp l yX8_same wtX8_same rmX8_same D cI cZ [.ref q0, .int x1, .int x2, .int x3] (wdX8_same cI cZ q0 q1 q2 q3 d4 d5 d6 d7 d8 d9 d10 d11 d12 d13 d14 d15 d16 d17 v_rings v_firstKept v_secondKept v_year) (some (.int z)) (wdX8_same cI cZ q0 q1 q2 q3 d4 d5 d6 d7 d8 d9 d10 d11 d12 d13 d14 d15 d16 d17 v_rings v_firstKept v_secondKept v_year) := by
  refine mp_i (lv0 := [(0, .ref q0), (1, .int x1), (2, .int x2), (3, .int x3)]) cX8_same 4 z (by decide) rfl (Nat.le_of_ble_eq_true rfl) rfl (fun E h hend0 => ?_)
  have hend : ∀ (z' : Int32), some z' = some z → ∀ (pc : Nat) (lv : List (Nat × Value)), decode cX8_same pc = .ok (.ireturn, 1) → G l D E 4 0 0 (wdX8_same cI cZ q0 q1 q2 q3 d4 d5 d6 d7 d8 d9 d10 d11 d12 d13 d14 d15 d16 d17 v_rings v_firstKept v_secondKept v_year) pc lv [.int z'] := fun z' e => by cases e; exact hend0
  clear hend0
  unfold fX8_same at hF
  refine g_iload_n (np := 1) h 1 rfl rfl dX8_same_0 rfl ?_
  obtain ⟨r1, hr1, hF⟩ := Option.bind_eq_some_iff.mp hF
  refine g_callS (np := 4) (Wd' := (wdX8_same cI cZ q0 q1 q2 q3 d4 d5 d6 d7 d8 d9 d10 d11 d12 d13 d14 d15 d16 d17 v_rings v_firstKept v_secondKept v_year)) (As := [.int x1]) h (mX8_isPiece l D cI cZ x1 r1 hr1) gcX8_same_X8_isPiece rfl ⟨rfl, rfl⟩ hyX8_isPiece rfl rfl rfl rfl ⟨Nat.zero_le _, Nat.zero_le _⟩ [] [0, 1, 2, 3] (N := 4) (by decide +kernel) rfl rfl rfl rfl rfl dX8_same_1 rfl ?_
  refine g_if_eq h hF dX8_same_4 (np := 7) rfl (tg := 14) rfl (fun c2 hF => ?_) (fun c2 hF => ?_)
  · refine g_iconst (np := 15) (v := (-1 : Int32)) h (by decide) dX8_same_14 rfl ?_
    exact hend _ hF _ _ dX8_same_15
  · refine g_iload_n (np := 8) h 2 rfl rfl dX8_same_7 rfl ?_
    obtain ⟨r3, hr3, hF⟩ := Option.bind_eq_some_iff.mp hF
    refine g_callS (np := 11) (Wd' := (wdX8_same cI cZ q0 q1 q2 q3 d4 d5 d6 d7 d8 d9 d10 d11 d12 d13 d14 d15 d16 d17 v_rings v_firstKept v_secondKept v_year)) (As := [.int x2]) h (mX8_isPiece l D cI cZ x2 r3 hr3) gcX8_same_X8_isPiece rfl ⟨rfl, rfl⟩ hyX8_isPiece rfl rfl rfl rfl ⟨Nat.zero_le _, Nat.zero_le _⟩ [] [0, 1, 2, 3] (N := 4) (by decide +kernel) rfl rfl rfl rfl rfl dX8_same_8 rfl ?_
    refine g_if_ne h hF dX8_same_11 (np := 14) rfl (tg := 16) rfl (fun c4 hF => ?_) (fun c4 hF => ?_)
    · refine g_iload_n (np := 17) h 3 rfl rfl dX8_same_16 rfl ?_
      refine g_bipush (np := 19) (v := (-5 : Int32)) h (by decide) dX8_same_17 rfl ?_
      refine g_iconst (np := 20) (v := (5 : Int32)) h (by decide) dX8_same_19 rfl ?_
      obtain ⟨r5, hr5, hF⟩ := Option.bind_eq_some_iff.mp hF
      refine g_callS (np := 23) (Wd' := (wdX8_same cI cZ q0 q1 q2 q3 d4 d5 d6 d7 d8 d9 d10 d11 d12 d13 d14 d15 d16 d17 v_rings v_firstKept v_secondKept v_year)) (As := [.int x3, .int (-5 : Int32), .int (5 : Int32)]) h (mX8_within l D cI cZ x3 (-5 : Int32) (5 : Int32) r5 hr5) gcX8_same_X8_within rfl ⟨rfl, rfl⟩ hyX8_within rfl rfl rfl rfl ⟨Nat.zero_le _, Nat.zero_le _⟩ [] [0, 1, 2, 3] (N := 4) (by decide +kernel) rfl rfl rfl rfl rfl dX8_same_20 rfl ?_
      refine g_if_ne h hF dX8_same_23 (np := 26) rfl (tg := 29) rfl (fun c6 hF => ?_) (fun c6 hF => ?_)
      · refine g_aload_n (np := 30) h 0 rfl rfl dX8_same_29 rfl ?_
        refine g_get (np := 33) (T := TX8) h imX8_same_u_X8 0 8 rfl rfl 0 (by decide) (imX8_same_own _ (List.mem_of_getElem? (i := 0) rfl)) rfl dX8_same_30 rfl ?_
        refine g_get (np := 36) (T := TX5) h imX8_same_u_X5 1 5 rfl rfl 0 (by decide) (imX8_same_own _ (List.mem_of_getElem? (i := 1) rfl)) rfl dX8_same_33 rfl ?_
        refine g_get (np := 39) (T := TX3) h imX8_same_u_X3 2 3 rfl rfl 6 (by decide) (imX8_same_own _ (List.mem_of_getElem? (i := 2) rfl)) rfl dX8_same_36 rfl ?_
        refine g_iload_n (np := 40) h 1 rfl rfl dX8_same_39 rfl ?_
        obtain ⟨r7, hr7, hF⟩ := Option.bind_eq_some_iff.mp hF
        refine g_callS (np := 43) (Wd' := (wdX8_same cI cZ q0 q1 q2 q3 d4 d5 d6 d7 d8 d9 d10 d11 d12 d13 d14 d15 d16 d17 v_rings v_firstKept v_secondKept v_year)) (As := [.ref q3, .int x1]) h (mX8_at l D cI cZ q3 10 v_rings x1 r7 hr7) gcX8_same_X8_at rfl ⟨rfl, rfl⟩ hyX8_at rfl rfl rfl rfl ⟨Nat.zero_le _, Nat.zero_le _⟩ [3] [0, 1, 2] (N := 4) (by decide +kernel) rfl rfl rfl rfl rfl dX8_same_40 rfl ?_
        refine g_aload_n (np := 44) h 0 rfl rfl dX8_same_43 rfl ?_
        refine g_get (np := 47) (T := TX8) h imX8_same_u_X8 0 8 rfl rfl 0 (by decide) (imX8_same_own _ (List.mem_of_getElem? (i := 0) rfl)) rfl dX8_same_44 rfl ?_
        refine g_get (np := 50) (T := TX5) h imX8_same_u_X5 1 5 rfl rfl 0 (by decide) (imX8_same_own _ (List.mem_of_getElem? (i := 1) rfl)) rfl dX8_same_47 rfl ?_
        refine g_get (np := 53) (T := TX3) h imX8_same_u_X3 2 3 rfl rfl 6 (by decide) (imX8_same_own _ (List.mem_of_getElem? (i := 2) rfl)) rfl dX8_same_50 rfl ?_
        refine g_iload_n (np := 54) h 2 rfl rfl dX8_same_53 rfl ?_
        obtain ⟨r8, hr8, hF⟩ := Option.bind_eq_some_iff.mp hF
        refine g_callS (np := 57) (Wd' := (wdX8_same cI cZ q0 q1 q2 q3 d4 d5 d6 d7 d8 d9 d10 d11 d12 d13 d14 d15 d16 d17 v_rings v_firstKept v_secondKept v_year)) (As := [.ref q3, .int x2]) h (mX8_at l D cI cZ q3 10 v_rings x2 r8 hr8) gcX8_same_X8_at rfl ⟨rfl, rfl⟩ hyX8_at rfl rfl rfl rfl ⟨Nat.zero_le _, Nat.zero_le _⟩ [3] [0, 1, 2] (N := 4) (by decide +kernel) rfl rfl rfl rfl rfl dX8_same_54 rfl ?_
        refine g_iload_n (np := 58) h 3 rfl rfl dX8_same_57 rfl ?_
        obtain ⟨r9, hr9, hF⟩ := Option.bind_eq_some_iff.mp hF
        refine g_callS (np := 61) (Wd' := (wdX8_same cI cZ q0 q1 q2 q3 d4 d5 d6 d7 d8 d9 d10 d11 d12 d13 d14 d15 d16 d17 v_rings v_firstKept v_secondKept v_year)) (As := [.int r7, .int r8, .int x3]) h (mX8_alike l D cI cZ r7 r8 x3 r9 hr9) gcX8_same_X8_alike rfl ⟨rfl, rfl⟩ hyX8_alike rfl rfl rfl rfl ⟨Nat.zero_le _, Nat.zero_le _⟩ [] [0, 1, 2, 3] (N := 4) (by decide +kernel) rfl rfl rfl rfl rfl dX8_same_58 rfl ?_
        exact hend _ hF _ _ dX8_same_61
      · refine g_bipush (np := 28) (v := (-2 : Int32)) h (by decide) dX8_same_26 rfl ?_
        exact hend _ hF _ _ dX8_same_28
    · refine g_iconst (np := 15) (v := (-1 : Int32)) h (by decide) dX8_same_14 rfl ?_
      exact hend _ hF _ _ dX8_same_15
theorem dX8_lie_0 : decode cX8_lie 0 = .ok (.iload_n 1, 1) := by decide +kernel
theorem dX8_lie_1 : decode cX8_lie 1 = .ok (.invokestatic 57, 3) := by decide +kernel
theorem dX8_lie_4 : decode cX8_lie 4 = .ok (.ifCond .eq 10, 3) := by decide +kernel
theorem dX8_lie_7 : decode cX8_lie 7 = .ok (.iload_n 2, 1) := by decide +kernel
theorem dX8_lie_8 : decode cX8_lie 8 = .ok (.invokestatic 57, 3) := by decide +kernel
theorem dX8_lie_11 : decode cX8_lie 11 = .ok (.ifCond .ne 5, 3) := by decide +kernel
theorem dX8_lie_14 : decode cX8_lie 14 = .ok (.iconst (-1), 1) := by decide +kernel
theorem dX8_lie_15 : decode cX8_lie 15 = .ok (.ireturn, 1) := by decide +kernel
theorem dX8_lie_16 : decode cX8_lie 16 = .ok (.iload_n 3, 1) := by decide +kernel
theorem dX8_lie_17 : decode cX8_lie 17 = .ok (.iconst 0, 1) := by decide +kernel
theorem dX8_lie_18 : decode cX8_lie 18 = .ok (.iconst 1, 1) := by decide +kernel
theorem dX8_lie_19 : decode cX8_lie 19 = .ok (.invokestatic 61, 3) := by decide +kernel
theorem dX8_lie_22 : decode cX8_lie 22 = .ok (.ifCond .ne 6, 3) := by decide +kernel
theorem dX8_lie_25 : decode cX8_lie 25 = .ok (.bipush (-2), 2) := by decide +kernel
theorem dX8_lie_27 : decode cX8_lie 27 = .ok (.ireturn, 1) := by decide +kernel
theorem dX8_lie_28 : decode cX8_lie 28 = .ok (.iconst (-1), 1) := by decide +kernel
theorem dX8_lie_29 : decode cX8_lie 29 = .ok (.istore 4, 2) := by decide +kernel
theorem dX8_lie_31 : decode cX8_lie 31 = .ok (.iconst 0, 1) := by decide +kernel
theorem dX8_lie_32 : decode cX8_lie 32 = .ok (.istore 5, 2) := by decide +kernel
theorem dX8_lie_34 : decode cX8_lie 34 = .ok (.bipush (-5), 2) := by decide +kernel
theorem dX8_lie_36 : decode cX8_lie 36 = .ok (.istore 6, 2) := by decide +kernel
theorem dX8_lie_38 : decode cX8_lie 38 = .ok (.iload 6, 2) := by decide +kernel
theorem dX8_lie_40 : decode cX8_lie 40 = .ok (.iconst 5, 1) := by decide +kernel
theorem dX8_lie_41 : decode cX8_lie 41 = .ok (.if_icmp .gt 59, 3) := by decide +kernel
theorem dX8_lie_44 : decode cX8_lie 44 = .ok (.aload_n 0, 1) := by decide +kernel
theorem dX8_lie_45 : decode cX8_lie 45 = .ok (.getfield 10, 3) := by decide +kernel
theorem dX8_lie_48 : decode cX8_lie 48 = .ok (.getfield 65, 3) := by decide +kernel
theorem dX8_lie_51 : decode cX8_lie 51 = .ok (.getfield 96, 3) := by decide +kernel
theorem dX8_lie_54 : decode cX8_lie 54 = .ok (.iload_n 1, 1) := by decide +kernel
theorem dX8_lie_55 : decode cX8_lie 55 = .ok (.invokestatic 75, 3) := by decide +kernel
theorem dX8_lie_58 : decode cX8_lie 58 = .ok (.aload_n 0, 1) := by decide +kernel
theorem dX8_lie_59 : decode cX8_lie 59 = .ok (.getfield 10, 3) := by decide +kernel
theorem dX8_lie_62 : decode cX8_lie 62 = .ok (.getfield 65, 3) := by decide +kernel
theorem dX8_lie_65 : decode cX8_lie 65 = .ok (.getfield 96, 3) := by decide +kernel
theorem dX8_lie_68 : decode cX8_lie 68 = .ok (.iload_n 2, 1) := by decide +kernel
theorem dX8_lie_69 : decode cX8_lie 69 = .ok (.invokestatic 75, 3) := by decide +kernel
theorem dX8_lie_72 : decode cX8_lie 72 = .ok (.iload 6, 2) := by decide +kernel
theorem dX8_lie_74 : decode cX8_lie 74 = .ok (.invokestatic 174, 3) := by decide +kernel
theorem dX8_lie_77 : decode cX8_lie 77 = .ok (.istore 7, 2) := by decide +kernel
theorem dX8_lie_79 : decode cX8_lie 79 = .ok (.iload 7, 2) := by decide +kernel
theorem dX8_lie_81 : decode cX8_lie 81 = .ok (.iload 4, 2) := by decide +kernel
theorem dX8_lie_83 : decode cX8_lie 83 = .ok (.if_icmp .le 11, 3) := by decide +kernel
theorem dX8_lie_86 : decode cX8_lie 86 = .ok (.iload 7, 2) := by decide +kernel
theorem dX8_lie_88 : decode cX8_lie 88 = .ok (.istore 4, 2) := by decide +kernel
theorem dX8_lie_90 : decode cX8_lie 90 = .ok (.iload 6, 2) := by decide +kernel
theorem dX8_lie_92 : decode cX8_lie 92 = .ok (.istore 5, 2) := by decide +kernel
theorem dX8_lie_94 : decode cX8_lie 94 = .ok (.iinc 6 1, 3) := by decide +kernel
theorem dX8_lie_97 : decode cX8_lie 97 = .ok (.goto (-59), 3) := by decide +kernel
theorem dX8_lie_100 : decode cX8_lie 100 = .ok (.iload_n 3, 1) := by decide +kernel
theorem dX8_lie_101 : decode cX8_lie 101 = .ok (.ifCond .ne 8, 3) := by decide +kernel
theorem dX8_lie_104 : decode cX8_lie 104 = .ok (.iload 4, 2) := by decide +kernel
theorem dX8_lie_106 : decode cX8_lie 106 = .ok (.goto 7, 3) := by decide +kernel
theorem dX8_lie_109 : decode cX8_lie 109 = .ok (.iload 5, 2) := by decide +kernel
theorem dX8_lie_111 : decode cX8_lie 111 = .ok (.iconst 5, 1) := by decide +kernel
theorem dX8_lie_112 : decode cX8_lie 112 = .ok (.iadd, 1) := by decide +kernel
theorem dX8_lie_113 : decode cX8_lie 113 = .ok (.ireturn, 1) := by decide +kernel
def wtX8_lie : List Cond := .code yX8_lie cX8_lie 8 (some .int) :: (([.fieldLink RX8 10 "DriftKin" "now" "LDriftKin$Shore;", .fieldLink RX8 65 "DriftKin$Shore" "pieces" "LDriftKin$Pieces;", .fieldLink RX8 96 "DriftKin$Pieces" "rings" "[I"]) ++ ((u_ws RX3 TX3 7) ++ ((u_ws RX5 TX5 4) ++ ((u_ws RX8 TX8 9) ++ ((va_wsS RX8 57 yX8_isPiece wtX8_isPiece) ++ ((va_wsS RX8 61 yX8_within wtX8_within) ++ ((va_wsS RX8 75 yX8_at wtX8_at) ++ ((va_wsS RX8 174 yX8_alike wtX8_alike) ++ []))))))))
theorem imX8_lie_own : ∀ w ∈ ([.fieldLink RX8 10 "DriftKin" "now" "LDriftKin$Shore;", .fieldLink RX8 65 "DriftKin$Shore" "pieces" "LDriftKin$Pieces;", .fieldLink RX8 96 "DriftKin$Pieces" "rings" "[I"] : List Cond), w ∈ wtX8_lie := fun w h => List.mem_cons_of_mem _ (inl h)
theorem imX8_lie_u_X3 : ∀ w ∈ (u_ws RX3 TX3 7 : List Cond), w ∈ wtX8_lie := fun w h => List.mem_cons_of_mem _ (inr (inl h))
theorem imX8_lie_u_X5 : ∀ w ∈ (u_ws RX5 TX5 4 : List Cond), w ∈ wtX8_lie := fun w h => List.mem_cons_of_mem _ (inr (inr (inl h)))
theorem imX8_lie_u_X8 : ∀ w ∈ (u_ws RX8 TX8 9 : List Cond), w ∈ wtX8_lie := fun w h => List.mem_cons_of_mem _ (inr (inr (inr (inl h))))
theorem imX8_lie_c_X8_isPiece : ∀ w ∈ (va_wsS RX8 57 yX8_isPiece wtX8_isPiece : List Cond), w ∈ wtX8_lie := fun w h => List.mem_cons_of_mem _ (inr (inr (inr (inr (inl h)))))
theorem imX8_lie_c_X8_within : ∀ w ∈ (va_wsS RX8 61 yX8_within wtX8_within : List Cond), w ∈ wtX8_lie := fun w h => List.mem_cons_of_mem _ (inr (inr (inr (inr (inr (inl h))))))
theorem imX8_lie_c_X8_at : ∀ w ∈ (va_wsS RX8 75 yX8_at wtX8_at : List Cond), w ∈ wtX8_lie := fun w h => List.mem_cons_of_mem _ (inr (inr (inr (inr (inr (inr (inl h)))))))
theorem imX8_lie_c_X8_alike : ∀ w ∈ (va_wsS RX8 174 yX8_alike wtX8_alike : List Cond), w ∈ wtX8_lie := fun w h => List.mem_cons_of_mem _ (inr (inr (inr (inr (inr (inr (inr (inl h))))))))
theorem gdX8_lie : ∀ w ∈ wtX8_lie, Gd w := gdc rfl (gda (gdl (by decide +kernel)) (gda (gdu _ _ _) (gda (gdu _ _ _) (gda (gdu _ _ _) (gda (gda (gdl (by decide +kernel)) gdX8_isPiece) (gda (gda (gdl (by decide +kernel)) gdX8_within) (gda (gda (gdl (by decide +kernel)) gdX8_at) (gda (gda (gdl (by decide +kernel)) gdX8_alike) gdn))))))))
theorem gcX8_lie_X8_isPiece : GoodIn wtX8_lie (va_wsS RX8 57 yX8_isPiece wtX8_isPiece) := fun w h => ⟨imX8_lie_c_X8_isPiece w h, (gda (gdl (by decide +kernel)) gdX8_isPiece) w h⟩
theorem gcX8_lie_X8_within : GoodIn wtX8_lie (va_wsS RX8 61 yX8_within wtX8_within) := fun w h => ⟨imX8_lie_c_X8_within w h, (gda (gdl (by decide +kernel)) gdX8_within) w h⟩
theorem gcX8_lie_X8_at : GoodIn wtX8_lie (va_wsS RX8 75 yX8_at wtX8_at) := fun w h => ⟨imX8_lie_c_X8_at w h, (gda (gdl (by decide +kernel)) gdX8_at) w h⟩
theorem gcX8_lie_X8_alike : GoodIn wtX8_lie (va_wsS RX8 174 yX8_alike wtX8_alike) := fun w h => ⟨imX8_lie_c_X8_alike w h, (gda (gdl (by decide +kernel)) gdX8_alike) w h⟩
def fX8_lie_38 (v_rings : Nat → Int32) (x1 : Int32) (x2 : Int32) (x3 : Int32) : Nat → Int32 → Int32 → Int32 → Option (Int32)
  | 0, _, _, _ => none
  | n + 1, x4, x5, x6 =>
    if (5 : Int32) < x6 then
      if x3 = (0 : Int32) then
        some x4
      else
        some (x5 + (5 : Int32))
    else
      (fX8_at 10 v_rings x1).bind (fun r1003 =>
        (fX8_at 10 v_rings x2).bind (fun r1004 =>
          (fX8_alike r1003 r1004 x6).bind (fun r1005 =>
            if r1005 ≤ x4 then
              fX8_lie_38 v_rings x1 x2 x3 n x4 x5 (x6 + (1 : Int32))
            else
              fX8_lie_38 v_rings x1 x2 x3 n r1005 x6 (x6 + (1 : Int32)))))
def fX8_lie (v_rings : Nat → Int32) (x1 : Int32) (x2 : Int32) (x3 : Int32) : Option (Int32) :=
  (fX8_isPiece x1).bind (fun r1 =>
    if r1 = (0 : Int32) then
      some (-1 : Int32)
    else
      (fX8_isPiece x2).bind (fun r3 =>
        if r3 = (0 : Int32) then
          some (-1 : Int32)
        else
          (fX8_within x3 (0 : Int32) (1 : Int32)).bind (fun r5 =>
            if r5 = (0 : Int32) then
              some (-2 : Int32)
            else
              fX8_lie_38 v_rings x1 x2 x3 2000 (-1 : Int32) (0 : Int32) (-5 : Int32))))
def wdX8_lie (cI cZ : ClassId) (q0 : Nat) (q1 : Nat) (q2 : Nat) (q3 : Nat) (d4 : Nat) (d5 : Nat) (d6 : Nat) (d7 : Nat) (d8 : Nat) (d9 : Nat) (d10 : Nat) (d11 : Nat) (d12 : Nat) (d13 : Nat) (d14 : Nat) (d15 : Nat) (d16 : Nat) (d17 : Nat)  (v_rings : Nat → Int32) (v_firstKept : Int32) (v_secondKept : Int32) (v_year : Int32) : va_W := [(q0, .inr (8, [.ref q1, .ref d4, .ref d5, .int v_firstKept, .int v_secondKept, .ref d6, .ref d7, .ref d8, .ref d9])), (q1, .inr (5, [.ref q2, .ref d10, .ref d11, .int v_year])), (q2, .inr (3, [.ref d12, .ref d13, .ref d14, .ref d15, .ref d16, .ref d17, .ref q3])), (q3, .inl (cI, 10, .inl v_rings))]
abbrev rmX8_lie : Jvm.Room := { frames := 2, cells := 0, slots := 0, locals := 48 }
theorem hyX8_lie : yX8_lie.cls ≠ "java/lang/invoke/MethodHandle" ∧ yX8_lie.cls ≠ "java/lang/invoke/VarHandle" ∧ (parseMethodDescriptor yX8_lie.desc).map (fun d => d.parameters.length) = some 3 := by decide +kernel
set_option maxHeartbeats 4000000 in
set_option maxRecDepth 100000 in
theorem mX8_lie (l : Launch) (D : va_G) (cI cZ : ClassId) (q0 : Nat) (q1 : Nat) (q2 : Nat) (q3 : Nat) (d4 : Nat) (d5 : Nat) (d6 : Nat) (d7 : Nat) (d8 : Nat) (d9 : Nat) (d10 : Nat) (d11 : Nat) (d12 : Nat) (d13 : Nat) (d14 : Nat) (d15 : Nat) (d16 : Nat) (d17 : Nat) (v_rings : Nat → Int32) (v_firstKept : Int32) (v_secondKept : Int32) (v_year : Int32) (x1 : Int32) (x2 : Int32) (x3 : Int32) (z : Int32) (hF : fX8_lie v_rings x1 x2 x3 = some z) : mp l yX8_lie wtX8_lie rmX8_lie D cI cZ [.ref q0, .int x1, .int x2, .int x3] (wdX8_lie cI cZ q0 q1 q2 q3 d4 d5 d6 d7 d8 d9 d10 d11 d12 d13 d14 d15 d16 d17 v_rings v_firstKept v_secondKept v_year) (some (.int z)) (wdX8_lie cI cZ q0 q1 q2 q3 d4 d5 d6 d7 d8 d9 d10 d11 d12 d13 d14 d15 d16 d17 v_rings v_firstKept v_secondKept v_year) := by
  refine mp_i (lv0 := [(0, .ref q0), (1, .int x1), (2, .int x2), (3, .int x3)]) cX8_lie 8 z (by decide) rfl (Nat.le_of_ble_eq_true rfl) rfl (fun E h hend0 => ?_)
  have hend : ∀ (z' : Int32), some z' = some z → ∀ (pc : Nat) (lv : List (Nat × Value)), decode cX8_lie pc = .ok (.ireturn, 1) → G l D E 8 0 0 (wdX8_lie cI cZ q0 q1 q2 q3 d4 d5 d6 d7 d8 d9 d10 d11 d12 d13 d14 d15 d16 d17 v_rings v_firstKept v_secondKept v_year) pc lv [.int z'] := fun z' e => by cases e; exact hend0
  clear hend0
  have hL38 : ∀ (n38 : Nat) (x4 : Int32) (x5 : Int32) (x6 : Int32), fX8_lie_38 v_rings x1 x2 x3 n38 x4 x5 x6 = some z → G l D E 8 0 0 (wdX8_lie cI cZ q0 q1 q2 q3 d4 d5 d6 d7 d8 d9 d10 d11 d12 d13 d14 d15 d16 d17 v_rings v_firstKept v_secondKept v_year) 38 [(0, .ref q0), (1, .int x1), (2, .int x2), (3, .int x3), (4, .int x4), (5, .int x5), (6, .int x6)] [] := by
    intro n38
    induction n38 with
    | zero =>
      intro x4 x5 x6 hF
      rw [fX8_lie_38] at hF
      cases hF
    | succ n38 ih38 =>
      intro x4 x5 x6 hF
      rw [fX8_lie_38] at hF
      refine g_iload (np := 40) h 6 rfl dX8_lie_38 rfl ?_
      refine g_iconst (np := 41) (v := (5 : Int32)) h (by decide) dX8_lie_40 rfl ?_
      refine g_icmp_gt h hF dX8_lie_41 (np := 44) rfl (tg := 100) rfl (fun c1001 hF => ?_) (fun c1001 hF => ?_)
      · refine g_iload_n (np := 101) h 3 rfl rfl dX8_lie_100 rfl ?_
        refine g_if_ne h hF dX8_lie_101 (np := 104) rfl (tg := 109) rfl (fun c1002 hF => ?_) (fun c1002 hF => ?_)
        · refine g_iload (np := 111) h 5 rfl dX8_lie_109 rfl ?_
          refine g_iconst (np := 112) (v := (5 : Int32)) h (by decide) dX8_lie_111 rfl ?_
          refine g_iadd (np := 113) h dX8_lie_112 rfl ?_
          exact hend _ hF _ _ dX8_lie_113
        · refine g_iload (np := 106) h 4 rfl dX8_lie_104 rfl ?_
          refine g_goto h dX8_lie_106 (np := 113) rfl ?_
          exact hend _ hF _ _ dX8_lie_113
      · refine g_aload_n (np := 45) h 0 rfl rfl dX8_lie_44 rfl ?_
        refine g_get (np := 48) (T := TX8) h imX8_lie_u_X8 0 8 rfl rfl 0 (by decide) (imX8_lie_own _ (List.mem_of_getElem? (i := 0) rfl)) rfl dX8_lie_45 rfl ?_
        refine g_get (np := 51) (T := TX5) h imX8_lie_u_X5 1 5 rfl rfl 0 (by decide) (imX8_lie_own _ (List.mem_of_getElem? (i := 1) rfl)) rfl dX8_lie_48 rfl ?_
        refine g_get (np := 54) (T := TX3) h imX8_lie_u_X3 2 3 rfl rfl 6 (by decide) (imX8_lie_own _ (List.mem_of_getElem? (i := 2) rfl)) rfl dX8_lie_51 rfl ?_
        refine g_iload_n (np := 55) h 1 rfl rfl dX8_lie_54 rfl ?_
        obtain ⟨r1003, hr1003, hF⟩ := Option.bind_eq_some_iff.mp hF
        refine g_callS (np := 58) (Wd' := (wdX8_lie cI cZ q0 q1 q2 q3 d4 d5 d6 d7 d8 d9 d10 d11 d12 d13 d14 d15 d16 d17 v_rings v_firstKept v_secondKept v_year)) (As := [.ref q3, .int x1]) h (mX8_at l D cI cZ q3 10 v_rings x1 r1003 hr1003) gcX8_lie_X8_at rfl ⟨rfl, rfl⟩ hyX8_at rfl rfl rfl rfl ⟨Nat.zero_le _, Nat.zero_le _⟩ [3] [0, 1, 2] (N := 4) (by decide +kernel) rfl rfl rfl rfl rfl dX8_lie_55 rfl ?_
        refine g_aload_n (np := 59) h 0 rfl rfl dX8_lie_58 rfl ?_
        refine g_get (np := 62) (T := TX8) h imX8_lie_u_X8 0 8 rfl rfl 0 (by decide) (imX8_lie_own _ (List.mem_of_getElem? (i := 0) rfl)) rfl dX8_lie_59 rfl ?_
        refine g_get (np := 65) (T := TX5) h imX8_lie_u_X5 1 5 rfl rfl 0 (by decide) (imX8_lie_own _ (List.mem_of_getElem? (i := 1) rfl)) rfl dX8_lie_62 rfl ?_
        refine g_get (np := 68) (T := TX3) h imX8_lie_u_X3 2 3 rfl rfl 6 (by decide) (imX8_lie_own _ (List.mem_of_getElem? (i := 2) rfl)) rfl dX8_lie_65 rfl ?_
        refine g_iload_n (np := 69) h 2 rfl rfl dX8_lie_68 rfl ?_
        obtain ⟨r1004, hr1004, hF⟩ := Option.bind_eq_some_iff.mp hF
        refine g_callS (np := 72) (Wd' := (wdX8_lie cI cZ q0 q1 q2 q3 d4 d5 d6 d7 d8 d9 d10 d11 d12 d13 d14 d15 d16 d17 v_rings v_firstKept v_secondKept v_year)) (As := [.ref q3, .int x2]) h (mX8_at l D cI cZ q3 10 v_rings x2 r1004 hr1004) gcX8_lie_X8_at rfl ⟨rfl, rfl⟩ hyX8_at rfl rfl rfl rfl ⟨Nat.zero_le _, Nat.zero_le _⟩ [3] [0, 1, 2] (N := 4) (by decide +kernel) rfl rfl rfl rfl rfl dX8_lie_69 rfl ?_
        refine g_iload (np := 74) h 6 rfl dX8_lie_72 rfl ?_
        obtain ⟨r1005, hr1005, hF⟩ := Option.bind_eq_some_iff.mp hF
        refine g_callS (np := 77) (Wd' := (wdX8_lie cI cZ q0 q1 q2 q3 d4 d5 d6 d7 d8 d9 d10 d11 d12 d13 d14 d15 d16 d17 v_rings v_firstKept v_secondKept v_year)) (As := [.int r1003, .int r1004, .int x6]) h (mX8_alike l D cI cZ r1003 r1004 x6 r1005 hr1005) gcX8_lie_X8_alike rfl ⟨rfl, rfl⟩ hyX8_alike rfl rfl rfl rfl ⟨Nat.zero_le _, Nat.zero_le _⟩ [] [0, 1, 2, 3] (N := 4) (by decide +kernel) rfl rfl rfl rfl rfl dX8_lie_74 rfl ?_
        refine g_istore (np := 79) (lv' := [(7, .int r1005), (0, .ref q0), (1, .int x1), (2, .int x2), (3, .int x3), (4, .int x4), (5, .int x5), (6, .int x6)]) h (by decide) rfl dX8_lie_77 rfl ?_
        refine g_iload (np := 81) h 0 rfl dX8_lie_79 rfl ?_
        refine g_iload (np := 83) h 5 rfl dX8_lie_81 rfl ?_
        refine g_icmp_le h hF dX8_lie_83 (np := 86) rfl (tg := 94) rfl (fun c1006 hF => ?_) (fun c1006 hF => ?_)
        · refine g_iinc (np := 97) (v := (x6 + (1 : Int32))) (lv' := [(6, .int (x6 + (1 : Int32))), (7, .int r1005), (0, .ref q0), (1, .int x1), (2, .int x2), (3, .int x3), (4, .int x4), (5, .int x5)]) h 7 rfl rfl (by decide) rfl dX8_lie_94 rfl ?_
          refine g_goto h dX8_lie_97 (np := 38) rfl ?_
          refine g_lv [2, 3, 4, 5, 6, 7, 0] rfl ?_
          exact ih38 x4 x5 (x6 + (1 : Int32)) hF
        · refine g_iload (np := 88) h 0 rfl dX8_lie_86 rfl ?_
          refine g_istore (np := 90) (lv' := [(4, .int r1005), (7, .int r1005), (0, .ref q0), (1, .int x1), (2, .int x2), (3, .int x3), (5, .int x5), (6, .int x6)]) h (by decide) rfl dX8_lie_88 rfl ?_
          refine g_iload (np := 92) h 7 rfl dX8_lie_90 rfl ?_
          refine g_istore (np := 94) (lv' := [(5, .int x6), (4, .int r1005), (7, .int r1005), (0, .ref q0), (1, .int x1), (2, .int x2), (3, .int x3), (6, .int x6)]) h (by decide) rfl dX8_lie_92 rfl ?_
          refine g_iinc (np := 97) (v := (x6 + (1 : Int32))) (lv' := [(6, .int (x6 + (1 : Int32))), (5, .int x6), (4, .int r1005), (7, .int r1005), (0, .ref q0), (1, .int x1), (2, .int x2), (3, .int x3)]) h 7 rfl rfl (by decide) rfl dX8_lie_94 rfl ?_
          refine g_goto h dX8_lie_97 (np := 38) rfl ?_
          refine g_lv [4, 5, 6, 7, 2, 1, 0] rfl ?_
          exact ih38 r1005 x6 (x6 + (1 : Int32)) hF
  unfold fX8_lie at hF
  refine g_iload_n (np := 1) h 1 rfl rfl dX8_lie_0 rfl ?_
  obtain ⟨r1, hr1, hF⟩ := Option.bind_eq_some_iff.mp hF
  refine g_callS (np := 4) (Wd' := (wdX8_lie cI cZ q0 q1 q2 q3 d4 d5 d6 d7 d8 d9 d10 d11 d12 d13 d14 d15 d16 d17 v_rings v_firstKept v_secondKept v_year)) (As := [.int x1]) h (mX8_isPiece l D cI cZ x1 r1 hr1) gcX8_lie_X8_isPiece rfl ⟨rfl, rfl⟩ hyX8_isPiece rfl rfl rfl rfl ⟨Nat.zero_le _, Nat.zero_le _⟩ [] [0, 1, 2, 3] (N := 4) (by decide +kernel) rfl rfl rfl rfl rfl dX8_lie_1 rfl ?_
  refine g_if_eq h hF dX8_lie_4 (np := 7) rfl (tg := 14) rfl (fun c2 hF => ?_) (fun c2 hF => ?_)
  · refine g_iconst (np := 15) (v := (-1 : Int32)) h (by decide) dX8_lie_14 rfl ?_
    exact hend _ hF _ _ dX8_lie_15
  · refine g_iload_n (np := 8) h 2 rfl rfl dX8_lie_7 rfl ?_
    obtain ⟨r3, hr3, hF⟩ := Option.bind_eq_some_iff.mp hF
    refine g_callS (np := 11) (Wd' := (wdX8_lie cI cZ q0 q1 q2 q3 d4 d5 d6 d7 d8 d9 d10 d11 d12 d13 d14 d15 d16 d17 v_rings v_firstKept v_secondKept v_year)) (As := [.int x2]) h (mX8_isPiece l D cI cZ x2 r3 hr3) gcX8_lie_X8_isPiece rfl ⟨rfl, rfl⟩ hyX8_isPiece rfl rfl rfl rfl ⟨Nat.zero_le _, Nat.zero_le _⟩ [] [0, 1, 2, 3] (N := 4) (by decide +kernel) rfl rfl rfl rfl rfl dX8_lie_8 rfl ?_
    refine g_if_ne h hF dX8_lie_11 (np := 14) rfl (tg := 16) rfl (fun c4 hF => ?_) (fun c4 hF => ?_)
    · refine g_iload_n (np := 17) h 3 rfl rfl dX8_lie_16 rfl ?_
      refine g_iconst (np := 18) (v := (0 : Int32)) h (by decide) dX8_lie_17 rfl ?_
      refine g_iconst (np := 19) (v := (1 : Int32)) h (by decide) dX8_lie_18 rfl ?_
      obtain ⟨r5, hr5, hF⟩ := Option.bind_eq_some_iff.mp hF
      refine g_callS (np := 22) (Wd' := (wdX8_lie cI cZ q0 q1 q2 q3 d4 d5 d6 d7 d8 d9 d10 d11 d12 d13 d14 d15 d16 d17 v_rings v_firstKept v_secondKept v_year)) (As := [.int x3, .int (0 : Int32), .int (1 : Int32)]) h (mX8_within l D cI cZ x3 (0 : Int32) (1 : Int32) r5 hr5) gcX8_lie_X8_within rfl ⟨rfl, rfl⟩ hyX8_within rfl rfl rfl rfl ⟨Nat.zero_le _, Nat.zero_le _⟩ [] [0, 1, 2, 3] (N := 4) (by decide +kernel) rfl rfl rfl rfl rfl dX8_lie_19 rfl ?_
      refine g_if_ne h hF dX8_lie_22 (np := 25) rfl (tg := 28) rfl (fun c6 hF => ?_) (fun c6 hF => ?_)
      · refine g_iconst (np := 29) (v := (-1 : Int32)) h (by decide) dX8_lie_28 rfl ?_
        refine g_istore (np := 31) (lv' := [(4, .int (-1 : Int32)), (0, .ref q0), (1, .int x1), (2, .int x2), (3, .int x3)]) h (by decide) rfl dX8_lie_29 rfl ?_
        refine g_iconst (np := 32) (v := (0 : Int32)) h (by decide) dX8_lie_31 rfl ?_
        refine g_istore (np := 34) (lv' := [(5, .int (0 : Int32)), (4, .int (-1 : Int32)), (0, .ref q0), (1, .int x1), (2, .int x2), (3, .int x3)]) h (by decide) rfl dX8_lie_32 rfl ?_
        refine g_bipush (np := 36) (v := (-5 : Int32)) h (by decide) dX8_lie_34 rfl ?_
        refine g_istore (np := 38) (lv' := [(6, .int (-5 : Int32)), (5, .int (0 : Int32)), (4, .int (-1 : Int32)), (0, .ref q0), (1, .int x1), (2, .int x2), (3, .int x3)]) h (by decide) rfl dX8_lie_36 rfl ?_
        refine g_lv [3, 4, 5, 6, 2, 1, 0] rfl ?_
        exact hL38 _ (-1 : Int32) (0 : Int32) (-5 : Int32) hF
      · refine g_bipush (np := 27) (v := (-2 : Int32)) h (by decide) dX8_lie_25 rfl ?_
        exact hend _ hF _ _ dX8_lie_27
    · refine g_iconst (np := 15) (v := (-1 : Int32)) h (by decide) dX8_lie_14 rfl ?_
      exact hend _ hF _ _ dX8_lie_15
theorem dX8_match_0 : decode cX8_match 0 = .ok (.iload_n 1, 1) := by decide +kernel
theorem dX8_match_1 : decode cX8_match 1 = .ok (.iconst (-1), 1) := by decide +kernel
theorem dX8_match_2 : decode cX8_match 2 = .ok (.if_icmp .eq 12, 3) := by decide +kernel
theorem dX8_match_5 : decode cX8_match 5 = .ok (.iload_n 1, 1) := by decide +kernel
theorem dX8_match_6 : decode cX8_match 6 = .ok (.invokestatic 134, 3) := by decide +kernel
theorem dX8_match_9 : decode cX8_match 9 = .ok (.ifCond .ne 5, 3) := by decide +kernel
theorem dX8_match_12 : decode cX8_match 12 = .ok (.iconst (-1), 1) := by decide +kernel
theorem dX8_match_13 : decode cX8_match 13 = .ok (.ireturn, 1) := by decide +kernel
theorem dX8_match_14 : decode cX8_match 14 = .ok (.aload_n 0, 1) := by decide +kernel
theorem dX8_match_15 : decode cX8_match 15 = .ok (.getfield 53, 3) := by decide +kernel
theorem dX8_match_18 : decode cX8_match 18 = .ok (.aload_n 0, 1) := by decide +kernel
theorem dX8_match_19 : decode cX8_match 19 = .ok (.getfield 10, 3) := by decide +kernel
theorem dX8_match_22 : decode cX8_match 22 = .ok (.invokevirtual 178, 3) := by decide +kernel
theorem dX8_match_25 : decode cX8_match 25 = .ok (.iload_n 1, 1) := by decide +kernel
theorem dX8_match_26 : decode cX8_match 26 = .ok (.iconst (-1), 1) := by decide +kernel
theorem dX8_match_27 : decode cX8_match 27 = .ok (.if_icmp .ne 13, 3) := by decide +kernel
theorem dX8_match_30 : decode cX8_match 30 = .ok (.aload_n 0, 1) := by decide +kernel
theorem dX8_match_31 : decode cX8_match 31 = .ok (.getfield 53, 3) := by decide +kernel
theorem dX8_match_34 : decode cX8_match 34 = .ok (.getfield 181, 3) := by decide +kernel
theorem dX8_match_37 : decode cX8_match 37 = .ok (.goto 14, 3) := by decide +kernel
theorem dX8_match_40 : decode cX8_match 40 = .ok (.aload_n 0, 1) := by decide +kernel
theorem dX8_match_41 : decode cX8_match 41 = .ok (.getfield 53, 3) := by decide +kernel
theorem dX8_match_44 : decode cX8_match 44 = .ok (.getfield 182, 3) := by decide +kernel
theorem dX8_match_47 : decode cX8_match 47 = .ok (.iload_n 1, 1) := by decide +kernel
theorem dX8_match_48 : decode cX8_match 48 = .ok (.invokestatic 75, 3) := by decide +kernel
theorem dX8_match_51 : decode cX8_match 51 = .ok (.ireturn, 1) := by decide +kernel
def wtX8_match : List Cond := .code yX8_match cX8_match 2 (some .int) :: (([.fieldLink RX8 53 "DriftKin" "matches" "LDriftKin$Matches;", .fieldLink RX8 10 "DriftKin" "now" "LDriftKin$Shore;", .fieldLink RX8 181 "DriftKin$Matches" "count" "I", .fieldLink RX8 182 "DriftKin$Matches" "mate" "[I"]) ++ ((u_ws RX1 TX1 4) ++ ((u_ws RX8 TX8 9) ++ ((va_wsS RX8 134 yX8_isHouse wtX8_isHouse) ++ ((wsV RX8 178 RX1 yX1_find wtX1_find) ++ ((va_wsS RX8 75 yX8_at wtX8_at) ++ []))))))
theorem imX8_match_own : ∀ w ∈ ([.fieldLink RX8 53 "DriftKin" "matches" "LDriftKin$Matches;", .fieldLink RX8 10 "DriftKin" "now" "LDriftKin$Shore;", .fieldLink RX8 181 "DriftKin$Matches" "count" "I", .fieldLink RX8 182 "DriftKin$Matches" "mate" "[I"] : List Cond), w ∈ wtX8_match := fun w h => List.mem_cons_of_mem _ (inl h)
theorem imX8_match_u_X1 : ∀ w ∈ (u_ws RX1 TX1 4 : List Cond), w ∈ wtX8_match := fun w h => List.mem_cons_of_mem _ (inr (inl h))
theorem imX8_match_u_X8 : ∀ w ∈ (u_ws RX8 TX8 9 : List Cond), w ∈ wtX8_match := fun w h => List.mem_cons_of_mem _ (inr (inr (inl h)))
theorem imX8_match_c_X8_isHouse : ∀ w ∈ (va_wsS RX8 134 yX8_isHouse wtX8_isHouse : List Cond), w ∈ wtX8_match := fun w h => List.mem_cons_of_mem _ (inr (inr (inr (inl h))))
theorem imX8_match_c_X1_find : ∀ w ∈ (wsV RX8 178 RX1 yX1_find wtX1_find : List Cond), w ∈ wtX8_match := fun w h => List.mem_cons_of_mem _ (inr (inr (inr (inr (inl h)))))
theorem imX8_match_c_X8_at : ∀ w ∈ (va_wsS RX8 75 yX8_at wtX8_at : List Cond), w ∈ wtX8_match := fun w h => List.mem_cons_of_mem _ (inr (inr (inr (inr (inr (inl h))))))
theorem gdX8_match : ∀ w ∈ wtX8_match, Gd w := gdc rfl (gda (gdl (by decide +kernel)) (gda (gdu _ _ _) (gda (gdu _ _ _) (gda (gda (gdl (by decide +kernel)) gdX8_isHouse) (gda (gda (gdl (by decide +kernel)) gdX1_find) (gda (gda (gdl (by decide +kernel)) gdX8_at) gdn))))))
theorem gcX8_match_X8_isHouse : GoodIn wtX8_match (va_wsS RX8 134 yX8_isHouse wtX8_isHouse) := fun w h => ⟨imX8_match_c_X8_isHouse w h, (gda (gdl (by decide +kernel)) gdX8_isHouse) w h⟩
theorem gcX8_match_X1_find : GoodIn wtX8_match (wsV RX8 178 RX1 yX1_find wtX1_find) := fun w h => ⟨imX8_match_c_X1_find w h, (gda (gdl (by decide +kernel)) gdX1_find) w h⟩
theorem gcX8_match_X8_at : GoodIn wtX8_match (va_wsS RX8 75 yX8_at wtX8_at) := fun w h => ⟨imX8_match_c_X8_at w h, (gda (gdl (by decide +kernel)) gdX8_at) w h⟩
def fX8_match_14 (v_wreck : Nat → Int32) (v_piece : Nat → Int32) (v_partner : Nat → Int32) (v_count : Int32) (v_might : Nat → Int32) (v_most : Nat → Int32) (v_mate : Nat → Int32) (x1 : Int32) : Option (Int32 × Int32 × (Nat → Int32) × (Nat → Int32) × (Nat → Int32)) :=
  (fX1_find v_count v_might v_most v_mate v_wreck v_piece v_partner).bind (fun r1001 =>
    if x1 = (-1 : Int32) then
      some (r1001.1, r1001.1, r1001.2.1, r1001.2.2.1, r1001.2.2.2)
    else
      (fX8_at 8 r1001.2.2.2 x1).bind (fun r1003 =>
        some (r1003, r1001.1, r1001.2.1, r1001.2.2.1, r1001.2.2.2)))
def fX8_match (v_wreck : Nat → Int32) (v_piece : Nat → Int32) (v_partner : Nat → Int32) (v_count : Int32) (v_might : Nat → Int32) (v_most : Nat → Int32) (v_mate : Nat → Int32) (x1 : Int32) : Option (Int32 × Int32 × (Nat → Int32) × (Nat → Int32) × (Nat → Int32)) :=
  if x1 = (-1 : Int32) then
    fX8_match_14 v_wreck v_piece v_partner v_count v_might v_most v_mate x1
  else
    (fX8_isHouse x1).bind (fun r2 =>
      if r2 = (0 : Int32) then
        some ((-1 : Int32), v_count, v_might, v_most, v_mate)
      else
        fX8_match_14 v_wreck v_piece v_partner v_count v_might v_most v_mate x1)
def wdX8_match (cI cZ : ClassId) (q0 : Nat) (q1 : Nat) (q2 : Nat) (q3 : Nat) (q4 : Nat) (q5 : Nat) (q6 : Nat) (q7 : Nat) (q8 : Nat) (q9 : Nat) (q10 : Nat) (d11 : Nat) (d12 : Nat) (d13 : Nat) (d14 : Nat) (d15 : Nat) (d16 : Nat) (d17 : Nat) (d18 : Nat) (d19 : Nat) (d20 : Nat) (d21 : Nat) (d22 : Nat) (d23 : Nat)  (v_wreck : Nat → Int32) (v_piece : Nat → Int32) (v_partner : Nat → Int32) (v_count : Int32) (v_might : Nat → Int32) (v_most : Nat → Int32) (v_mate : Nat → Int32) (v_firstKept : Int32) (v_secondKept : Int32) (v_year : Int32) : va_W := [(q0, .inr (8, [.ref q1, .ref d11, .ref d12, .int v_firstKept, .int v_secondKept, .ref d13, .ref d14, .ref d15, .ref q7])), (q1, .inr (5, [.ref q2, .ref q4, .ref d16, .int v_year])), (q2, .inr (3, [.ref q3, .ref d17, .ref d18, .ref d19, .ref d20, .ref d21, .ref d22])), (q3, .inl (cI, 10, .inl v_wreck)), (q4, .inr (0, [.ref q5, .ref q6, .ref d23])), (q5, .inl (cI, 8, .inl v_piece)), (q6, .inl (cI, 8, .inl v_partner)), (q7, .inr (1, [.ref q8, .ref q9, .ref q10, .int v_count])), (q8, .inl (cI, 8, .inl v_might)), (q9, .inl (cI, 256, .inl v_most)), (q10, .inl (cI, 8, .inl v_mate))]
abbrev rmX8_match : Jvm.Room := { frames := 5, cells := 0, slots := 0, locals := 109 }
theorem hyX8_match : yX8_match.cls ≠ "java/lang/invoke/MethodHandle" ∧ yX8_match.cls ≠ "java/lang/invoke/VarHandle" ∧ (parseMethodDescriptor yX8_match.desc).map (fun d => d.parameters.length) = some 1 := by decide +kernel
set_option maxHeartbeats 4000000 in
set_option maxRecDepth 100000 in
theorem mX8_match (l : Launch) (D : va_G) (cI cZ : ClassId) (q0 : Nat) (q1 : Nat) (q2 : Nat) (q3 : Nat) (q4 : Nat) (q5 : Nat) (q6 : Nat) (q7 : Nat) (q8 : Nat) (q9 : Nat) (q10 : Nat) (d11 : Nat) (d12 : Nat) (d13 : Nat) (d14 : Nat) (d15 : Nat) (d16 : Nat) (d17 : Nat) (d18 : Nat) (d19 : Nat) (d20 : Nat) (d21 : Nat) (d22 : Nat) (d23 : Nat) (v_wreck : Nat → Int32) (v_piece : Nat → Int32) (v_partner : Nat → Int32) (v_count : Int32) (v_might : Nat → Int32) (v_most : Nat → Int32) (v_mate : Nat → Int32) (v_firstKept : Int32) (v_secondKept : Int32) (v_year : Int32) (x1 : Int32) (z : Int32 × Int32 × (Nat → Int32) × (Nat → Int32) × (Nat → Int32)) (hF : fX8_match v_wreck v_piece v_partner v_count v_might v_most v_mate x1 = some z) : mp l yX8_match wtX8_match rmX8_match D cI cZ [.ref q0, .int x1] (wdX8_match cI cZ q0 q1 q2 q3 q4 q5 q6 q7 q8 q9 q10 d11 d12 d13 d14 d15 d16 d17 d18 d19 d20 d21 d22 d23 v_wreck v_piece v_partner v_count v_might v_most v_mate v_firstKept v_secondKept v_year) (some (.int z.1)) (wdX8_match cI cZ q0 q1 q2 q3 q4 q5 q6 q7 q8 q9 q10 d11 d12 d13 d14 d15 d16 d17 d18 d19 d20 d21 d22 d23 v_wreck v_piece v_partner z.2.1 z.2.2.1 z.2.2.2.1 z.2.2.2.2 v_firstKept v_secondKept v_year) := by
  refine mp_i (lv0 := [(0, .ref q0), (1, .int x1)]) cX8_match 2 z.1 (by decide) rfl (Nat.le_of_ble_eq_true rfl) rfl (fun E h hend0 => ?_)
  have hend : ∀ (z' : Int32 × Int32 × (Nat → Int32) × (Nat → Int32) × (Nat → Int32)), some z' = some z → ∀ (pc : Nat) (lv : List (Nat × Value)), decode cX8_match pc = .ok (.ireturn, 1) → G l D E 2 0 0 (wdX8_match cI cZ q0 q1 q2 q3 q4 q5 q6 q7 q8 q9 q10 d11 d12 d13 d14 d15 d16 d17 d18 d19 d20 d21 d22 d23 v_wreck v_piece v_partner (z'.2.1) (z'.2.2.1) (z'.2.2.2.1) (z'.2.2.2.2) v_firstKept v_secondKept v_year) pc lv [.int z'.1] := fun z' e => by cases e; exact hend0
  clear hend0
  have hL14 : ∀ (v_count : Int32) (v_might : Nat → Int32) (v_most : Nat → Int32) (v_mate : Nat → Int32), fX8_match_14 v_wreck v_piece v_partner v_count v_might v_most v_mate x1 = some z → G l D E 2 0 0 (wdX8_match cI cZ q0 q1 q2 q3 q4 q5 q6 q7 q8 q9 q10 d11 d12 d13 d14 d15 d16 d17 d18 d19 d20 d21 d22 d23 v_wreck v_piece v_partner v_count v_might v_most v_mate v_firstKept v_secondKept v_year) 14 [(0, .ref q0), (1, .int x1)] [] := by
    intro v_count v_might v_most v_mate hF
    rw [fX8_match_14] at hF
    refine g_aload_n (np := 15) h 0 rfl rfl dX8_match_14 rfl ?_
    refine g_get (np := 18) (T := TX8) h imX8_match_u_X8 0 8 rfl rfl 8 (by decide) (imX8_match_own _ (List.mem_of_getElem? (i := 0) rfl)) rfl dX8_match_15 rfl ?_
    refine g_aload_n (np := 19) h 0 rfl rfl dX8_match_18 rfl ?_
    refine g_get (np := 22) (T := TX8) h imX8_match_u_X8 0 8 rfl rfl 0 (by decide) (imX8_match_own _ (List.mem_of_getElem? (i := 1) rfl)) rfl dX8_match_19 rfl ?_
    obtain ⟨r1001, hr1001, hF⟩ := Option.bind_eq_some_iff.mp hF
    refine g_callV (np := 25) (Wd' := (wdX8_match cI cZ q0 q1 q2 q3 q4 q5 q6 q7 q8 q9 q10 d11 d12 d13 d14 d15 d16 d17 d18 d19 d20 d21 d22 d23 v_wreck v_piece v_partner r1001.1 r1001.2.1 r1001.2.2.1 r1001.2.2.2 v_firstKept v_secondKept v_year)) (As := [.ref q1]) h (mX1_find l D cI cZ q7 q8 q9 q10 q1 q2 q3 q4 q5 q6 d16 d17 d18 d19 d20 d21 d22 d23 v_count v_might v_most v_mate v_wreck v_piece v_partner v_year r1001 hr1001) gcX8_match_X1_find rfl ⟨rfl, rfl⟩ ⟨rfl, hyX1_find⟩ rfl 1 7 rfl rfl rfl rfl rfl rfl ⟨Nat.zero_le _, Nat.zero_le _⟩ [7, 8, 9, 10, 1, 2, 3, 4, 5, 6] [0] (N := 11) (by decide +kernel) rfl rfl rfl rfl rfl dX8_match_22 rfl ?_
    refine g_iload_n (np := 26) h 1 rfl rfl dX8_match_25 rfl ?_
    refine g_iconst (np := 27) (v := (-1 : Int32)) h (by decide) dX8_match_26 rfl ?_
    refine g_icmp_ne h hF dX8_match_27 (np := 30) rfl (tg := 40) rfl (fun c1002 hF => ?_) (fun c1002 hF => ?_)
    · refine g_aload_n (np := 41) h 0 rfl rfl dX8_match_40 rfl ?_
      refine g_get (np := 44) (T := TX8) h imX8_match_u_X8 0 8 rfl rfl 8 (by decide) (imX8_match_own _ (List.mem_of_getElem? (i := 0) rfl)) rfl dX8_match_41 rfl ?_
      refine g_get (np := 47) (T := TX1) h imX8_match_u_X1 7 1 rfl rfl 2 (by decide) (imX8_match_own _ (List.mem_of_getElem? (i := 3) rfl)) rfl dX8_match_44 rfl ?_
      refine g_iload_n (np := 48) h 1 rfl rfl dX8_match_47 rfl ?_
      obtain ⟨r1003, hr1003, hF⟩ := Option.bind_eq_some_iff.mp hF
      refine g_callS (np := 51) (Wd' := (wdX8_match cI cZ q0 q1 q2 q3 q4 q5 q6 q7 q8 q9 q10 d11 d12 d13 d14 d15 d16 d17 d18 d19 d20 d21 d22 d23 v_wreck v_piece v_partner r1001.1 r1001.2.1 r1001.2.2.1 r1001.2.2.2 v_firstKept v_secondKept v_year)) (As := [.ref q10, .int x1]) h (mX8_at l D cI cZ q10 8 r1001.2.2.2 x1 r1003 hr1003) gcX8_match_X8_at rfl ⟨rfl, rfl⟩ hyX8_at rfl rfl rfl rfl ⟨Nat.zero_le _, Nat.zero_le _⟩ [10] [0, 1, 2, 3, 4, 5, 6, 7, 8, 9] (N := 11) (by decide +kernel) rfl rfl rfl rfl rfl dX8_match_48 rfl ?_
      exact hend _ hF _ _ dX8_match_51
    · refine g_aload_n (np := 31) h 0 rfl rfl dX8_match_30 rfl ?_
      refine g_get (np := 34) (T := TX8) h imX8_match_u_X8 0 8 rfl rfl 8 (by decide) (imX8_match_own _ (List.mem_of_getElem? (i := 0) rfl)) rfl dX8_match_31 rfl ?_
      refine g_get (np := 37) (T := TX1) h imX8_match_u_X1 7 1 rfl rfl 3 (by decide) (imX8_match_own _ (List.mem_of_getElem? (i := 2) rfl)) rfl dX8_match_34 rfl ?_
      refine g_goto h dX8_match_37 (np := 51) rfl ?_
      exact hend _ hF _ _ dX8_match_51
  unfold fX8_match at hF
  refine g_iload_n (np := 1) h 1 rfl rfl dX8_match_0 rfl ?_
  refine g_iconst (np := 2) (v := (-1 : Int32)) h (by decide) dX8_match_1 rfl ?_
  refine g_icmp_eq h hF dX8_match_2 (np := 5) rfl (tg := 14) rfl (fun c1 hF => ?_) (fun c1 hF => ?_)
  · exact hL14 v_count v_might v_most v_mate hF
  · refine g_iload_n (np := 6) h 1 rfl rfl dX8_match_5 rfl ?_
    obtain ⟨r2, hr2, hF⟩ := Option.bind_eq_some_iff.mp hF
    refine g_callS (np := 9) (Wd' := (wdX8_match cI cZ q0 q1 q2 q3 q4 q5 q6 q7 q8 q9 q10 d11 d12 d13 d14 d15 d16 d17 d18 d19 d20 d21 d22 d23 v_wreck v_piece v_partner v_count v_might v_most v_mate v_firstKept v_secondKept v_year)) (As := [.int x1]) h (mX8_isHouse l D cI cZ x1 r2 hr2) gcX8_match_X8_isHouse rfl ⟨rfl, rfl⟩ hyX8_isHouse rfl rfl rfl rfl ⟨Nat.zero_le _, Nat.zero_le _⟩ [] [0, 1, 2, 3, 4, 5, 6, 7, 8, 9, 10] (N := 11) (by decide +kernel) rfl rfl rfl rfl rfl dX8_match_6 rfl ?_
    refine g_if_ne h hF dX8_match_9 (np := 12) rfl (tg := 14) rfl (fun c3 hF => ?_) (fun c3 hF => ?_)
    · exact hL14 v_count v_might v_most v_mate hF
    · refine g_iconst (np := 13) (v := (-1 : Int32)) h (by decide) dX8_match_12 rfl ?_
      exact hend _ hF _ _ dX8_match_13
theorem dX8_heard_0 : decode cX8_heard 0 = .ok (.iload_n 1, 1) := by decide +kernel
theorem dX8_heard_1 : decode cX8_heard 1 = .ok (.invokestatic 134, 3) := by decide +kernel
theorem dX8_heard_4 : decode cX8_heard 4 = .ok (.ifCond .ne 5, 3) := by decide +kernel
theorem dX8_heard_7 : decode cX8_heard 7 = .ok (.iconst (-1), 1) := by decide +kernel
theorem dX8_heard_8 : decode cX8_heard 8 = .ok (.ireturn, 1) := by decide +kernel
theorem dX8_heard_9 : decode cX8_heard 9 = .ok (.iload_n 2, 1) := by decide +kernel
theorem dX8_heard_10 : decode cX8_heard 10 = .ok (.iconst 0, 1) := by decide +kernel
theorem dX8_heard_11 : decode cX8_heard 11 = .ok (.bipush 7, 2) := by decide +kernel
theorem dX8_heard_13 : decode cX8_heard 13 = .ok (.invokestatic 61, 3) := by decide +kernel
theorem dX8_heard_16 : decode cX8_heard 16 = .ok (.ifCond .ne 6, 3) := by decide +kernel
theorem dX8_heard_19 : decode cX8_heard 19 = .ok (.bipush (-2), 2) := by decide +kernel
theorem dX8_heard_21 : decode cX8_heard 21 = .ok (.ireturn, 1) := by decide +kernel
theorem dX8_heard_22 : decode cX8_heard 22 = .ok (.aload_n 0, 1) := by decide +kernel
theorem dX8_heard_23 : decode cX8_heard 23 = .ok (.getfield 10, 3) := by decide +kernel
theorem dX8_heard_26 : decode cX8_heard 26 = .ok (.getfield 185, 3) := by decide +kernel
theorem dX8_heard_29 : decode cX8_heard 29 = .ok (.getfield 189, 3) := by decide +kernel
theorem dX8_heard_32 : decode cX8_heard 32 = .ok (.bipush 8, 2) := by decide +kernel
theorem dX8_heard_34 : decode cX8_heard 34 = .ok (.if_icmp .lt 6, 3) := by decide +kernel
theorem dX8_heard_37 : decode cX8_heard 37 = .ok (.bipush (-4), 2) := by decide +kernel
theorem dX8_heard_39 : decode cX8_heard 39 = .ok (.ireturn, 1) := by decide +kernel
theorem dX8_heard_40 : decode cX8_heard 40 = .ok (.aload_n 0, 1) := by decide +kernel
theorem dX8_heard_41 : decode cX8_heard 41 = .ok (.getfield 10, 3) := by decide +kernel
theorem dX8_heard_44 : decode cX8_heard 44 = .ok (.getfield 185, 3) := by decide +kernel
theorem dX8_heard_47 : decode cX8_heard 47 = .ok (.iload_n 1, 1) := by decide +kernel
theorem dX8_heard_48 : decode cX8_heard 48 = .ok (.iload_n 2, 1) := by decide +kernel
theorem dX8_heard_49 : decode cX8_heard 49 = .ok (.iload_n 3, 1) := by decide +kernel
theorem dX8_heard_50 : decode cX8_heard 50 = .ok (.invokevirtual 192, 3) := by decide +kernel
theorem dX8_heard_53 : decode cX8_heard 53 = .ok (.aload_n 0, 1) := by decide +kernel
theorem dX8_heard_54 : decode cX8_heard 54 = .ok (.getfield 10, 3) := by decide +kernel
theorem dX8_heard_57 : decode cX8_heard 57 = .ok (.getfield 185, 3) := by decide +kernel
theorem dX8_heard_60 : decode cX8_heard 60 = .ok (.getfield 189, 3) := by decide +kernel
theorem dX8_heard_63 : decode cX8_heard 63 = .ok (.ireturn, 1) := by decide +kernel
def wtX8_heard : List Cond := .code yX8_heard cX8_heard 4 (some .int) :: (([.fieldLink RX8 10 "DriftKin" "now" "LDriftKin$Shore;", .fieldLink RX8 185 "DriftKin$Shore" "sights" "LDriftKin$Sights;", .fieldLink RX8 189 "DriftKin$Sights" "count" "I"]) ++ ((u_ws RX5 TX5 4) ++ ((u_ws RX6 TX6 4) ++ ((u_ws RX8 TX8 9) ++ ((va_wsS RX8 134 yX8_isHouse wtX8_isHouse) ++ ((va_wsS RX8 61 yX8_within wtX8_within) ++ ((wsV RX8 192 RX6 yX6_add wtX6_add) ++ [])))))))
theorem imX8_heard_own : ∀ w ∈ ([.fieldLink RX8 10 "DriftKin" "now" "LDriftKin$Shore;", .fieldLink RX8 185 "DriftKin$Shore" "sights" "LDriftKin$Sights;", .fieldLink RX8 189 "DriftKin$Sights" "count" "I"] : List Cond), w ∈ wtX8_heard := fun w h => List.mem_cons_of_mem _ (inl h)
theorem imX8_heard_u_X5 : ∀ w ∈ (u_ws RX5 TX5 4 : List Cond), w ∈ wtX8_heard := fun w h => List.mem_cons_of_mem _ (inr (inl h))
theorem imX8_heard_u_X6 : ∀ w ∈ (u_ws RX6 TX6 4 : List Cond), w ∈ wtX8_heard := fun w h => List.mem_cons_of_mem _ (inr (inr (inl h)))
theorem imX8_heard_u_X8 : ∀ w ∈ (u_ws RX8 TX8 9 : List Cond), w ∈ wtX8_heard := fun w h => List.mem_cons_of_mem _ (inr (inr (inr (inl h))))
theorem imX8_heard_c_X8_isHouse : ∀ w ∈ (va_wsS RX8 134 yX8_isHouse wtX8_isHouse : List Cond), w ∈ wtX8_heard := fun w h => List.mem_cons_of_mem _ (inr (inr (inr (inr (inl h)))))
theorem imX8_heard_c_X8_within : ∀ w ∈ (va_wsS RX8 61 yX8_within wtX8_within : List Cond), w ∈ wtX8_heard := fun w h => List.mem_cons_of_mem _ (inr (inr (inr (inr (inr (inl h))))))
theorem imX8_heard_c_X6_add : ∀ w ∈ (wsV RX8 192 RX6 yX6_add wtX6_add : List Cond), w ∈ wtX8_heard := fun w h => List.mem_cons_of_mem _ (inr (inr (inr (inr (inr (inr (inl h)))))))
theorem gdX8_heard : ∀ w ∈ wtX8_heard, Gd w := gdc rfl (gda (gdl (by decide +kernel)) (gda (gdu _ _ _) (gda (gdu _ _ _) (gda (gdu _ _ _) (gda (gda (gdl (by decide +kernel)) gdX8_isHouse) (gda (gda (gdl (by decide +kernel)) gdX8_within) (gda (gda (gdl (by decide +kernel)) gdX6_add) gdn)))))))
theorem gcX8_heard_X8_isHouse : GoodIn wtX8_heard (va_wsS RX8 134 yX8_isHouse wtX8_isHouse) := fun w h => ⟨imX8_heard_c_X8_isHouse w h, (gda (gdl (by decide +kernel)) gdX8_isHouse) w h⟩
theorem gcX8_heard_X8_within : GoodIn wtX8_heard (va_wsS RX8 61 yX8_within wtX8_within) := fun w h => ⟨imX8_heard_c_X8_within w h, (gda (gdl (by decide +kernel)) gdX8_within) w h⟩
theorem gcX8_heard_X6_add : GoodIn wtX8_heard (wsV RX8 192 RX6 yX6_add wtX6_add) := fun w h => ⟨imX8_heard_c_X6_add w h, (gda (gdl (by decide +kernel)) gdX6_add) w h⟩
def fX8_heard (v_count : Int32) (v_house : Nat → Int32) (v_reach : Nat → Int32) (v_sounded : Nat → Int32) (x1 : Int32) (x2 : Int32) (x3 : Int32) : Option (Int32 × Int32 × (Nat → Int32) × (Nat → Int32) × (Nat → Int32)) :=
  (fX8_isHouse x1).bind (fun r1 =>
    if r1 = (0 : Int32) then
      some ((-1 : Int32), v_count, v_house, v_reach, v_sounded)
    else
      (fX8_within x2 (0 : Int32) (7 : Int32)).bind (fun r3 =>
        if r3 = (0 : Int32) then
          some ((-2 : Int32), v_count, v_house, v_reach, v_sounded)
        else
          if v_count < (8 : Int32) then
            (fX6_add v_count v_house v_reach v_sounded x1 x2 x3).bind (fun r6 =>
              some (r6.1, r6.1, r6.2.1, r6.2.2.1, r6.2.2.2))
          else
            some ((-4 : Int32), v_count, v_house, v_reach, v_sounded)))
def wdX8_heard (cI cZ : ClassId) (q0 : Nat) (q1 : Nat) (q2 : Nat) (q3 : Nat) (q4 : Nat) (q5 : Nat) (d6 : Nat) (d7 : Nat) (d8 : Nat) (d9 : Nat) (d10 : Nat) (d11 : Nat) (d12 : Nat) (d13 : Nat)  (v_count : Int32) (v_house : Nat → Int32) (v_reach : Nat → Int32) (v_sounded : Nat → Int32) (v_firstKept : Int32) (v_secondKept : Int32) (v_year : Int32) : va_W := [(q0, .inr (8, [.ref q1, .ref d6, .ref d7, .int v_firstKept, .int v_secondKept, .ref d8, .ref d9, .ref d10, .ref d11])), (q1, .inr (5, [.ref d12, .ref d13, .ref q2, .int v_year])), (q2, .inr (6, [.ref q3, .ref q4, .ref q5, .int v_count])), (q3, .inl (cI, 8, .inl v_house)), (q4, .inl (cI, 8, .inl v_reach)), (q5, .inl (cI, 8, .inl v_sounded))]
abbrev rmX8_heard : Jvm.Room := { frames := 2, cells := 0, slots := 0, locals := 45 }
theorem hyX8_heard : yX8_heard.cls ≠ "java/lang/invoke/MethodHandle" ∧ yX8_heard.cls ≠ "java/lang/invoke/VarHandle" ∧ (parseMethodDescriptor yX8_heard.desc).map (fun d => d.parameters.length) = some 3 := by decide +kernel
set_option maxHeartbeats 4000000 in
set_option maxRecDepth 100000 in
theorem mX8_heard (l : Launch) (D : va_G) (cI cZ : ClassId) (q0 : Nat) (q1 : Nat) (q2 : Nat) (q3 : Nat) (q4 : Nat) (q5 : Nat) (d6 : Nat) (d7 : Nat) (d8 : Nat) (d9 : Nat) (d10 : Nat) (d11 : Nat) (d12 : Nat) (d13 : Nat) (v_count : Int32) (v_house : Nat → Int32) (v_reach : Nat → Int32) (v_sounded : Nat → Int32) (v_firstKept : Int32) (v_secondKept : Int32) (v_year : Int32) (x1 : Int32) (x2 : Int32) (x3 : Int32) (z : Int32 × Int32 × (Nat → Int32) × (Nat → Int32) × (Nat → Int32)) (hF : fX8_heard v_count v_house v_reach v_sounded x1 x2 x3 = some z) : mp l yX8_heard wtX8_heard rmX8_heard D cI cZ [.ref q0, .int x1, .int x2, .int x3] (wdX8_heard cI cZ q0 q1 q2 q3 q4 q5 d6 d7 d8 d9 d10 d11 d12 d13 v_count v_house v_reach v_sounded v_firstKept v_secondKept v_year) (some (.int z.1)) (wdX8_heard cI cZ q0 q1 q2 q3 q4 q5 d6 d7 d8 d9 d10 d11 d12 d13 z.2.1 z.2.2.1 z.2.2.2.1 z.2.2.2.2 v_firstKept v_secondKept v_year) := by
  refine mp_i (lv0 := [(0, .ref q0), (1, .int x1), (2, .int x2), (3, .int x3)]) cX8_heard 4 z.1 (by decide) rfl (Nat.le_of_ble_eq_true rfl) rfl (fun E h hend0 => ?_)
  have hend : ∀ (z' : Int32 × Int32 × (Nat → Int32) × (Nat → Int32) × (Nat → Int32)), some z' = some z → ∀ (pc : Nat) (lv : List (Nat × Value)), decode cX8_heard pc = .ok (.ireturn, 1) → G l D E 4 0 0 (wdX8_heard cI cZ q0 q1 q2 q3 q4 q5 d6 d7 d8 d9 d10 d11 d12 d13 (z'.2.1) (z'.2.2.1) (z'.2.2.2.1) (z'.2.2.2.2) v_firstKept v_secondKept v_year) pc lv [.int z'.1] := fun z' e => by cases e; exact hend0
  clear hend0
  unfold fX8_heard at hF
  refine g_iload_n (np := 1) h 1 rfl rfl dX8_heard_0 rfl ?_
  obtain ⟨r1, hr1, hF⟩ := Option.bind_eq_some_iff.mp hF
  refine g_callS (np := 4) (Wd' := (wdX8_heard cI cZ q0 q1 q2 q3 q4 q5 d6 d7 d8 d9 d10 d11 d12 d13 v_count v_house v_reach v_sounded v_firstKept v_secondKept v_year)) (As := [.int x1]) h (mX8_isHouse l D cI cZ x1 r1 hr1) gcX8_heard_X8_isHouse rfl ⟨rfl, rfl⟩ hyX8_isHouse rfl rfl rfl rfl ⟨Nat.zero_le _, Nat.zero_le _⟩ [] [0, 1, 2, 3, 4, 5] (N := 6) (by decide +kernel) rfl rfl rfl rfl rfl dX8_heard_1 rfl ?_
  refine g_if_ne h hF dX8_heard_4 (np := 7) rfl (tg := 9) rfl (fun c2 hF => ?_) (fun c2 hF => ?_)
  · refine g_iload_n (np := 10) h 2 rfl rfl dX8_heard_9 rfl ?_
    refine g_iconst (np := 11) (v := (0 : Int32)) h (by decide) dX8_heard_10 rfl ?_
    refine g_bipush (np := 13) (v := (7 : Int32)) h (by decide) dX8_heard_11 rfl ?_
    obtain ⟨r3, hr3, hF⟩ := Option.bind_eq_some_iff.mp hF
    refine g_callS (np := 16) (Wd' := (wdX8_heard cI cZ q0 q1 q2 q3 q4 q5 d6 d7 d8 d9 d10 d11 d12 d13 v_count v_house v_reach v_sounded v_firstKept v_secondKept v_year)) (As := [.int x2, .int (0 : Int32), .int (7 : Int32)]) h (mX8_within l D cI cZ x2 (0 : Int32) (7 : Int32) r3 hr3) gcX8_heard_X8_within rfl ⟨rfl, rfl⟩ hyX8_within rfl rfl rfl rfl ⟨Nat.zero_le _, Nat.zero_le _⟩ [] [0, 1, 2, 3, 4, 5] (N := 6) (by decide +kernel) rfl rfl rfl rfl rfl dX8_heard_13 rfl ?_
    refine g_if_ne h hF dX8_heard_16 (np := 19) rfl (tg := 22) rfl (fun c4 hF => ?_) (fun c4 hF => ?_)
    · refine g_aload_n (np := 23) h 0 rfl rfl dX8_heard_22 rfl ?_
      refine g_get (np := 26) (T := TX8) h imX8_heard_u_X8 0 8 rfl rfl 0 (by decide) (imX8_heard_own _ (List.mem_of_getElem? (i := 0) rfl)) rfl dX8_heard_23 rfl ?_
      refine g_get (np := 29) (T := TX5) h imX8_heard_u_X5 1 5 rfl rfl 2 (by decide) (imX8_heard_own _ (List.mem_of_getElem? (i := 1) rfl)) rfl dX8_heard_26 rfl ?_
      refine g_get (np := 32) (T := TX6) h imX8_heard_u_X6 2 6 rfl rfl 3 (by decide) (imX8_heard_own _ (List.mem_of_getElem? (i := 2) rfl)) rfl dX8_heard_29 rfl ?_
      refine g_bipush (np := 34) (v := (8 : Int32)) h (by decide) dX8_heard_32 rfl ?_
      refine g_icmp_lt h hF dX8_heard_34 (np := 37) rfl (tg := 40) rfl (fun c5 hF => ?_) (fun c5 hF => ?_)
      · refine g_aload_n (np := 41) h 0 rfl rfl dX8_heard_40 rfl ?_
        refine g_get (np := 44) (T := TX8) h imX8_heard_u_X8 0 8 rfl rfl 0 (by decide) (imX8_heard_own _ (List.mem_of_getElem? (i := 0) rfl)) rfl dX8_heard_41 rfl ?_
        refine g_get (np := 47) (T := TX5) h imX8_heard_u_X5 1 5 rfl rfl 2 (by decide) (imX8_heard_own _ (List.mem_of_getElem? (i := 1) rfl)) rfl dX8_heard_44 rfl ?_
        refine g_iload_n (np := 48) h 1 rfl rfl dX8_heard_47 rfl ?_
        refine g_iload_n (np := 49) h 2 rfl rfl dX8_heard_48 rfl ?_
        refine g_iload_n (np := 50) h 3 rfl rfl dX8_heard_49 rfl ?_
        obtain ⟨r6, hr6, hF⟩ := Option.bind_eq_some_iff.mp hF
        refine g_callV (np := 53) (Wd' := (wdX8_heard cI cZ q0 q1 q2 q3 q4 q5 d6 d7 d8 d9 d10 d11 d12 d13 r6.1 r6.2.1 r6.2.2.1 r6.2.2.2 v_firstKept v_secondKept v_year)) (As := [.int x1, .int x2, .int x3]) h (mX6_add l D cI cZ q2 q3 q4 q5 v_count v_house v_reach v_sounded x1 x2 x3 r6 hr6) gcX8_heard_X6_add rfl ⟨rfl, rfl⟩ ⟨rfl, hyX6_add⟩ rfl 6 2 rfl rfl rfl rfl rfl rfl ⟨Nat.zero_le _, Nat.zero_le _⟩ [2, 3, 4, 5] [0, 1] (N := 6) (by decide +kernel) rfl rfl rfl rfl rfl dX8_heard_50 rfl ?_
        refine g_aload_n (np := 54) h 0 rfl rfl dX8_heard_53 rfl ?_
        refine g_get (np := 57) (T := TX8) h imX8_heard_u_X8 0 8 rfl rfl 0 (by decide) (imX8_heard_own _ (List.mem_of_getElem? (i := 0) rfl)) rfl dX8_heard_54 rfl ?_
        refine g_get (np := 60) (T := TX5) h imX8_heard_u_X5 1 5 rfl rfl 2 (by decide) (imX8_heard_own _ (List.mem_of_getElem? (i := 1) rfl)) rfl dX8_heard_57 rfl ?_
        refine g_get (np := 63) (T := TX6) h imX8_heard_u_X6 2 6 rfl rfl 3 (by decide) (imX8_heard_own _ (List.mem_of_getElem? (i := 2) rfl)) rfl dX8_heard_60 rfl ?_
        exact hend _ hF _ _ dX8_heard_63
      · refine g_bipush (np := 39) (v := (-4 : Int32)) h (by decide) dX8_heard_37 rfl ?_
        exact hend _ hF _ _ dX8_heard_39
    · refine g_bipush (np := 21) (v := (-2 : Int32)) h (by decide) dX8_heard_19 rfl ?_
      exact hend _ hF _ _ dX8_heard_21
  · refine g_iconst (np := 8) (v := (-1 : Int32)) h (by decide) dX8_heard_7 rfl ?_
    exact hend _ hF _ _ dX8_heard_8
theorem dX8_forget_0 : decode cX8_forget 0 = .ok (.aload_n 0, 1) := by decide +kernel
theorem dX8_forget_1 : decode cX8_forget 1 = .ok (.getfield 10, 3) := by decide +kernel
theorem dX8_forget_4 : decode cX8_forget 4 = .ok (.getfield 185, 3) := by decide +kernel
theorem dX8_forget_7 : decode cX8_forget 7 = .ok (.getfield 189, 3) := by decide +kernel
theorem dX8_forget_10 : decode cX8_forget 10 = .ok (.istore_n 1, 1) := by decide +kernel
theorem dX8_forget_11 : decode cX8_forget 11 = .ok (.aload_n 0, 1) := by decide +kernel
theorem dX8_forget_12 : decode cX8_forget 12 = .ok (.getfield 10, 3) := by decide +kernel
theorem dX8_forget_15 : decode cX8_forget 15 = .ok (.getfield 185, 3) := by decide +kernel
theorem dX8_forget_18 : decode cX8_forget 18 = .ok (.iconst 0, 1) := by decide +kernel
theorem dX8_forget_19 : decode cX8_forget 19 = .ok (.putfield 189, 3) := by decide +kernel
theorem dX8_forget_22 : decode cX8_forget 22 = .ok (.iload_n 1, 1) := by decide +kernel
theorem dX8_forget_23 : decode cX8_forget 23 = .ok (.ireturn, 1) := by decide +kernel
def wtX8_forget : List Cond := .code yX8_forget cX8_forget 2 (some .int) :: (([.fieldLink RX8 10 "DriftKin" "now" "LDriftKin$Shore;", .fieldLink RX8 185 "DriftKin$Shore" "sights" "LDriftKin$Sights;", .fieldLink RX8 189 "DriftKin$Sights" "count" "I"]) ++ ((u_ws RX5 TX5 4) ++ ((u_ws RX6 TX6 4) ++ ((u_ws RX8 TX8 9) ++ []))))
theorem imX8_forget_own : ∀ w ∈ ([.fieldLink RX8 10 "DriftKin" "now" "LDriftKin$Shore;", .fieldLink RX8 185 "DriftKin$Shore" "sights" "LDriftKin$Sights;", .fieldLink RX8 189 "DriftKin$Sights" "count" "I"] : List Cond), w ∈ wtX8_forget := fun w h => List.mem_cons_of_mem _ (inl h)
theorem imX8_forget_u_X5 : ∀ w ∈ (u_ws RX5 TX5 4 : List Cond), w ∈ wtX8_forget := fun w h => List.mem_cons_of_mem _ (inr (inl h))
theorem imX8_forget_u_X6 : ∀ w ∈ (u_ws RX6 TX6 4 : List Cond), w ∈ wtX8_forget := fun w h => List.mem_cons_of_mem _ (inr (inr (inl h)))
theorem imX8_forget_u_X8 : ∀ w ∈ (u_ws RX8 TX8 9 : List Cond), w ∈ wtX8_forget := fun w h => List.mem_cons_of_mem _ (inr (inr (inr (inl h))))
theorem gdX8_forget : ∀ w ∈ wtX8_forget, Gd w := gdc rfl (gda (gdl (by decide +kernel)) (gda (gdu _ _ _) (gda (gdu _ _ _) (gda (gdu _ _ _) gdn))))
def fX8_forget (v_count : Int32) : Option (Int32 × Int32) :=
  some (v_count, (0 : Int32))
def wdX8_forget (cI cZ : ClassId) (q0 : Nat) (q1 : Nat) (q2 : Nat) (d3 : Nat) (d4 : Nat) (d5 : Nat) (d6 : Nat) (d7 : Nat) (d8 : Nat) (d9 : Nat) (d10 : Nat) (d11 : Nat) (d12 : Nat) (d13 : Nat)  (v_count : Int32) (v_firstKept : Int32) (v_secondKept : Int32) (v_year : Int32) : va_W := [(q0, .inr (8, [.ref q1, .ref d3, .ref d4, .int v_firstKept, .int v_secondKept, .ref d5, .ref d6, .ref d7, .ref d8])), (q1, .inr (5, [.ref d9, .ref d10, .ref q2, .int v_year])), (q2, .inr (6, [.ref d11, .ref d12, .ref d13, .int v_count]))]
abbrev rmX8_forget : Jvm.Room := { frames := 0, cells := 0, slots := 0, locals := 0 }
theorem hyX8_forget : yX8_forget.cls ≠ "java/lang/invoke/MethodHandle" ∧ yX8_forget.cls ≠ "java/lang/invoke/VarHandle" ∧ (parseMethodDescriptor yX8_forget.desc).map (fun d => d.parameters.length) = some 0 := by decide +kernel
set_option maxHeartbeats 4000000 in
set_option maxRecDepth 100000 in
theorem mX8_forget (l : Launch) (D : va_G) (cI cZ : ClassId) (q0 : Nat) (q1 : Nat) (q2 : Nat) (d3 : Nat) (d4 : Nat) (d5 : Nat) (d6 : Nat) (d7 : Nat) (d8 : Nat) (d9 : Nat) (d10 : Nat) (d11 : Nat) (d12 : Nat) (d13 : Nat) (v_count : Int32) (v_firstKept : Int32) (v_secondKept : Int32) (v_year : Int32) (z : Int32 × Int32) (hF : fX8_forget v_count = some z) : mp l yX8_forget wtX8_forget rmX8_forget D cI cZ [.ref q0] (wdX8_forget cI cZ q0 q1 q2 d3 d4 d5 d6 d7 d8 d9 d10 d11 d12 d13 v_count v_firstKept v_secondKept v_year) (some (.int z.1)) (wdX8_forget cI cZ q0 q1 q2 d3 d4 d5 d6 d7 d8 d9 d10 d11 d12 d13 z.2 v_firstKept v_secondKept v_year) := by
  refine mp_i (lv0 := [(0, .ref q0)]) cX8_forget 2 z.1 (by decide) rfl (Nat.le_of_ble_eq_true rfl) rfl (fun E h hend0 => ?_)
  have hend : ∀ (z' : Int32 × Int32), some z' = some z → ∀ (pc : Nat) (lv : List (Nat × Value)), decode cX8_forget pc = .ok (.ireturn, 1) → G l D E 2 0 0 (wdX8_forget cI cZ q0 q1 q2 d3 d4 d5 d6 d7 d8 d9 d10 d11 d12 d13 (z'.2) v_firstKept v_secondKept v_year) pc lv [.int z'.1] := fun z' e => by cases e; exact hend0
  clear hend0
  unfold fX8_forget at hF
  refine g_aload_n (np := 1) h 0 rfl rfl dX8_forget_0 rfl ?_
  refine g_get (np := 4) (T := TX8) h imX8_forget_u_X8 0 8 rfl rfl 0 (by decide) (imX8_forget_own _ (List.mem_of_getElem? (i := 0) rfl)) rfl dX8_forget_1 rfl ?_
  refine g_get (np := 7) (T := TX5) h imX8_forget_u_X5 1 5 rfl rfl 2 (by decide) (imX8_forget_own _ (List.mem_of_getElem? (i := 1) rfl)) rfl dX8_forget_4 rfl ?_
  refine g_get (np := 10) (T := TX6) h imX8_forget_u_X6 2 6 rfl rfl 3 (by decide) (imX8_forget_own _ (List.mem_of_getElem? (i := 2) rfl)) rfl dX8_forget_7 rfl ?_
  refine g_istore_n (np := 11) (lv' := [(1, .int v_count), (0, .ref q0)]) h rfl (by decide) rfl dX8_forget_10 rfl ?_
  refine g_aload_n (np := 12) h 1 rfl rfl dX8_forget_11 rfl ?_
  refine g_get (np := 15) (T := TX8) h imX8_forget_u_X8 0 8 rfl rfl 0 (by decide) (imX8_forget_own _ (List.mem_of_getElem? (i := 0) rfl)) rfl dX8_forget_12 rfl ?_
  refine g_get (np := 18) (T := TX5) h imX8_forget_u_X5 1 5 rfl rfl 2 (by decide) (imX8_forget_own _ (List.mem_of_getElem? (i := 1) rfl)) rfl dX8_forget_15 rfl ?_
  refine g_iconst (np := 19) (v := (0 : Int32)) h (by decide) dX8_forget_18 rfl ?_
  refine g_put (np := 22) (T := TX6) (Wd' := (wdX8_forget cI cZ q0 q1 q2 d3 d4 d5 d6 d7 d8 d9 d10 d11 d12 d13 (0 : Int32) v_firstKept v_secondKept v_year)) h imX8_forget_u_X6 tyX6_ok nmX6 2 6 rfl rfl 3 (by decide) (imX8_forget_own _ (List.mem_of_getElem? (i := 2) rfl)) rfl rfl rfl (Nat.le_of_ble_eq_true rfl) rfl dX8_forget_19 rfl ?_
  refine g_iload_n (np := 23) h 0 rfl rfl dX8_forget_22 rfl ?_
  exact hend _ hF _ _ dX8_forget_23
theorem dX8_wheel_0 : decode cX8_wheel 0 = .ok (.aload_n 0, 1) := by decide +kernel
theorem dX8_wheel_1 : decode cX8_wheel 1 = .ok (.getfield 10, 3) := by decide +kernel
theorem dX8_wheel_4 : decode cX8_wheel 4 = .ok (.getfield 185, 3) := by decide +kernel
theorem dX8_wheel_7 : decode cX8_wheel 7 = .ok (.invokevirtual 196, 3) := by decide +kernel
theorem dX8_wheel_10 : decode cX8_wheel 10 = .ok (.ireturn, 1) := by decide +kernel
def wtX8_wheel : List Cond := .code yX8_wheel cX8_wheel 1 (some .int) :: (([.fieldLink RX8 10 "DriftKin" "now" "LDriftKin$Shore;", .fieldLink RX8 185 "DriftKin$Shore" "sights" "LDriftKin$Sights;"]) ++ ((u_ws RX5 TX5 4) ++ ((u_ws RX8 TX8 9) ++ ((wsV RX8 196 RX6 yX6_bitsLeft wtX6_bitsLeft) ++ []))))
theorem imX8_wheel_own : ∀ w ∈ ([.fieldLink RX8 10 "DriftKin" "now" "LDriftKin$Shore;", .fieldLink RX8 185 "DriftKin$Shore" "sights" "LDriftKin$Sights;"] : List Cond), w ∈ wtX8_wheel := fun w h => List.mem_cons_of_mem _ (inl h)
theorem imX8_wheel_u_X5 : ∀ w ∈ (u_ws RX5 TX5 4 : List Cond), w ∈ wtX8_wheel := fun w h => List.mem_cons_of_mem _ (inr (inl h))
theorem imX8_wheel_u_X8 : ∀ w ∈ (u_ws RX8 TX8 9 : List Cond), w ∈ wtX8_wheel := fun w h => List.mem_cons_of_mem _ (inr (inr (inl h)))
theorem imX8_wheel_c_X6_bitsLeft : ∀ w ∈ (wsV RX8 196 RX6 yX6_bitsLeft wtX6_bitsLeft : List Cond), w ∈ wtX8_wheel := fun w h => List.mem_cons_of_mem _ (inr (inr (inr (inl h))))
theorem gdX8_wheel : ∀ w ∈ wtX8_wheel, Gd w := gdc rfl (gda (gdl (by decide +kernel)) (gda (gdu _ _ _) (gda (gdu _ _ _) (gda (gda (gdl (by decide +kernel)) gdX6_bitsLeft) gdn))))
theorem gcX8_wheel_X6_bitsLeft : GoodIn wtX8_wheel (wsV RX8 196 RX6 yX6_bitsLeft wtX6_bitsLeft) := fun w h => ⟨imX8_wheel_c_X6_bitsLeft w h, (gda (gdl (by decide +kernel)) gdX6_bitsLeft) w h⟩
def fX8_wheel (v_count : Int32) (v_house : Nat → Int32) (v_reach : Nat → Int32) (v_sounded : Nat → Int32) : Option (Int32) :=
  (fX6_bitsLeft v_count v_house v_reach v_sounded).bind (fun r1 =>
    some r1)
def wdX8_wheel (cI cZ : ClassId) (q0 : Nat) (q1 : Nat) (q2 : Nat) (q3 : Nat) (q4 : Nat) (q5 : Nat) (d6 : Nat) (d7 : Nat) (d8 : Nat) (d9 : Nat) (d10 : Nat) (d11 : Nat) (d12 : Nat) (d13 : Nat)  (v_count : Int32) (v_house : Nat → Int32) (v_reach : Nat → Int32) (v_sounded : Nat → Int32) (v_firstKept : Int32) (v_secondKept : Int32) (v_year : Int32) : va_W := [(q0, .inr (8, [.ref q1, .ref d6, .ref d7, .int v_firstKept, .int v_secondKept, .ref d8, .ref d9, .ref d10, .ref d11])), (q1, .inr (5, [.ref d12, .ref d13, .ref q2, .int v_year])), (q2, .inr (6, [.ref q3, .ref q4, .ref q5, .int v_count])), (q3, .inl (cI, 8, .inl v_house)), (q4, .inl (cI, 8, .inl v_reach)), (q5, .inl (cI, 8, .inl v_sounded))]
abbrev rmX8_wheel : Jvm.Room := { frames := 3, cells := 0, slots := 0, locals := 67 }
theorem hyX8_wheel : yX8_wheel.cls ≠ "java/lang/invoke/MethodHandle" ∧ yX8_wheel.cls ≠ "java/lang/invoke/VarHandle" ∧ (parseMethodDescriptor yX8_wheel.desc).map (fun d => d.parameters.length) = some 0 := by decide +kernel
set_option maxHeartbeats 4000000 in
set_option maxRecDepth 100000 in
theorem mX8_wheel (l : Launch) (D : va_G) (cI cZ : ClassId) (q0 : Nat) (q1 : Nat) (q2 : Nat) (q3 : Nat) (q4 : Nat) (q5 : Nat) (d6 : Nat) (d7 : Nat) (d8 : Nat) (d9 : Nat) (d10 : Nat) (d11 : Nat) (d12 : Nat) (d13 : Nat) (v_count : Int32) (v_house : Nat → Int32) (v_reach : Nat → Int32) (v_sounded : Nat → Int32) (v_firstKept : Int32) (v_secondKept : Int32) (v_year : Int32) (z : Int32) (hF : fX8_wheel v_count v_house v_reach v_sounded = some z) : mp l yX8_wheel wtX8_wheel rmX8_wheel D cI cZ [.ref q0] (wdX8_wheel cI cZ q0 q1 q2 q3 q4 q5 d6 d7 d8 d9 d10 d11 d12 d13 v_count v_house v_reach v_sounded v_firstKept v_secondKept v_year) (some (.int z)) (wdX8_wheel cI cZ q0 q1 q2 q3 q4 q5 d6 d7 d8 d9 d10 d11 d12 d13 v_count v_house v_reach v_sounded v_firstKept v_secondKept v_year) := by
  refine mp_i (lv0 := [(0, .ref q0)]) cX8_wheel 1 z (by decide) rfl (Nat.le_of_ble_eq_true rfl) rfl (fun E h hend0 => ?_)
  have hend : ∀ (z' : Int32), some z' = some z → ∀ (pc : Nat) (lv : List (Nat × Value)), decode cX8_wheel pc = .ok (.ireturn, 1) → G l D E 1 0 0 (wdX8_wheel cI cZ q0 q1 q2 q3 q4 q5 d6 d7 d8 d9 d10 d11 d12 d13 v_count v_house v_reach v_sounded v_firstKept v_secondKept v_year) pc lv [.int z'] := fun z' e => by cases e; exact hend0
  clear hend0
  unfold fX8_wheel at hF
  refine g_aload_n (np := 1) h 0 rfl rfl dX8_wheel_0 rfl ?_
  refine g_get (np := 4) (T := TX8) h imX8_wheel_u_X8 0 8 rfl rfl 0 (by decide) (imX8_wheel_own _ (List.mem_of_getElem? (i := 0) rfl)) rfl dX8_wheel_1 rfl ?_
  refine g_get (np := 7) (T := TX5) h imX8_wheel_u_X5 1 5 rfl rfl 2 (by decide) (imX8_wheel_own _ (List.mem_of_getElem? (i := 1) rfl)) rfl dX8_wheel_4 rfl ?_
  obtain ⟨r1, hr1, hF⟩ := Option.bind_eq_some_iff.mp hF
  refine g_callV (np := 10) (Wd' := (wdX8_wheel cI cZ q0 q1 q2 q3 q4 q5 d6 d7 d8 d9 d10 d11 d12 d13 v_count v_house v_reach v_sounded v_firstKept v_secondKept v_year)) (As := []) h (mX6_bitsLeft l D cI cZ q2 q3 q4 q5 v_count v_house v_reach v_sounded r1 hr1) gcX8_wheel_X6_bitsLeft rfl ⟨rfl, rfl⟩ ⟨rfl, hyX6_bitsLeft⟩ rfl 6 2 rfl rfl rfl rfl rfl rfl ⟨Nat.zero_le _, Nat.zero_le _⟩ [2, 3, 4, 5] [0, 1] (N := 6) (by decide +kernel) rfl rfl rfl rfl rfl dX8_wheel_7 rfl ?_
  exact hend _ hF _ _ dX8_wheel_10
theorem dX8_ask_0 : decode cX8_ask 0 = .ok (.iload_n 1, 1) := by decide +kernel
theorem dX8_ask_1 : decode cX8_ask 1 = .ok (.iconst 0, 1) := by decide +kernel
theorem dX8_ask_2 : decode cX8_ask 2 = .ok (.iconst 1, 1) := by decide +kernel
theorem dX8_ask_3 : decode cX8_ask 3 = .ok (.invokestatic 61, 3) := by decide +kernel
theorem dX8_ask_6 : decode cX8_ask 6 = .ok (.ifCond .ne 6, 3) := by decide +kernel
theorem dX8_ask_9 : decode cX8_ask 9 = .ok (.bipush (-2), 2) := by decide +kernel
theorem dX8_ask_11 : decode cX8_ask 11 = .ok (.ireturn, 1) := by decide +kernel
theorem dX8_ask_12 : decode cX8_ask 12 = .ok (.aload_n 0, 1) := by decide +kernel
theorem dX8_ask_13 : decode cX8_ask 13 = .ok (.getfield 10, 3) := by decide +kernel
theorem dX8_ask_16 : decode cX8_ask 16 = .ok (.getfield 185, 3) := by decide +kernel
theorem dX8_ask_19 : decode cX8_ask 19 = .ok (.invokevirtual 196, 3) := by decide +kernel
theorem dX8_ask_22 : decode cX8_ask 22 = .ok (.istore_n 2, 1) := by decide +kernel
theorem dX8_ask_23 : decode cX8_ask 23 = .ok (.iload_n 2, 1) := by decide +kernel
theorem dX8_ask_24 : decode cX8_ask 24 = .ok (.ifCond .ne 6, 3) := by decide +kernel
theorem dX8_ask_27 : decode cX8_ask 27 = .ok (.bipush (-6), 2) := by decide +kernel
theorem dX8_ask_29 : decode cX8_ask 29 = .ok (.ireturn, 1) := by decide +kernel
theorem dX8_ask_30 : decode cX8_ask 30 = .ok (.bipush 9, 2) := by decide +kernel
theorem dX8_ask_32 : decode cX8_ask 32 = .ok (.istore_n 3, 1) := by decide +kernel
theorem dX8_ask_33 : decode cX8_ask 33 = .ok (.iconst 0, 1) := by decide +kernel
theorem dX8_ask_34 : decode cX8_ask 34 = .ok (.istore 4, 2) := by decide +kernel
theorem dX8_ask_36 : decode cX8_ask 36 = .ok (.iconst 0, 1) := by decide +kernel
theorem dX8_ask_37 : decode cX8_ask 37 = .ok (.istore 5, 2) := by decide +kernel
theorem dX8_ask_39 : decode cX8_ask 39 = .ok (.iload 5, 2) := by decide +kernel
theorem dX8_ask_41 : decode cX8_ask 41 = .ok (.bipush 8, 2) := by decide +kernel
theorem dX8_ask_43 : decode cX8_ask 43 = .ok (.if_icmp .ge 74, 3) := by decide +kernel
theorem dX8_ask_46 : decode cX8_ask 46 = .ok (.iconst 0, 1) := by decide +kernel
theorem dX8_ask_47 : decode cX8_ask 47 = .ok (.istore 6, 2) := by decide +kernel
theorem dX8_ask_49 : decode cX8_ask 49 = .ok (.iload 6, 2) := by decide +kernel
theorem dX8_ask_51 : decode cX8_ask 51 = .ok (.bipush 8, 2) := by decide +kernel
theorem dX8_ask_53 : decode cX8_ask 53 = .ok (.if_icmp .ge 58, 3) := by decide +kernel
theorem dX8_ask_56 : decode cX8_ask 56 = .ok (.iload 5, 2) := by decide +kernel
theorem dX8_ask_58 : decode cX8_ask 58 = .ok (.iload 6, 2) := by decide +kernel
theorem dX8_ask_60 : decode cX8_ask 60 = .ok (.invokestatic 199, 3) := by decide +kernel
theorem dX8_ask_63 : decode cX8_ask 63 = .ok (.istore 7, 2) := by decide +kernel
theorem dX8_ask_65 : decode cX8_ask 65 = .ok (.iload_n 2, 1) := by decide +kernel
theorem dX8_ask_66 : decode cX8_ask 66 = .ok (.iload 7, 2) := by decide +kernel
theorem dX8_ask_68 : decode cX8_ask 68 = .ok (.iand, 1) := by decide +kernel
theorem dX8_ask_69 : decode cX8_ask 69 = .ok (.invokestatic 202, 3) := by decide +kernel
theorem dX8_ask_72 : decode cX8_ask 72 = .ok (.iload_n 2, 1) := by decide +kernel
theorem dX8_ask_73 : decode cX8_ask 73 = .ok (.iload 7, 2) := by decide +kernel
theorem dX8_ask_75 : decode cX8_ask 75 = .ok (.iconst (-1), 1) := by decide +kernel
theorem dX8_ask_76 : decode cX8_ask 76 = .ok (.ixor, 1) := by decide +kernel
theorem dX8_ask_77 : decode cX8_ask 77 = .ok (.iand, 1) := by decide +kernel
theorem dX8_ask_78 : decode cX8_ask 78 = .ok (.invokestatic 202, 3) := by decide +kernel
theorem dX8_ask_81 : decode cX8_ask 81 = .ok (.invokestatic 207, 3) := by decide +kernel
theorem dX8_ask_84 : decode cX8_ask 84 = .ok (.istore 8, 2) := by decide +kernel
theorem dX8_ask_86 : decode cX8_ask 86 = .ok (.iload 8, 2) := by decide +kernel
theorem dX8_ask_88 : decode cX8_ask 88 = .ok (.iload_n 3, 1) := by decide +kernel
theorem dX8_ask_89 : decode cX8_ask 89 = .ok (.if_icmp .ge 16, 3) := by decide +kernel
theorem dX8_ask_92 : decode cX8_ask 92 = .ok (.iload 8, 2) := by decide +kernel
theorem dX8_ask_94 : decode cX8_ask 94 = .ok (.istore_n 3, 1) := by decide +kernel
theorem dX8_ask_95 : decode cX8_ask 95 = .ok (.bipush 10, 2) := by decide +kernel
theorem dX8_ask_97 : decode cX8_ask 97 = .ok (.iload 5, 2) := by decide +kernel
theorem dX8_ask_99 : decode cX8_ask 99 = .ok (.imul, 1) := by decide +kernel
theorem dX8_ask_100 : decode cX8_ask 100 = .ok (.iload 6, 2) := by decide +kernel
theorem dX8_ask_102 : decode cX8_ask 102 = .ok (.iadd, 1) := by decide +kernel
theorem dX8_ask_103 : decode cX8_ask 103 = .ok (.istore 4, 2) := by decide +kernel
theorem dX8_ask_105 : decode cX8_ask 105 = .ok (.iinc 6 1, 3) := by decide +kernel
theorem dX8_ask_108 : decode cX8_ask 108 = .ok (.goto (-59), 3) := by decide +kernel
theorem dX8_ask_111 : decode cX8_ask 111 = .ok (.iinc 5 1, 3) := by decide +kernel
theorem dX8_ask_114 : decode cX8_ask 114 = .ok (.goto (-75), 3) := by decide +kernel
theorem dX8_ask_117 : decode cX8_ask 117 = .ok (.iload_n 1, 1) := by decide +kernel
theorem dX8_ask_118 : decode cX8_ask 118 = .ok (.ifCond .ne 8, 3) := by decide +kernel
theorem dX8_ask_121 : decode cX8_ask 121 = .ok (.iload 4, 2) := by decide +kernel
theorem dX8_ask_123 : decode cX8_ask 123 = .ok (.goto 4, 3) := by decide +kernel
theorem dX8_ask_126 : decode cX8_ask 126 = .ok (.iload_n 3, 1) := by decide +kernel
theorem dX8_ask_127 : decode cX8_ask 127 = .ok (.ireturn, 1) := by decide +kernel
def wtX8_ask : List Cond := .code yX8_ask cX8_ask 9 (some .int) :: (([.fieldLink RX8 10 "DriftKin" "now" "LDriftKin$Shore;", .fieldLink RX8 185 "DriftKin$Shore" "sights" "LDriftKin$Sights;", .methodLink RX8 207 Lib.Math.max.name, .static Lib.Math.max.name, .initialized "java/lang/Math", .code Lib.Math.max.name Lib.Math.max.code 2 (some .int)]) ++ ((u_ws RX5 TX5 4) ++ ((u_ws RX8 TX8 9) ++ ((va_wsS RX8 61 yX8_within wtX8_within) ++ ((wsV RX8 196 RX6 yX6_bitsLeft wtX6_bitsLeft) ++ ((va_wsS RX8 199 yX8_bitsNear wtX8_bitsNear) ++ ((va_wsS RX8 202 yJ6_bitCount_0f7a4 wtJ6_bitCount_0f7a4) ++ [])))))))
theorem imX8_ask_own : ∀ w ∈ ([.fieldLink RX8 10 "DriftKin" "now" "LDriftKin$Shore;", .fieldLink RX8 185 "DriftKin$Shore" "sights" "LDriftKin$Sights;", .methodLink RX8 207 Lib.Math.max.name, .static Lib.Math.max.name, .initialized "java/lang/Math", .code Lib.Math.max.name Lib.Math.max.code 2 (some .int)] : List Cond), w ∈ wtX8_ask := fun w h => List.mem_cons_of_mem _ (inl h)
theorem imX8_ask_u_X5 : ∀ w ∈ (u_ws RX5 TX5 4 : List Cond), w ∈ wtX8_ask := fun w h => List.mem_cons_of_mem _ (inr (inl h))
theorem imX8_ask_u_X8 : ∀ w ∈ (u_ws RX8 TX8 9 : List Cond), w ∈ wtX8_ask := fun w h => List.mem_cons_of_mem _ (inr (inr (inl h)))
theorem imX8_ask_c_X8_within : ∀ w ∈ (va_wsS RX8 61 yX8_within wtX8_within : List Cond), w ∈ wtX8_ask := fun w h => List.mem_cons_of_mem _ (inr (inr (inr (inl h))))
theorem imX8_ask_c_X6_bitsLeft : ∀ w ∈ (wsV RX8 196 RX6 yX6_bitsLeft wtX6_bitsLeft : List Cond), w ∈ wtX8_ask := fun w h => List.mem_cons_of_mem _ (inr (inr (inr (inr (inl h)))))
theorem imX8_ask_c_X8_bitsNear : ∀ w ∈ (va_wsS RX8 199 yX8_bitsNear wtX8_bitsNear : List Cond), w ∈ wtX8_ask := fun w h => List.mem_cons_of_mem _ (inr (inr (inr (inr (inr (inl h))))))
theorem imX8_ask_c_J6_bitCount_0f7a4 : ∀ w ∈ (va_wsS RX8 202 yJ6_bitCount_0f7a4 wtJ6_bitCount_0f7a4 : List Cond), w ∈ wtX8_ask := fun w h => List.mem_cons_of_mem _ (inr (inr (inr (inr (inr (inr (inl h)))))))
theorem gdX8_ask : ∀ w ∈ wtX8_ask, Gd w := gdc rfl (gda (gdl (by decide +kernel)) (gda (gdu _ _ _) (gda (gdu _ _ _) (gda (gda (gdl (by decide +kernel)) gdX8_within) (gda (gda (gdl (by decide +kernel)) gdX6_bitsLeft) (gda (gda (gdl (by decide +kernel)) gdX8_bitsNear) (gda (gda (gdl (by decide +kernel)) gdJ6_bitCount_0f7a4) gdn)))))))
theorem gcX8_ask_X8_within : GoodIn wtX8_ask (va_wsS RX8 61 yX8_within wtX8_within) := fun w h => ⟨imX8_ask_c_X8_within w h, (gda (gdl (by decide +kernel)) gdX8_within) w h⟩
theorem gcX8_ask_X6_bitsLeft : GoodIn wtX8_ask (wsV RX8 196 RX6 yX6_bitsLeft wtX6_bitsLeft) := fun w h => ⟨imX8_ask_c_X6_bitsLeft w h, (gda (gdl (by decide +kernel)) gdX6_bitsLeft) w h⟩
theorem gcX8_ask_X8_bitsNear : GoodIn wtX8_ask (va_wsS RX8 199 yX8_bitsNear wtX8_bitsNear) := fun w h => ⟨imX8_ask_c_X8_bitsNear w h, (gda (gdl (by decide +kernel)) gdX8_bitsNear) w h⟩
theorem gcX8_ask_J6_bitCount_0f7a4 : GoodIn wtX8_ask (va_wsS RX8 202 yJ6_bitCount_0f7a4 wtJ6_bitCount_0f7a4) := fun w h => ⟨imX8_ask_c_J6_bitCount_0f7a4 w h, (gda (gdl (by decide +kernel)) gdJ6_bitCount_0f7a4) w h⟩
def fX8_ask_49 (k39 : Int32 → Int32 → Int32 → Option (Int32)) (x1 : Int32) (x2 : Int32) (x5 : Int32) : Nat → Int32 → Int32 → Int32 → Option (Int32)
  | 0, _, _, _ => none
  | n + 1, x3, x4, x6 =>
    if (8 : Int32) ≤ x6 then
      k39 x3 x4 (x5 + (1 : Int32))
    else
      (fX8_bitsNear x5 x6).bind (fun r1002 =>
        (fJ6_bitCount_0f7a4 (x2 &&& r1002)).bind (fun r1003 =>
          (fJ6_bitCount_0f7a4 (x2 &&& (r1002 ^^^ (-1 : Int32)))).bind (fun r1004 =>
            if x3 ≤ (jmax r1003 r1004) then
              fX8_ask_49 k39 x1 x2 x5 n x3 x4 (x6 + (1 : Int32))
            else
              fX8_ask_49 k39 x1 x2 x5 n (jmax r1003 r1004) (((10 : Int32) * x5) + x6) (x6 + (1 : Int32)))))
def fX8_ask_39 (x1 : Int32) (x2 : Int32) : Nat → Int32 → Int32 → Int32 → Option (Int32)
  | 0, _, _, _ => none
  | n + 1, x3, x4, x5 =>
    if (8 : Int32) ≤ x5 then
      if x1 = (0 : Int32) then
        some x4
      else
        some x3
    else
      fX8_ask_49 (fun y0 y1 y2 => fX8_ask_39 x1 x2 n y0 y1 y2) x1 x2 x5 2000 x3 x4 (0 : Int32)
def fX8_ask (v_count : Int32) (v_house : Nat → Int32) (v_reach : Nat → Int32) (v_sounded : Nat → Int32) (x1 : Int32) : Option (Int32) :=
  (fX8_within x1 (0 : Int32) (1 : Int32)).bind (fun r1 =>
    if r1 = (0 : Int32) then
      some (-2 : Int32)
    else
      (fX6_bitsLeft v_count v_house v_reach v_sounded).bind (fun r3 =>
        if r3 = (0 : Int32) then
          some (-6 : Int32)
        else
          fX8_ask_39 x1 r3 2000 (9 : Int32) (0 : Int32) (0 : Int32)))
def wdX8_ask (cI cZ : ClassId) (q0 : Nat) (q1 : Nat) (q2 : Nat) (q3 : Nat) (q4 : Nat) (q5 : Nat) (d6 : Nat) (d7 : Nat) (d8 : Nat) (d9 : Nat) (d10 : Nat) (d11 : Nat) (d12 : Nat) (d13 : Nat)  (v_count : Int32) (v_house : Nat → Int32) (v_reach : Nat → Int32) (v_sounded : Nat → Int32) (v_firstKept : Int32) (v_secondKept : Int32) (v_year : Int32) : va_W := [(q0, .inr (8, [.ref q1, .ref d6, .ref d7, .int v_firstKept, .int v_secondKept, .ref d8, .ref d9, .ref d10, .ref d11])), (q1, .inr (5, [.ref d12, .ref d13, .ref q2, .int v_year])), (q2, .inr (6, [.ref q3, .ref q4, .ref q5, .int v_count])), (q3, .inl (cI, 8, .inl v_house)), (q4, .inl (cI, 8, .inl v_reach)), (q5, .inl (cI, 8, .inl v_sounded))]
abbrev rmX8_ask : Jvm.Room := { frames := 3, cells := 0, slots := 0, locals := 67 }
theorem hyX8_ask : yX8_ask.cls ≠ "java/lang/invoke/MethodHandle" ∧ yX8_ask.cls ≠ "java/lang/invoke/VarHandle" ∧ (parseMethodDescriptor yX8_ask.desc).map (fun d => d.parameters.length) = some 1 := by decide +kernel
set_option maxHeartbeats 4000000 in
set_option maxRecDepth 100000 in
theorem mX8_ask (l : Launch) (D : va_G) (cI cZ : ClassId) (q0 : Nat) (q1 : Nat) (q2 : Nat) (q3 : Nat) (q4 : Nat) (q5 : Nat) (d6 : Nat) (d7 : Nat) (d8 : Nat) (d9 : Nat) (d10 : Nat) (d11 : Nat) (d12 : Nat) (d13 : Nat) (v_count : Int32) (v_house : Nat → Int32) (v_reach : Nat → Int32) (v_sounded : Nat → Int32) (v_firstKept : Int32) (v_secondKept : Int32) (v_year : Int32) (x1 : Int32) (z : Int32) (hF : fX8_ask v_count v_house v_reach v_sounded x1 = some z) : mp l yX8_ask wtX8_ask rmX8_ask D cI cZ [.ref q0, .int x1] (wdX8_ask cI cZ q0 q1 q2 q3 q4 q5 d6 d7 d8 d9 d10 d11 d12 d13 v_count v_house v_reach v_sounded v_firstKept v_secondKept v_year) (some (.int z)) (wdX8_ask cI cZ q0 q1 q2 q3 q4 q5 d6 d7 d8 d9 d10 d11 d12 d13 v_count v_house v_reach v_sounded v_firstKept v_secondKept v_year) := by
  refine mp_i (lv0 := [(0, .ref q0), (1, .int x1)]) cX8_ask 9 z (by decide) rfl (Nat.le_of_ble_eq_true rfl) rfl (fun E h hend0 => ?_)
  have hend : ∀ (z' : Int32), some z' = some z → ∀ (pc : Nat) (lv : List (Nat × Value)), decode cX8_ask pc = .ok (.ireturn, 1) → G l D E 9 0 0 (wdX8_ask cI cZ q0 q1 q2 q3 q4 q5 d6 d7 d8 d9 d10 d11 d12 d13 v_count v_house v_reach v_sounded v_firstKept v_secondKept v_year) pc lv [.int z'] := fun z' e => by cases e; exact hend0
  clear hend0
  have hL39 : ∀ (n39 : Nat) (x2 : Int32) (x3 : Int32) (x4 : Int32) (x5 : Int32), fX8_ask_39 x1 x2 n39 x3 x4 x5 = some z → G l D E 9 0 0 (wdX8_ask cI cZ q0 q1 q2 q3 q4 q5 d6 d7 d8 d9 d10 d11 d12 d13 v_count v_house v_reach v_sounded v_firstKept v_secondKept v_year) 39 [(0, .ref q0), (1, .int x1), (2, .int x2), (3, .int x3), (4, .int x4), (5, .int x5)] [] := by
    intro n39
    induction n39 with
    | zero =>
      intro x2 x3 x4 x5 hF
      rw [fX8_ask_39] at hF
      cases hF
    | succ n39 ih39 =>
      have hL49 : ∀ (n49 : Nat) (x2 : Int32) (x3 : Int32) (x4 : Int32) (x5 : Int32) (x6 : Int32), fX8_ask_49 (fun y0 y1 y2 => fX8_ask_39 x1 x2 n39 y0 y1 y2) x1 x2 x5 n49 x3 x4 x6 = some z → G l D E 9 0 0 (wdX8_ask cI cZ q0 q1 q2 q3 q4 q5 d6 d7 d8 d9 d10 d11 d12 d13 v_count v_house v_reach v_sounded v_firstKept v_secondKept v_year) 49 [(0, .ref q0), (1, .int x1), (2, .int x2), (3, .int x3), (4, .int x4), (5, .int x5), (6, .int x6)] [] := by
        intro n49
        induction n49 with
        | zero =>
          intro x2 x3 x4 x5 x6 hF
          rw [fX8_ask_49] at hF
          cases hF
        | succ n49 ih49 =>
          intro x2 x3 x4 x5 x6 hF
          rw [fX8_ask_49] at hF
          refine g_iload (np := 51) h 6 rfl dX8_ask_49 rfl ?_
          refine g_bipush (np := 53) (v := (8 : Int32)) h (by decide) dX8_ask_51 rfl ?_
          refine g_icmp_ge h hF dX8_ask_53 (np := 56) rfl (tg := 111) rfl (fun c1001 hF => ?_) (fun c1001 hF => ?_)
          · refine g_iinc (np := 114) (v := (x5 + (1 : Int32))) (lv' := [(5, .int (x5 + (1 : Int32))), (0, .ref q0), (1, .int x1), (2, .int x2), (3, .int x3), (4, .int x4), (6, .int x6)]) h 5 rfl rfl (by decide) rfl dX8_ask_111 rfl ?_
            refine g_goto h dX8_ask_114 (np := 39) rfl ?_
            refine g_lv [1, 2, 3, 4, 5, 0] rfl ?_
            exact ih39 x2 x3 x4 (x5 + (1 : Int32)) hF
          · refine g_iload (np := 58) h 5 rfl dX8_ask_56 rfl ?_
            refine g_iload (np := 60) h 6 rfl dX8_ask_58 rfl ?_
            obtain ⟨r1002, hr1002, hF⟩ := Option.bind_eq_some_iff.mp hF
            refine g_callS (np := 63) (Wd' := (wdX8_ask cI cZ q0 q1 q2 q3 q4 q5 d6 d7 d8 d9 d10 d11 d12 d13 v_count v_house v_reach v_sounded v_firstKept v_secondKept v_year)) (As := [.int x5, .int x6]) h (mX8_bitsNear l D cI cZ x5 x6 r1002 hr1002) gcX8_ask_X8_bitsNear rfl ⟨rfl, rfl⟩ hyX8_bitsNear rfl rfl rfl rfl ⟨Nat.zero_le _, Nat.zero_le _⟩ [] [0, 1, 2, 3, 4, 5] (N := 6) (by decide +kernel) rfl rfl rfl rfl rfl dX8_ask_60 rfl ?_
            refine g_istore (np := 65) (lv' := [(7, .int r1002), (0, .ref q0), (1, .int x1), (2, .int x2), (3, .int x3), (4, .int x4), (5, .int x5), (6, .int x6)]) h (by decide) rfl dX8_ask_63 rfl ?_
            refine g_iload_n (np := 66) h 3 rfl rfl dX8_ask_65 rfl ?_
            refine g_iload (np := 68) h 0 rfl dX8_ask_66 rfl ?_
            refine g_iand (np := 69) h dX8_ask_68 rfl ?_
            obtain ⟨r1003, hr1003, hF⟩ := Option.bind_eq_some_iff.mp hF
            refine g_callS (np := 72) (Wd' := (wdX8_ask cI cZ q0 q1 q2 q3 q4 q5 d6 d7 d8 d9 d10 d11 d12 d13 v_count v_house v_reach v_sounded v_firstKept v_secondKept v_year)) (As := [.int (x2 &&& r1002)]) h (mJ6_bitCount_0f7a4 l D cI cZ (x2 &&& r1002) r1003 hr1003) gcX8_ask_J6_bitCount_0f7a4 rfl ⟨rfl, rfl⟩ hyJ6_bitCount_0f7a4 rfl rfl rfl rfl ⟨Nat.zero_le _, Nat.zero_le _⟩ [] [0, 1, 2, 3, 4, 5] (N := 6) (by decide +kernel) rfl rfl rfl rfl rfl dX8_ask_69 rfl ?_
            refine g_iload_n (np := 73) h 3 rfl rfl dX8_ask_72 rfl ?_
            refine g_iload (np := 75) h 0 rfl dX8_ask_73 rfl ?_
            refine g_iconst (np := 76) (v := (-1 : Int32)) h (by decide) dX8_ask_75 rfl ?_
            refine g_ixor (np := 77) h dX8_ask_76 rfl ?_
            refine g_iand (np := 78) h dX8_ask_77 rfl ?_
            obtain ⟨r1004, hr1004, hF⟩ := Option.bind_eq_some_iff.mp hF
            refine g_callS (np := 81) (Wd' := (wdX8_ask cI cZ q0 q1 q2 q3 q4 q5 d6 d7 d8 d9 d10 d11 d12 d13 v_count v_house v_reach v_sounded v_firstKept v_secondKept v_year)) (As := [.int (x2 &&& (r1002 ^^^ (-1 : Int32)))]) h (mJ6_bitCount_0f7a4 l D cI cZ (x2 &&& (r1002 ^^^ (-1 : Int32))) r1004 hr1004) gcX8_ask_J6_bitCount_0f7a4 rfl ⟨rfl, rfl⟩ hyJ6_bitCount_0f7a4 rfl rfl rfl rfl ⟨Nat.zero_le _, Nat.zero_le _⟩ [] [0, 1, 2, 3, 4, 5] (N := 6) (by decide +kernel) rfl rfl rfl rfl rfl dX8_ask_78 rfl ?_
            refine g_mmax (np := 84) h (imX8_ask_own _ (List.mem_of_getElem? (i := 2) rfl)) (imX8_ask_own _ (List.mem_of_getElem? (i := 3) rfl)) (imX8_ask_own _ (List.mem_of_getElem? (i := 4) rfl)) (imX8_ask_own _ (List.mem_of_getElem? (i := 5) rfl)) rfl rfl ⟨Nat.zero_le _, Nat.zero_le _⟩ dX8_ask_81 rfl ?_
            refine g_istore (np := 86) (lv' := [(8, .int (jmax r1003 r1004)), (7, .int r1002), (0, .ref q0), (1, .int x1), (2, .int x2), (3, .int x3), (4, .int x4), (5, .int x5), (6, .int x6)]) h (by decide) rfl dX8_ask_84 rfl ?_
            refine g_iload (np := 88) h 0 rfl dX8_ask_86 rfl ?_
            refine g_iload_n (np := 89) h 5 rfl rfl dX8_ask_88 rfl ?_
            refine g_icmp_ge h hF dX8_ask_89 (np := 92) rfl (tg := 105) rfl (fun c1005 hF => ?_) (fun c1005 hF => ?_)
            · refine g_iinc (np := 108) (v := (x6 + (1 : Int32))) (lv' := [(6, .int (x6 + (1 : Int32))), (8, .int (jmax r1003 r1004)), (7, .int r1002), (0, .ref q0), (1, .int x1), (2, .int x2), (3, .int x3), (4, .int x4), (5, .int x5)]) h 8 rfl rfl (by decide) rfl dX8_ask_105 rfl ?_
              refine g_goto h dX8_ask_108 (np := 49) rfl ?_
              refine g_lv [3, 4, 5, 6, 7, 8, 0] rfl ?_
              exact ih49 x2 x3 x4 x5 (x6 + (1 : Int32)) hF
            · refine g_iload (np := 94) h 0 rfl dX8_ask_92 rfl ?_
              refine g_istore_n (np := 95) (lv' := [(3, .int (jmax r1003 r1004)), (8, .int (jmax r1003 r1004)), (7, .int r1002), (0, .ref q0), (1, .int x1), (2, .int x2), (4, .int x4), (5, .int x5), (6, .int x6)]) h rfl (by decide) rfl dX8_ask_94 rfl ?_
              refine g_bipush (np := 97) (v := (10 : Int32)) h (by decide) dX8_ask_95 rfl ?_
              refine g_iload (np := 99) h 7 rfl dX8_ask_97 rfl ?_
              refine g_imul (np := 100) h dX8_ask_99 rfl ?_
              refine g_iload (np := 102) h 8 rfl dX8_ask_100 rfl ?_
              refine g_iadd (np := 103) h dX8_ask_102 rfl ?_
              refine g_istore (np := 105) (lv' := [(4, .int (((10 : Int32) * x5) + x6)), (3, .int (jmax r1003 r1004)), (8, .int (jmax r1003 r1004)), (7, .int r1002), (0, .ref q0), (1, .int x1), (2, .int x2), (5, .int x5), (6, .int x6)]) h (by decide) rfl dX8_ask_103 rfl ?_
              refine g_iinc (np := 108) (v := (x6 + (1 : Int32))) (lv' := [(6, .int (x6 + (1 : Int32))), (4, .int (((10 : Int32) * x5) + x6)), (3, .int (jmax r1003 r1004)), (8, .int (jmax r1003 r1004)), (7, .int r1002), (0, .ref q0), (1, .int x1), (2, .int x2), (5, .int x5)]) h 8 rfl rfl (by decide) rfl dX8_ask_105 rfl ?_
              refine g_goto h dX8_ask_108 (np := 49) rfl ?_
              refine g_lv [5, 6, 7, 2, 1, 8, 0] rfl ?_
              exact ih49 x2 (jmax r1003 r1004) (((10 : Int32) * x5) + x6) x5 (x6 + (1 : Int32)) hF
      intro x2 x3 x4 x5 hF
      rw [fX8_ask_39] at hF
      refine g_iload (np := 41) h 5 rfl dX8_ask_39 rfl ?_
      refine g_bipush (np := 43) (v := (8 : Int32)) h (by decide) dX8_ask_41 rfl ?_
      refine g_icmp_ge h hF dX8_ask_43 (np := 46) rfl (tg := 117) rfl (fun c2001 hF => ?_) (fun c2001 hF => ?_)
      · refine g_iload_n (np := 118) h 1 rfl rfl dX8_ask_117 rfl ?_
        refine g_if_ne h hF dX8_ask_118 (np := 121) rfl (tg := 126) rfl (fun c2002 hF => ?_) (fun c2002 hF => ?_)
        · refine g_iload_n (np := 127) h 3 rfl rfl dX8_ask_126 rfl ?_
          exact hend _ hF _ _ dX8_ask_127
        · refine g_iload (np := 123) h 4 rfl dX8_ask_121 rfl ?_
          refine g_goto h dX8_ask_123 (np := 127) rfl ?_
          exact hend _ hF _ _ dX8_ask_127
      · refine g_iconst (np := 47) (v := (0 : Int32)) h (by decide) dX8_ask_46 rfl ?_
        refine g_istore (np := 49) (lv' := [(6, .int (0 : Int32)), (0, .ref q0), (1, .int x1), (2, .int x2), (3, .int x3), (4, .int x4), (5, .int x5)]) h (by decide) rfl dX8_ask_47 rfl ?_
        refine g_lv [1, 2, 3, 4, 5, 6, 0] rfl ?_
        exact hL49 _ x2 x3 x4 x5 (0 : Int32) hF
  unfold fX8_ask at hF
  refine g_iload_n (np := 1) h 1 rfl rfl dX8_ask_0 rfl ?_
  refine g_iconst (np := 2) (v := (0 : Int32)) h (by decide) dX8_ask_1 rfl ?_
  refine g_iconst (np := 3) (v := (1 : Int32)) h (by decide) dX8_ask_2 rfl ?_
  obtain ⟨r1, hr1, hF⟩ := Option.bind_eq_some_iff.mp hF
  refine g_callS (np := 6) (Wd' := (wdX8_ask cI cZ q0 q1 q2 q3 q4 q5 d6 d7 d8 d9 d10 d11 d12 d13 v_count v_house v_reach v_sounded v_firstKept v_secondKept v_year)) (As := [.int x1, .int (0 : Int32), .int (1 : Int32)]) h (mX8_within l D cI cZ x1 (0 : Int32) (1 : Int32) r1 hr1) gcX8_ask_X8_within rfl ⟨rfl, rfl⟩ hyX8_within rfl rfl rfl rfl ⟨Nat.zero_le _, Nat.zero_le _⟩ [] [0, 1, 2, 3, 4, 5] (N := 6) (by decide +kernel) rfl rfl rfl rfl rfl dX8_ask_3 rfl ?_
  refine g_if_ne h hF dX8_ask_6 (np := 9) rfl (tg := 12) rfl (fun c2 hF => ?_) (fun c2 hF => ?_)
  · refine g_aload_n (np := 13) h 0 rfl rfl dX8_ask_12 rfl ?_
    refine g_get (np := 16) (T := TX8) h imX8_ask_u_X8 0 8 rfl rfl 0 (by decide) (imX8_ask_own _ (List.mem_of_getElem? (i := 0) rfl)) rfl dX8_ask_13 rfl ?_
    refine g_get (np := 19) (T := TX5) h imX8_ask_u_X5 1 5 rfl rfl 2 (by decide) (imX8_ask_own _ (List.mem_of_getElem? (i := 1) rfl)) rfl dX8_ask_16 rfl ?_
    obtain ⟨r3, hr3, hF⟩ := Option.bind_eq_some_iff.mp hF
    refine g_callV (np := 22) (Wd' := (wdX8_ask cI cZ q0 q1 q2 q3 q4 q5 d6 d7 d8 d9 d10 d11 d12 d13 v_count v_house v_reach v_sounded v_firstKept v_secondKept v_year)) (As := []) h (mX6_bitsLeft l D cI cZ q2 q3 q4 q5 v_count v_house v_reach v_sounded r3 hr3) gcX8_ask_X6_bitsLeft rfl ⟨rfl, rfl⟩ ⟨rfl, hyX6_bitsLeft⟩ rfl 6 2 rfl rfl rfl rfl rfl rfl ⟨Nat.zero_le _, Nat.zero_le _⟩ [2, 3, 4, 5] [0, 1] (N := 6) (by decide +kernel) rfl rfl rfl rfl rfl dX8_ask_19 rfl ?_
    refine g_istore_n (np := 23) (lv' := [(2, .int r3), (0, .ref q0), (1, .int x1)]) h rfl (by decide) rfl dX8_ask_22 rfl ?_
    refine g_iload_n (np := 24) h 0 rfl rfl dX8_ask_23 rfl ?_
    refine g_if_ne h hF dX8_ask_24 (np := 27) rfl (tg := 30) rfl (fun c4 hF => ?_) (fun c4 hF => ?_)
    · refine g_bipush (np := 32) (v := (9 : Int32)) h (by decide) dX8_ask_30 rfl ?_
      refine g_istore_n (np := 33) (lv' := [(3, .int (9 : Int32)), (2, .int r3), (0, .ref q0), (1, .int x1)]) h rfl (by decide) rfl dX8_ask_32 rfl ?_
      refine g_iconst (np := 34) (v := (0 : Int32)) h (by decide) dX8_ask_33 rfl ?_
      refine g_istore (np := 36) (lv' := [(4, .int (0 : Int32)), (3, .int (9 : Int32)), (2, .int r3), (0, .ref q0), (1, .int x1)]) h (by decide) rfl dX8_ask_34 rfl ?_
      refine g_iconst (np := 37) (v := (0 : Int32)) h (by decide) dX8_ask_36 rfl ?_
      refine g_istore (np := 39) (lv' := [(5, .int (0 : Int32)), (4, .int (0 : Int32)), (3, .int (9 : Int32)), (2, .int r3), (0, .ref q0), (1, .int x1)]) h (by decide) rfl dX8_ask_37 rfl ?_
      refine g_lv [4, 5, 3, 2, 1, 0] rfl ?_
      exact hL39 _ r3 (9 : Int32) (0 : Int32) (0 : Int32) hF
    · refine g_bipush (np := 29) (v := (-6 : Int32)) h (by decide) dX8_ask_27 rfl ?_
      exact hend _ hF _ _ dX8_ask_29
  · refine g_bipush (np := 11) (v := (-2 : Int32)) h (by decide) dX8_ask_9 rfl ?_
    exact hend _ hF _ _ dX8_ask_11
theorem dX8_worth_0 : decode cX8_worth 0 = .ok (.aload_n 0, 1) := by decide +kernel
theorem dX8_worth_1 : decode cX8_worth 1 = .ok (.getfield 10, 3) := by decide +kernel
theorem dX8_worth_4 : decode cX8_worth 4 = .ok (.getfield 65, 3) := by decide +kernel
theorem dX8_worth_7 : decode cX8_worth 7 = .ok (.getfield 131, 3) := by decide +kernel
theorem dX8_worth_10 : decode cX8_worth 10 = .ok (.iload_n 1, 1) := by decide +kernel
theorem dX8_worth_11 : decode cX8_worth 11 = .ok (.invokestatic 75, 3) := by decide +kernel
theorem dX8_worth_14 : decode cX8_worth 14 = .ok (.iconst 1, 1) := by decide +kernel
theorem dX8_worth_15 : decode cX8_worth 15 = .ok (.if_icmp .ne 8, 3) := by decide +kernel
theorem dX8_worth_18 : decode cX8_worth 18 = .ok (.iload_n 3, 1) := by decide +kernel
theorem dX8_worth_19 : decode cX8_worth 19 = .ok (.iconst 1, 1) := by decide +kernel
theorem dX8_worth_20 : decode cX8_worth 20 = .ok (.if_icmp .ge 5, 3) := by decide +kernel
theorem dX8_worth_23 : decode cX8_worth 23 = .ok (.iconst 0, 1) := by decide +kernel
theorem dX8_worth_24 : decode cX8_worth 24 = .ok (.ireturn, 1) := by decide +kernel
theorem dX8_worth_25 : decode cX8_worth 25 = .ok (.aload_n 0, 1) := by decide +kernel
theorem dX8_worth_26 : decode cX8_worth 26 = .ok (.getfield 10, 3) := by decide +kernel
theorem dX8_worth_29 : decode cX8_worth 29 = .ok (.getfield 65, 3) := by decide +kernel
theorem dX8_worth_32 : decode cX8_worth 32 = .ok (.getfield 69, 3) := by decide +kernel
theorem dX8_worth_35 : decode cX8_worth 35 = .ok (.iload_n 1, 1) := by decide +kernel
theorem dX8_worth_36 : decode cX8_worth 36 = .ok (.invokestatic 75, 3) := by decide +kernel
theorem dX8_worth_39 : decode cX8_worth 39 = .ok (.iload_n 2, 1) := by decide +kernel
theorem dX8_worth_40 : decode cX8_worth 40 = .ok (.isub, 1) := by decide +kernel
theorem dX8_worth_41 : decode cX8_worth 41 = .ok (.iload_n 3, 1) := by decide +kernel
theorem dX8_worth_42 : decode cX8_worth 42 = .ok (.iconst 1, 1) := by decide +kernel
theorem dX8_worth_43 : decode cX8_worth 43 = .ok (.iadd, 1) := by decide +kernel
theorem dX8_worth_44 : decode cX8_worth 44 = .ok (.irem, 1) := by decide +kernel
theorem dX8_worth_45 : decode cX8_worth 45 = .ok (.ireturn, 1) := by decide +kernel
def wtX8_worth : List Cond := .code yX8_worth cX8_worth 4 (some .int) :: (([.fieldLink RX8 10 "DriftKin" "now" "LDriftKin$Shore;", .fieldLink RX8 65 "DriftKin$Shore" "pieces" "LDriftKin$Pieces;", .fieldLink RX8 131 "DriftKin$Pieces" "place" "[I", .fieldLink RX8 69 "DriftKin$Pieces" "length" "[I"]) ++ ((u_ws RX3 TX3 7) ++ ((u_ws RX5 TX5 4) ++ ((u_ws RX8 TX8 9) ++ ((va_wsS RX8 75 yX8_at wtX8_at) ++ [])))))
theorem imX8_worth_own : ∀ w ∈ ([.fieldLink RX8 10 "DriftKin" "now" "LDriftKin$Shore;", .fieldLink RX8 65 "DriftKin$Shore" "pieces" "LDriftKin$Pieces;", .fieldLink RX8 131 "DriftKin$Pieces" "place" "[I", .fieldLink RX8 69 "DriftKin$Pieces" "length" "[I"] : List Cond), w ∈ wtX8_worth := fun w h => List.mem_cons_of_mem _ (inl h)
theorem imX8_worth_u_X3 : ∀ w ∈ (u_ws RX3 TX3 7 : List Cond), w ∈ wtX8_worth := fun w h => List.mem_cons_of_mem _ (inr (inl h))
theorem imX8_worth_u_X5 : ∀ w ∈ (u_ws RX5 TX5 4 : List Cond), w ∈ wtX8_worth := fun w h => List.mem_cons_of_mem _ (inr (inr (inl h)))
theorem imX8_worth_u_X8 : ∀ w ∈ (u_ws RX8 TX8 9 : List Cond), w ∈ wtX8_worth := fun w h => List.mem_cons_of_mem _ (inr (inr (inr (inl h))))
theorem imX8_worth_c_X8_at : ∀ w ∈ (va_wsS RX8 75 yX8_at wtX8_at : List Cond), w ∈ wtX8_worth := fun w h => List.mem_cons_of_mem _ (inr (inr (inr (inr (inl h)))))
theorem gdX8_worth : ∀ w ∈ wtX8_worth, Gd w := gdc rfl (gda (gdl (by decide +kernel)) (gda (gdu _ _ _) (gda (gdu _ _ _) (gda (gdu _ _ _) (gda (gda (gdl (by decide +kernel)) gdX8_at) gdn)))))
theorem gcX8_worth_X8_at : GoodIn wtX8_worth (va_wsS RX8 75 yX8_at wtX8_at) := fun w h => ⟨imX8_worth_c_X8_at w h, (gda (gdl (by decide +kernel)) gdX8_at) w h⟩
def fX8_worth (v_length : Nat → Int32) (v_place : Nat → Int32) (x1 : Int32) (x2 : Int32) (x3 : Int32) : Option (Int32) :=
  (fX8_at 10 v_place x1).bind (fun r1 =>
    if r1 = (1 : Int32) then
      if (1 : Int32) ≤ x3 then
        (fX8_at 10 v_length x1).bind (fun r4 =>
          nzi (x3 + (1 : Int32)) (
            some (jrem (r4 - x2) (x3 + (1 : Int32)))))
      else
        some (0 : Int32)
    else
      some (0 : Int32))
def wdX8_worth (cI cZ : ClassId) (q0 : Nat) (q1 : Nat) (q2 : Nat) (q3 : Nat) (q4 : Nat) (d5 : Nat) (d6 : Nat) (d7 : Nat) (d8 : Nat) (d9 : Nat) (d10 : Nat) (d11 : Nat) (d12 : Nat) (d13 : Nat) (d14 : Nat) (d15 : Nat) (d16 : Nat) (d17 : Nat)  (v_length : Nat → Int32) (v_place : Nat → Int32) (v_firstKept : Int32) (v_secondKept : Int32) (v_year : Int32) : va_W := [(q0, .inr (8, [.ref q1, .ref d5, .ref d6, .int v_firstKept, .int v_secondKept, .ref d7, .ref d8, .ref d9, .ref d10])), (q1, .inr (5, [.ref q2, .ref d11, .ref d12, .int v_year])), (q2, .inr (3, [.ref d13, .ref d14, .ref q3, .ref d15, .ref d16, .ref q4, .ref d17])), (q3, .inl (cI, 10, .inl v_length)), (q4, .inl (cI, 10, .inl v_place))]
abbrev rmX8_worth : Jvm.Room := { frames := 1, cells := 0, slots := 0, locals := 21 }
theorem hyX8_worth : yX8_worth.cls ≠ "java/lang/invoke/MethodHandle" ∧ yX8_worth.cls ≠ "java/lang/invoke/VarHandle" ∧ (parseMethodDescriptor yX8_worth.desc).map (fun d => d.parameters.length) = some 3 := by decide +kernel
set_option maxHeartbeats 4000000 in
set_option maxRecDepth 100000 in
theorem mX8_worth (l : Launch) (D : va_G) (cI cZ : ClassId) (q0 : Nat) (q1 : Nat) (q2 : Nat) (q3 : Nat) (q4 : Nat) (d5 : Nat) (d6 : Nat) (d7 : Nat) (d8 : Nat) (d9 : Nat) (d10 : Nat) (d11 : Nat) (d12 : Nat) (d13 : Nat) (d14 : Nat) (d15 : Nat) (d16 : Nat) (d17 : Nat) (v_length : Nat → Int32) (v_place : Nat → Int32) (v_firstKept : Int32) (v_secondKept : Int32) (v_year : Int32) (x1 : Int32) (x2 : Int32) (x3 : Int32) (z : Int32) (hF : fX8_worth v_length v_place x1 x2 x3 = some z) : mp l yX8_worth wtX8_worth rmX8_worth D cI cZ [.ref q0, .int x1, .int x2, .int x3] (wdX8_worth cI cZ q0 q1 q2 q3 q4 d5 d6 d7 d8 d9 d10 d11 d12 d13 d14 d15 d16 d17 v_length v_place v_firstKept v_secondKept v_year) (some (.int z)) (wdX8_worth cI cZ q0 q1 q2 q3 q4 d5 d6 d7 d8 d9 d10 d11 d12 d13 d14 d15 d16 d17 v_length v_place v_firstKept v_secondKept v_year) := by
  refine mp_i (lv0 := [(0, .ref q0), (1, .int x1), (2, .int x2), (3, .int x3)]) cX8_worth 4 z (by decide) rfl (Nat.le_of_ble_eq_true rfl) rfl (fun E h hend0 => ?_)
  have hend : ∀ (z' : Int32), some z' = some z → ∀ (pc : Nat) (lv : List (Nat × Value)), decode cX8_worth pc = .ok (.ireturn, 1) → G l D E 4 0 0 (wdX8_worth cI cZ q0 q1 q2 q3 q4 d5 d6 d7 d8 d9 d10 d11 d12 d13 d14 d15 d16 d17 v_length v_place v_firstKept v_secondKept v_year) pc lv [.int z'] := fun z' e => by cases e; exact hend0
  clear hend0
  unfold fX8_worth at hF
  refine g_aload_n (np := 1) h 0 rfl rfl dX8_worth_0 rfl ?_
  refine g_get (np := 4) (T := TX8) h imX8_worth_u_X8 0 8 rfl rfl 0 (by decide) (imX8_worth_own _ (List.mem_of_getElem? (i := 0) rfl)) rfl dX8_worth_1 rfl ?_
  refine g_get (np := 7) (T := TX5) h imX8_worth_u_X5 1 5 rfl rfl 0 (by decide) (imX8_worth_own _ (List.mem_of_getElem? (i := 1) rfl)) rfl dX8_worth_4 rfl ?_
  refine g_get (np := 10) (T := TX3) h imX8_worth_u_X3 2 3 rfl rfl 5 (by decide) (imX8_worth_own _ (List.mem_of_getElem? (i := 2) rfl)) rfl dX8_worth_7 rfl ?_
  refine g_iload_n (np := 11) h 1 rfl rfl dX8_worth_10 rfl ?_
  obtain ⟨r1, hr1, hF⟩ := Option.bind_eq_some_iff.mp hF
  refine g_callS (np := 14) (Wd' := (wdX8_worth cI cZ q0 q1 q2 q3 q4 d5 d6 d7 d8 d9 d10 d11 d12 d13 d14 d15 d16 d17 v_length v_place v_firstKept v_secondKept v_year)) (As := [.ref q4, .int x1]) h (mX8_at l D cI cZ q4 10 v_place x1 r1 hr1) gcX8_worth_X8_at rfl ⟨rfl, rfl⟩ hyX8_at rfl rfl rfl rfl ⟨Nat.zero_le _, Nat.zero_le _⟩ [4] [0, 1, 2, 3] (N := 5) (by decide +kernel) rfl rfl rfl rfl rfl dX8_worth_11 rfl ?_
  refine g_iconst (np := 15) (v := (1 : Int32)) h (by decide) dX8_worth_14 rfl ?_
  refine g_icmp_ne h hF dX8_worth_15 (np := 18) rfl (tg := 23) rfl (fun c2 hF => ?_) (fun c2 hF => ?_)
  · refine g_iconst (np := 24) (v := (0 : Int32)) h (by decide) dX8_worth_23 rfl ?_
    exact hend _ hF _ _ dX8_worth_24
  · refine g_iload_n (np := 19) h 3 rfl rfl dX8_worth_18 rfl ?_
    refine g_iconst (np := 20) (v := (1 : Int32)) h (by decide) dX8_worth_19 rfl ?_
    refine g_icmp_ge h hF dX8_worth_20 (np := 23) rfl (tg := 25) rfl (fun c3 hF => ?_) (fun c3 hF => ?_)
    · refine g_aload_n (np := 26) h 0 rfl rfl dX8_worth_25 rfl ?_
      refine g_get (np := 29) (T := TX8) h imX8_worth_u_X8 0 8 rfl rfl 0 (by decide) (imX8_worth_own _ (List.mem_of_getElem? (i := 0) rfl)) rfl dX8_worth_26 rfl ?_
      refine g_get (np := 32) (T := TX5) h imX8_worth_u_X5 1 5 rfl rfl 0 (by decide) (imX8_worth_own _ (List.mem_of_getElem? (i := 1) rfl)) rfl dX8_worth_29 rfl ?_
      refine g_get (np := 35) (T := TX3) h imX8_worth_u_X3 2 3 rfl rfl 2 (by decide) (imX8_worth_own _ (List.mem_of_getElem? (i := 3) rfl)) rfl dX8_worth_32 rfl ?_
      refine g_iload_n (np := 36) h 1 rfl rfl dX8_worth_35 rfl ?_
      obtain ⟨r4, hr4, hF⟩ := Option.bind_eq_some_iff.mp hF
      refine g_callS (np := 39) (Wd' := (wdX8_worth cI cZ q0 q1 q2 q3 q4 d5 d6 d7 d8 d9 d10 d11 d12 d13 d14 d15 d16 d17 v_length v_place v_firstKept v_secondKept v_year)) (As := [.ref q3, .int x1]) h (mX8_at l D cI cZ q3 10 v_length x1 r4 hr4) gcX8_worth_X8_at rfl ⟨rfl, rfl⟩ hyX8_at rfl rfl rfl rfl ⟨Nat.zero_le _, Nat.zero_le _⟩ [3] [0, 1, 2, 4] (N := 5) (by decide +kernel) rfl rfl rfl rfl rfl dX8_worth_36 rfl ?_
      refine g_iload_n (np := 40) h 2 rfl rfl dX8_worth_39 rfl ?_
      refine g_isub (np := 41) h dX8_worth_40 rfl ?_
      refine g_iload_n (np := 42) h 3 rfl rfl dX8_worth_41 rfl ?_
      refine g_iconst (np := 43) (v := (1 : Int32)) h (by decide) dX8_worth_42 rfl ?_
      refine g_iadd (np := 44) h dX8_worth_43 rfl ?_
      obtain ⟨hz5, hF⟩ := nzi_e hF
      refine g_irem (np := 45) h hz5 dX8_worth_44 rfl ?_
      exact hend _ hF _ _ dX8_worth_45
    · refine g_iconst (np := 24) (v := (0 : Int32)) h (by decide) dX8_worth_23 rfl ?_
      exact hend _ hF _ _ dX8_worth_24
theorem dX8_firstWinningCut_0 : decode cX8_firstWinningCut 0 = .ok (.iconst 0, 1) := by decide +kernel
theorem dX8_firstWinningCut_1 : decode cX8_firstWinningCut 1 = .ok (.istore_n 2, 1) := by decide +kernel
theorem dX8_firstWinningCut_2 : decode cX8_firstWinningCut 2 = .ok (.iconst 0, 1) := by decide +kernel
theorem dX8_firstWinningCut_3 : decode cX8_firstWinningCut 3 = .ok (.istore_n 3, 1) := by decide +kernel
theorem dX8_firstWinningCut_4 : decode cX8_firstWinningCut 4 = .ok (.iload_n 3, 1) := by decide +kernel
theorem dX8_firstWinningCut_5 : decode cX8_firstWinningCut 5 = .ok (.bipush 10, 2) := by decide +kernel
theorem dX8_firstWinningCut_7 : decode cX8_firstWinningCut 7 = .ok (.if_icmp .ge 19, 3) := by decide +kernel
theorem dX8_firstWinningCut_10 : decode cX8_firstWinningCut 10 = .ok (.iload_n 2, 1) := by decide +kernel
theorem dX8_firstWinningCut_11 : decode cX8_firstWinningCut 11 = .ok (.aload_n 0, 1) := by decide +kernel
theorem dX8_firstWinningCut_12 : decode cX8_firstWinningCut 12 = .ok (.iload_n 3, 1) := by decide +kernel
theorem dX8_firstWinningCut_13 : decode cX8_firstWinningCut 13 = .ok (.iconst 0, 1) := by decide +kernel
theorem dX8_firstWinningCut_14 : decode cX8_firstWinningCut 14 = .ok (.iload_n 1, 1) := by decide +kernel
theorem dX8_firstWinningCut_15 : decode cX8_firstWinningCut 15 = .ok (.invokevirtual 242, 3) := by decide +kernel
theorem dX8_firstWinningCut_18 : decode cX8_firstWinningCut 18 = .ok (.ixor, 1) := by decide +kernel
theorem dX8_firstWinningCut_19 : decode cX8_firstWinningCut 19 = .ok (.istore_n 2, 1) := by decide +kernel
theorem dX8_firstWinningCut_20 : decode cX8_firstWinningCut 20 = .ok (.iinc 3 1, 3) := by decide +kernel
theorem dX8_firstWinningCut_23 : decode cX8_firstWinningCut 23 = .ok (.goto (-19), 3) := by decide +kernel
theorem dX8_firstWinningCut_26 : decode cX8_firstWinningCut 26 = .ok (.iconst 0, 1) := by decide +kernel
theorem dX8_firstWinningCut_27 : decode cX8_firstWinningCut 27 = .ok (.istore_n 3, 1) := by decide +kernel
theorem dX8_firstWinningCut_28 : decode cX8_firstWinningCut 28 = .ok (.iload_n 3, 1) := by decide +kernel
theorem dX8_firstWinningCut_29 : decode cX8_firstWinningCut 29 = .ok (.bipush 10, 2) := by decide +kernel
theorem dX8_firstWinningCut_31 : decode cX8_firstWinningCut 31 = .ok (.if_icmp .ge 96, 3) := by decide +kernel
theorem dX8_firstWinningCut_34 : decode cX8_firstWinningCut 34 = .ok (.aload_n 0, 1) := by decide +kernel
theorem dX8_firstWinningCut_35 : decode cX8_firstWinningCut 35 = .ok (.getfield 10, 3) := by decide +kernel
theorem dX8_firstWinningCut_38 : decode cX8_firstWinningCut 38 = .ok (.getfield 65, 3) := by decide +kernel
theorem dX8_firstWinningCut_41 : decode cX8_firstWinningCut 41 = .ok (.getfield 131, 3) := by decide +kernel
theorem dX8_firstWinningCut_44 : decode cX8_firstWinningCut 44 = .ok (.iload_n 3, 1) := by decide +kernel
theorem dX8_firstWinningCut_45 : decode cX8_firstWinningCut 45 = .ok (.invokestatic 75, 3) := by decide +kernel
theorem dX8_firstWinningCut_48 : decode cX8_firstWinningCut 48 = .ok (.iconst 1, 1) := by decide +kernel
theorem dX8_firstWinningCut_49 : decode cX8_firstWinningCut 49 = .ok (.if_icmp .eq 6, 3) := by decide +kernel
theorem dX8_firstWinningCut_52 : decode cX8_firstWinningCut 52 = .ok (.goto 69, 3) := by decide +kernel
theorem dX8_firstWinningCut_55 : decode cX8_firstWinningCut 55 = .ok (.iload_n 2, 1) := by decide +kernel
theorem dX8_firstWinningCut_56 : decode cX8_firstWinningCut 56 = .ok (.aload_n 0, 1) := by decide +kernel
theorem dX8_firstWinningCut_57 : decode cX8_firstWinningCut 57 = .ok (.iload_n 3, 1) := by decide +kernel
theorem dX8_firstWinningCut_58 : decode cX8_firstWinningCut 58 = .ok (.iconst 0, 1) := by decide +kernel
theorem dX8_firstWinningCut_59 : decode cX8_firstWinningCut 59 = .ok (.iload_n 1, 1) := by decide +kernel
theorem dX8_firstWinningCut_60 : decode cX8_firstWinningCut 60 = .ok (.invokevirtual 242, 3) := by decide +kernel
theorem dX8_firstWinningCut_63 : decode cX8_firstWinningCut 63 = .ok (.ixor, 1) := by decide +kernel
theorem dX8_firstWinningCut_64 : decode cX8_firstWinningCut 64 = .ok (.istore 4, 2) := by decide +kernel
theorem dX8_firstWinningCut_66 : decode cX8_firstWinningCut 66 = .ok (.iconst 1, 1) := by decide +kernel
theorem dX8_firstWinningCut_67 : decode cX8_firstWinningCut 67 = .ok (.istore 5, 2) := by decide +kernel
theorem dX8_firstWinningCut_69 : decode cX8_firstWinningCut 69 = .ok (.iload 5, 2) := by decide +kernel
theorem dX8_firstWinningCut_71 : decode cX8_firstWinningCut 71 = .ok (.iload_n 1, 1) := by decide +kernel
theorem dX8_firstWinningCut_72 : decode cX8_firstWinningCut 72 = .ok (.if_icmp .gt 49, 3) := by decide +kernel
theorem dX8_firstWinningCut_75 : decode cX8_firstWinningCut 75 = .ok (.iload 5, 2) := by decide +kernel
theorem dX8_firstWinningCut_77 : decode cX8_firstWinningCut 77 = .ok (.aload_n 0, 1) := by decide +kernel
theorem dX8_firstWinningCut_78 : decode cX8_firstWinningCut 78 = .ok (.getfield 10, 3) := by decide +kernel
theorem dX8_firstWinningCut_81 : decode cX8_firstWinningCut 81 = .ok (.getfield 65, 3) := by decide +kernel
theorem dX8_firstWinningCut_84 : decode cX8_firstWinningCut 84 = .ok (.getfield 69, 3) := by decide +kernel
theorem dX8_firstWinningCut_87 : decode cX8_firstWinningCut 87 = .ok (.iload_n 3, 1) := by decide +kernel
theorem dX8_firstWinningCut_88 : decode cX8_firstWinningCut 88 = .ok (.invokestatic 75, 3) := by decide +kernel
theorem dX8_firstWinningCut_91 : decode cX8_firstWinningCut 91 = .ok (.if_icmp .gt 30, 3) := by decide +kernel
theorem dX8_firstWinningCut_94 : decode cX8_firstWinningCut 94 = .ok (.aload_n 0, 1) := by decide +kernel
theorem dX8_firstWinningCut_95 : decode cX8_firstWinningCut 95 = .ok (.iload_n 3, 1) := by decide +kernel
theorem dX8_firstWinningCut_96 : decode cX8_firstWinningCut 96 = .ok (.iload 5, 2) := by decide +kernel
theorem dX8_firstWinningCut_98 : decode cX8_firstWinningCut 98 = .ok (.iload_n 1, 1) := by decide +kernel
theorem dX8_firstWinningCut_99 : decode cX8_firstWinningCut 99 = .ok (.invokevirtual 242, 3) := by decide +kernel
theorem dX8_firstWinningCut_102 : decode cX8_firstWinningCut 102 = .ok (.iload 4, 2) := by decide +kernel
theorem dX8_firstWinningCut_104 : decode cX8_firstWinningCut 104 = .ok (.if_icmp .ne 11, 3) := by decide +kernel
theorem dX8_firstWinningCut_107 : decode cX8_firstWinningCut 107 = .ok (.bipush 100, 2) := by decide +kernel
theorem dX8_firstWinningCut_109 : decode cX8_firstWinningCut 109 = .ok (.iload_n 3, 1) := by decide +kernel
theorem dX8_firstWinningCut_110 : decode cX8_firstWinningCut 110 = .ok (.imul, 1) := by decide +kernel
theorem dX8_firstWinningCut_111 : decode cX8_firstWinningCut 111 = .ok (.iload 5, 2) := by decide +kernel
theorem dX8_firstWinningCut_113 : decode cX8_firstWinningCut 113 = .ok (.iadd, 1) := by decide +kernel
theorem dX8_firstWinningCut_114 : decode cX8_firstWinningCut 114 = .ok (.ireturn, 1) := by decide +kernel
theorem dX8_firstWinningCut_115 : decode cX8_firstWinningCut 115 = .ok (.iinc 5 1, 3) := by decide +kernel
theorem dX8_firstWinningCut_118 : decode cX8_firstWinningCut 118 = .ok (.goto (-49), 3) := by decide +kernel
theorem dX8_firstWinningCut_121 : decode cX8_firstWinningCut 121 = .ok (.iinc 3 1, 3) := by decide +kernel
theorem dX8_firstWinningCut_124 : decode cX8_firstWinningCut 124 = .ok (.goto (-96), 3) := by decide +kernel
theorem dX8_firstWinningCut_127 : decode cX8_firstWinningCut 127 = .ok (.bipush (-6), 2) := by decide +kernel
theorem dX8_firstWinningCut_129 : decode cX8_firstWinningCut 129 = .ok (.ireturn, 1) := by decide +kernel
def wtX8_firstWinningCut : List Cond := .code yX8_firstWinningCut cX8_firstWinningCut 6 (some .int) :: (([.fieldLink RX8 10 "DriftKin" "now" "LDriftKin$Shore;", .fieldLink RX8 65 "DriftKin$Shore" "pieces" "LDriftKin$Pieces;", .fieldLink RX8 131 "DriftKin$Pieces" "place" "[I", .fieldLink RX8 69 "DriftKin$Pieces" "length" "[I"]) ++ ((u_ws RX3 TX3 7) ++ ((u_ws RX5 TX5 4) ++ ((u_ws RX8 TX8 9) ++ ((wsV RX8 242 RX8 yX8_worth wtX8_worth) ++ ((va_wsS RX8 75 yX8_at wtX8_at) ++ []))))))
theorem imX8_firstWinningCut_own : ∀ w ∈ ([.fieldLink RX8 10 "DriftKin" "now" "LDriftKin$Shore;", .fieldLink RX8 65 "DriftKin$Shore" "pieces" "LDriftKin$Pieces;", .fieldLink RX8 131 "DriftKin$Pieces" "place" "[I", .fieldLink RX8 69 "DriftKin$Pieces" "length" "[I"] : List Cond), w ∈ wtX8_firstWinningCut := fun w h => List.mem_cons_of_mem _ (inl h)
theorem imX8_firstWinningCut_u_X3 : ∀ w ∈ (u_ws RX3 TX3 7 : List Cond), w ∈ wtX8_firstWinningCut := fun w h => List.mem_cons_of_mem _ (inr (inl h))
theorem imX8_firstWinningCut_u_X5 : ∀ w ∈ (u_ws RX5 TX5 4 : List Cond), w ∈ wtX8_firstWinningCut := fun w h => List.mem_cons_of_mem _ (inr (inr (inl h)))
theorem imX8_firstWinningCut_u_X8 : ∀ w ∈ (u_ws RX8 TX8 9 : List Cond), w ∈ wtX8_firstWinningCut := fun w h => List.mem_cons_of_mem _ (inr (inr (inr (inl h))))
theorem imX8_firstWinningCut_c_X8_worth : ∀ w ∈ (wsV RX8 242 RX8 yX8_worth wtX8_worth : List Cond), w ∈ wtX8_firstWinningCut := fun w h => List.mem_cons_of_mem _ (inr (inr (inr (inr (inl h)))))
theorem imX8_firstWinningCut_c_X8_at : ∀ w ∈ (va_wsS RX8 75 yX8_at wtX8_at : List Cond), w ∈ wtX8_firstWinningCut := fun w h => List.mem_cons_of_mem _ (inr (inr (inr (inr (inr (inl h))))))
theorem gdX8_firstWinningCut : ∀ w ∈ wtX8_firstWinningCut, Gd w := gdc rfl (gda (gdl (by decide +kernel)) (gda (gdu _ _ _) (gda (gdu _ _ _) (gda (gdu _ _ _) (gda (gda (gdl (by decide +kernel)) gdX8_worth) (gda (gda (gdl (by decide +kernel)) gdX8_at) gdn))))))
theorem gcX8_firstWinningCut_X8_worth : GoodIn wtX8_firstWinningCut (wsV RX8 242 RX8 yX8_worth wtX8_worth) := fun w h => ⟨imX8_firstWinningCut_c_X8_worth w h, (gda (gdl (by decide +kernel)) gdX8_worth) w h⟩
theorem gcX8_firstWinningCut_X8_at : GoodIn wtX8_firstWinningCut (va_wsS RX8 75 yX8_at wtX8_at) := fun w h => ⟨imX8_firstWinningCut_c_X8_at w h, (gda (gdl (by decide +kernel)) gdX8_at) w h⟩
def fX8_firstWinningCut_69 (k28 : Int32 → Option (Int32)) (v_length : Nat → Int32) (v_place : Nat → Int32) (x1 : Int32) (x2 : Int32) (x3 : Int32) (x4 : Int32) : Nat → Int32 → Option (Int32)
  | 0, _ => none
  | n + 1, x5 =>
    if x1 < x5 then
      k28 (x3 + (1 : Int32))
    else
      (fX8_at 10 v_length x3).bind (fun r1002 =>
        if r1002 < x5 then
          k28 (x3 + (1 : Int32))
        else
          (fX8_worth v_length v_place x3 x5 x1).bind (fun r1004 =>
            if r1004 = x4 then
              some (((100 : Int32) * x3) + x5)
            else
              fX8_firstWinningCut_69 k28 v_length v_place x1 x2 x3 x4 n (x5 + (1 : Int32))))
def fX8_firstWinningCut_28 (v_length : Nat → Int32) (v_place : Nat → Int32) (x1 : Int32) (x2 : Int32) : Nat → Int32 → Option (Int32)
  | 0, _ => none
  | n + 1, x3 =>
    if (10 : Int32) ≤ x3 then
      some (-6 : Int32)
    else
      (fX8_at 10 v_place x3).bind (fun r2002 =>
        if r2002 = (1 : Int32) then
          (fX8_worth v_length v_place x3 (0 : Int32) x1).bind (fun r2004 =>
            fX8_firstWinningCut_69 (fun y0 => fX8_firstWinningCut_28 v_length v_place x1 x2 n y0) v_length v_place x1 x2 x3 (x2 ^^^ r2004) 2000 (1 : Int32))
        else
          fX8_firstWinningCut_28 v_length v_place x1 x2 n (x3 + (1 : Int32)))
def fX8_firstWinningCut_4 (v_length : Nat → Int32) (v_place : Nat → Int32) (x1 : Int32) : Nat → Int32 → Int32 → Option (Int32)
  | 0, _, _ => none
  | n + 1, x2, x3 =>
    if (10 : Int32) ≤ x3 then
      fX8_firstWinningCut_28 v_length v_place x1 x2 2000 (0 : Int32)
    else
      (fX8_worth v_length v_place x3 (0 : Int32) x1).bind (fun r3002 =>
        fX8_firstWinningCut_4 v_length v_place x1 n (x2 ^^^ r3002) (x3 + (1 : Int32)))
def fX8_firstWinningCut (v_length : Nat → Int32) (v_place : Nat → Int32) (x1 : Int32) : Option (Int32) :=
  fX8_firstWinningCut_4 v_length v_place x1 2000 (0 : Int32) (0 : Int32)
def wdX8_firstWinningCut (cI cZ : ClassId) (q0 : Nat) (q1 : Nat) (q2 : Nat) (q3 : Nat) (q4 : Nat) (d5 : Nat) (d6 : Nat) (d7 : Nat) (d8 : Nat) (d9 : Nat) (d10 : Nat) (d11 : Nat) (d12 : Nat) (d13 : Nat) (d14 : Nat) (d15 : Nat) (d16 : Nat) (d17 : Nat)  (v_length : Nat → Int32) (v_place : Nat → Int32) (v_firstKept : Int32) (v_secondKept : Int32) (v_year : Int32) : va_W := [(q0, .inr (8, [.ref q1, .ref d5, .ref d6, .int v_firstKept, .int v_secondKept, .ref d7, .ref d8, .ref d9, .ref d10])), (q1, .inr (5, [.ref q2, .ref d11, .ref d12, .int v_year])), (q2, .inr (3, [.ref d13, .ref d14, .ref q3, .ref d15, .ref d16, .ref q4, .ref d17])), (q3, .inl (cI, 10, .inl v_length)), (q4, .inl (cI, 10, .inl v_place))]
abbrev rmX8_firstWinningCut : Jvm.Room := { frames := 2, cells := 0, slots := 0, locals := 44 }
theorem hyX8_firstWinningCut : yX8_firstWinningCut.cls ≠ "java/lang/invoke/MethodHandle" ∧ yX8_firstWinningCut.cls ≠ "java/lang/invoke/VarHandle" ∧ (parseMethodDescriptor yX8_firstWinningCut.desc).map (fun d => d.parameters.length) = some 1 := by decide +kernel
set_option maxHeartbeats 4000000 in
set_option maxRecDepth 100000 in
theorem mX8_firstWinningCut (l : Launch) (D : va_G) (cI cZ : ClassId) (q0 : Nat) (q1 : Nat) (q2 : Nat) (q3 : Nat) (q4 : Nat) (d5 : Nat) (d6 : Nat) (d7 : Nat) (d8 : Nat) (d9 : Nat) (d10 : Nat) (d11 : Nat) (d12 : Nat) (d13 : Nat) (d14 : Nat) (d15 : Nat) (d16 : Nat) (d17 : Nat) (v_length : Nat → Int32) (v_place : Nat → Int32) (v_firstKept : Int32) (v_secondKept : Int32) (v_year : Int32) (x1 : Int32) (z : Int32) (hF : fX8_firstWinningCut v_length v_place x1 = some z) : mp l yX8_firstWinningCut wtX8_firstWinningCut rmX8_firstWinningCut D cI cZ [.ref q0, .int x1] (wdX8_firstWinningCut cI cZ q0 q1 q2 q3 q4 d5 d6 d7 d8 d9 d10 d11 d12 d13 d14 d15 d16 d17 v_length v_place v_firstKept v_secondKept v_year) (some (.int z)) (wdX8_firstWinningCut cI cZ q0 q1 q2 q3 q4 d5 d6 d7 d8 d9 d10 d11 d12 d13 d14 d15 d16 d17 v_length v_place v_firstKept v_secondKept v_year) := by
  refine mp_i (lv0 := [(0, .ref q0), (1, .int x1)]) cX8_firstWinningCut 6 z (by decide) rfl (Nat.le_of_ble_eq_true rfl) rfl (fun E h hend0 => ?_)
  have hend : ∀ (z' : Int32), some z' = some z → ∀ (pc : Nat) (lv : List (Nat × Value)), decode cX8_firstWinningCut pc = .ok (.ireturn, 1) → G l D E 6 0 0 (wdX8_firstWinningCut cI cZ q0 q1 q2 q3 q4 d5 d6 d7 d8 d9 d10 d11 d12 d13 d14 d15 d16 d17 v_length v_place v_firstKept v_secondKept v_year) pc lv [.int z'] := fun z' e => by cases e; exact hend0
  clear hend0
  have hL28 : ∀ (n28 : Nat) (x2 : Int32) (x3 : Int32), fX8_firstWinningCut_28 v_length v_place x1 x2 n28 x3 = some z → G l D E 6 0 0 (wdX8_firstWinningCut cI cZ q0 q1 q2 q3 q4 d5 d6 d7 d8 d9 d10 d11 d12 d13 d14 d15 d16 d17 v_length v_place v_firstKept v_secondKept v_year) 28 [(0, .ref q0), (1, .int x1), (2, .int x2), (3, .int x3)] [] := by
    intro n28
    induction n28 with
    | zero =>
      intro x2 x3 hF
      rw [fX8_firstWinningCut_28] at hF
      cases hF
    | succ n28 ih28 =>
      have hL69 : ∀ (n69 : Nat) (x2 : Int32) (x3 : Int32) (x4 : Int32) (x5 : Int32), fX8_firstWinningCut_69 (fun y0 => fX8_firstWinningCut_28 v_length v_place x1 x2 n28 y0) v_length v_place x1 x2 x3 x4 n69 x5 = some z → G l D E 6 0 0 (wdX8_firstWinningCut cI cZ q0 q1 q2 q3 q4 d5 d6 d7 d8 d9 d10 d11 d12 d13 d14 d15 d16 d17 v_length v_place v_firstKept v_secondKept v_year) 69 [(0, .ref q0), (1, .int x1), (2, .int x2), (3, .int x3), (4, .int x4), (5, .int x5)] [] := by
        intro n69
        induction n69 with
        | zero =>
          intro x2 x3 x4 x5 hF
          rw [fX8_firstWinningCut_69] at hF
          cases hF
        | succ n69 ih69 =>
          intro x2 x3 x4 x5 hF
          rw [fX8_firstWinningCut_69] at hF
          refine g_iload (np := 71) h 5 rfl dX8_firstWinningCut_69 rfl ?_
          refine g_iload_n (np := 72) h 1 rfl rfl dX8_firstWinningCut_71 rfl ?_
          refine g_icmp_gt h hF dX8_firstWinningCut_72 (np := 75) rfl (tg := 121) rfl (fun c1001 hF => ?_) (fun c1001 hF => ?_)
          · refine g_iinc (np := 124) (v := (x3 + (1 : Int32))) (lv' := [(3, .int (x3 + (1 : Int32))), (0, .ref q0), (1, .int x1), (2, .int x2), (4, .int x4), (5, .int x5)]) h 3 rfl rfl (by decide) rfl dX8_firstWinningCut_121 rfl ?_
            refine g_goto h dX8_firstWinningCut_124 (np := 28) rfl ?_
            refine g_lv [1, 2, 3, 0] rfl ?_
            exact ih28 x2 (x3 + (1 : Int32)) hF
          · refine g_iload (np := 77) h 5 rfl dX8_firstWinningCut_75 rfl ?_
            refine g_aload_n (np := 78) h 0 rfl rfl dX8_firstWinningCut_77 rfl ?_
            refine g_get (np := 81) (T := TX8) h imX8_firstWinningCut_u_X8 0 8 rfl rfl 0 (by decide) (imX8_firstWinningCut_own _ (List.mem_of_getElem? (i := 0) rfl)) rfl dX8_firstWinningCut_78 rfl ?_
            refine g_get (np := 84) (T := TX5) h imX8_firstWinningCut_u_X5 1 5 rfl rfl 0 (by decide) (imX8_firstWinningCut_own _ (List.mem_of_getElem? (i := 1) rfl)) rfl dX8_firstWinningCut_81 rfl ?_
            refine g_get (np := 87) (T := TX3) h imX8_firstWinningCut_u_X3 2 3 rfl rfl 2 (by decide) (imX8_firstWinningCut_own _ (List.mem_of_getElem? (i := 3) rfl)) rfl dX8_firstWinningCut_84 rfl ?_
            refine g_iload_n (np := 88) h 3 rfl rfl dX8_firstWinningCut_87 rfl ?_
            obtain ⟨r1002, hr1002, hF⟩ := Option.bind_eq_some_iff.mp hF
            refine g_callS (np := 91) (Wd' := (wdX8_firstWinningCut cI cZ q0 q1 q2 q3 q4 d5 d6 d7 d8 d9 d10 d11 d12 d13 d14 d15 d16 d17 v_length v_place v_firstKept v_secondKept v_year)) (As := [.ref q3, .int x3]) h (mX8_at l D cI cZ q3 10 v_length x3 r1002 hr1002) gcX8_firstWinningCut_X8_at rfl ⟨rfl, rfl⟩ hyX8_at rfl rfl rfl rfl ⟨Nat.zero_le _, Nat.zero_le _⟩ [3] [0, 1, 2, 4] (N := 5) (by decide +kernel) rfl rfl rfl rfl rfl dX8_firstWinningCut_88 rfl ?_
            refine g_icmp_gt h hF dX8_firstWinningCut_91 (np := 94) rfl (tg := 121) rfl (fun c1003 hF => ?_) (fun c1003 hF => ?_)
            · refine g_iinc (np := 124) (v := (x3 + (1 : Int32))) (lv' := [(3, .int (x3 + (1 : Int32))), (0, .ref q0), (1, .int x1), (2, .int x2), (4, .int x4), (5, .int x5)]) h 3 rfl rfl (by decide) rfl dX8_firstWinningCut_121 rfl ?_
              refine g_goto h dX8_firstWinningCut_124 (np := 28) rfl ?_
              refine g_lv [1, 2, 3, 0] rfl ?_
              exact ih28 x2 (x3 + (1 : Int32)) hF
            · refine g_aload_n (np := 95) h 0 rfl rfl dX8_firstWinningCut_94 rfl ?_
              refine g_iload_n (np := 96) h 3 rfl rfl dX8_firstWinningCut_95 rfl ?_
              refine g_iload (np := 98) h 5 rfl dX8_firstWinningCut_96 rfl ?_
              refine g_iload_n (np := 99) h 1 rfl rfl dX8_firstWinningCut_98 rfl ?_
              obtain ⟨r1004, hr1004, hF⟩ := Option.bind_eq_some_iff.mp hF
              refine g_callV (np := 102) (Wd' := (wdX8_firstWinningCut cI cZ q0 q1 q2 q3 q4 d5 d6 d7 d8 d9 d10 d11 d12 d13 d14 d15 d16 d17 v_length v_place v_firstKept v_secondKept v_year)) (As := [.int x3, .int x5, .int x1]) h (mX8_worth l D cI cZ q0 q1 q2 q3 q4 d5 d6 d7 d8 d9 d10 d11 d12 d13 d14 d15 d16 d17 v_length v_place v_firstKept v_secondKept v_year x3 x5 x1 r1004 hr1004) gcX8_firstWinningCut_X8_worth rfl ⟨rfl, rfl⟩ ⟨rfl, hyX8_worth⟩ rfl 8 0 rfl rfl rfl rfl rfl rfl ⟨Nat.zero_le _, Nat.zero_le _⟩ [0, 1, 2, 3, 4] [] (N := 5) (by decide +kernel) rfl rfl rfl rfl rfl dX8_firstWinningCut_99 rfl ?_
              refine g_iload (np := 104) h 4 rfl dX8_firstWinningCut_102 rfl ?_
              refine g_icmp_ne h hF dX8_firstWinningCut_104 (np := 107) rfl (tg := 115) rfl (fun c1005 hF => ?_) (fun c1005 hF => ?_)
              · refine g_iinc (np := 118) (v := (x5 + (1 : Int32))) (lv' := [(5, .int (x5 + (1 : Int32))), (0, .ref q0), (1, .int x1), (2, .int x2), (3, .int x3), (4, .int x4)]) h 5 rfl rfl (by decide) rfl dX8_firstWinningCut_115 rfl ?_
                refine g_goto h dX8_firstWinningCut_118 (np := 69) rfl ?_
                refine g_lv [1, 2, 3, 4, 5, 0] rfl ?_
                exact ih69 x2 x3 x4 (x5 + (1 : Int32)) hF
              · refine g_bipush (np := 109) (v := (100 : Int32)) h (by decide) dX8_firstWinningCut_107 rfl ?_
                refine g_iload_n (np := 110) h 3 rfl rfl dX8_firstWinningCut_109 rfl ?_
                refine g_imul (np := 111) h dX8_firstWinningCut_110 rfl ?_
                refine g_iload (np := 113) h 5 rfl dX8_firstWinningCut_111 rfl ?_
                refine g_iadd (np := 114) h dX8_firstWinningCut_113 rfl ?_
                exact hend _ hF _ _ dX8_firstWinningCut_114
      intro x2 x3 hF
      rw [fX8_firstWinningCut_28] at hF
      refine g_iload_n (np := 29) h 3 rfl rfl dX8_firstWinningCut_28 rfl ?_
      refine g_bipush (np := 31) (v := (10 : Int32)) h (by decide) dX8_firstWinningCut_29 rfl ?_
      refine g_icmp_ge h hF dX8_firstWinningCut_31 (np := 34) rfl (tg := 127) rfl (fun c2001 hF => ?_) (fun c2001 hF => ?_)
      · refine g_bipush (np := 129) (v := (-6 : Int32)) h (by decide) dX8_firstWinningCut_127 rfl ?_
        exact hend _ hF _ _ dX8_firstWinningCut_129
      · refine g_aload_n (np := 35) h 0 rfl rfl dX8_firstWinningCut_34 rfl ?_
        refine g_get (np := 38) (T := TX8) h imX8_firstWinningCut_u_X8 0 8 rfl rfl 0 (by decide) (imX8_firstWinningCut_own _ (List.mem_of_getElem? (i := 0) rfl)) rfl dX8_firstWinningCut_35 rfl ?_
        refine g_get (np := 41) (T := TX5) h imX8_firstWinningCut_u_X5 1 5 rfl rfl 0 (by decide) (imX8_firstWinningCut_own _ (List.mem_of_getElem? (i := 1) rfl)) rfl dX8_firstWinningCut_38 rfl ?_
        refine g_get (np := 44) (T := TX3) h imX8_firstWinningCut_u_X3 2 3 rfl rfl 5 (by decide) (imX8_firstWinningCut_own _ (List.mem_of_getElem? (i := 2) rfl)) rfl dX8_firstWinningCut_41 rfl ?_
        refine g_iload_n (np := 45) h 3 rfl rfl dX8_firstWinningCut_44 rfl ?_
        obtain ⟨r2002, hr2002, hF⟩ := Option.bind_eq_some_iff.mp hF
        refine g_callS (np := 48) (Wd' := (wdX8_firstWinningCut cI cZ q0 q1 q2 q3 q4 d5 d6 d7 d8 d9 d10 d11 d12 d13 d14 d15 d16 d17 v_length v_place v_firstKept v_secondKept v_year)) (As := [.ref q4, .int x3]) h (mX8_at l D cI cZ q4 10 v_place x3 r2002 hr2002) gcX8_firstWinningCut_X8_at rfl ⟨rfl, rfl⟩ hyX8_at rfl rfl rfl rfl ⟨Nat.zero_le _, Nat.zero_le _⟩ [4] [0, 1, 2, 3] (N := 5) (by decide +kernel) rfl rfl rfl rfl rfl dX8_firstWinningCut_45 rfl ?_
        refine g_iconst (np := 49) (v := (1 : Int32)) h (by decide) dX8_firstWinningCut_48 rfl ?_
        refine g_icmp_eq h hF dX8_firstWinningCut_49 (np := 52) rfl (tg := 55) rfl (fun c2003 hF => ?_) (fun c2003 hF => ?_)
        · refine g_iload_n (np := 56) h 2 rfl rfl dX8_firstWinningCut_55 rfl ?_
          refine g_aload_n (np := 57) h 0 rfl rfl dX8_firstWinningCut_56 rfl ?_
          refine g_iload_n (np := 58) h 3 rfl rfl dX8_firstWinningCut_57 rfl ?_
          refine g_iconst (np := 59) (v := (0 : Int32)) h (by decide) dX8_firstWinningCut_58 rfl ?_
          refine g_iload_n (np := 60) h 1 rfl rfl dX8_firstWinningCut_59 rfl ?_
          obtain ⟨r2004, hr2004, hF⟩ := Option.bind_eq_some_iff.mp hF
          refine g_callV (np := 63) (Wd' := (wdX8_firstWinningCut cI cZ q0 q1 q2 q3 q4 d5 d6 d7 d8 d9 d10 d11 d12 d13 d14 d15 d16 d17 v_length v_place v_firstKept v_secondKept v_year)) (As := [.int x3, .int (0 : Int32), .int x1]) h (mX8_worth l D cI cZ q0 q1 q2 q3 q4 d5 d6 d7 d8 d9 d10 d11 d12 d13 d14 d15 d16 d17 v_length v_place v_firstKept v_secondKept v_year x3 (0 : Int32) x1 r2004 hr2004) gcX8_firstWinningCut_X8_worth rfl ⟨rfl, rfl⟩ ⟨rfl, hyX8_worth⟩ rfl 8 0 rfl rfl rfl rfl rfl rfl ⟨Nat.zero_le _, Nat.zero_le _⟩ [0, 1, 2, 3, 4] [] (N := 5) (by decide +kernel) rfl rfl rfl rfl rfl dX8_firstWinningCut_60 rfl ?_
          refine g_ixor (np := 64) h dX8_firstWinningCut_63 rfl ?_
          refine g_istore (np := 66) (lv' := [(4, .int (x2 ^^^ r2004)), (0, .ref q0), (1, .int x1), (2, .int x2), (3, .int x3)]) h (by decide) rfl dX8_firstWinningCut_64 rfl ?_
          refine g_iconst (np := 67) (v := (1 : Int32)) h (by decide) dX8_firstWinningCut_66 rfl ?_
          refine g_istore (np := 69) (lv' := [(5, .int (1 : Int32)), (4, .int (x2 ^^^ r2004)), (0, .ref q0), (1, .int x1), (2, .int x2), (3, .int x3)]) h (by decide) rfl dX8_firstWinningCut_67 rfl ?_
          refine g_lv [2, 3, 4, 5, 1, 0] rfl ?_
          exact hL69 _ x2 x3 (x2 ^^^ r2004) (1 : Int32) hF
        · refine g_goto h dX8_firstWinningCut_52 (np := 121) rfl ?_
          refine g_iinc (np := 124) (v := (x3 + (1 : Int32))) (lv' := [(3, .int (x3 + (1 : Int32))), (0, .ref q0), (1, .int x1), (2, .int x2)]) h 3 rfl rfl (by decide) rfl dX8_firstWinningCut_121 rfl ?_
          refine g_goto h dX8_firstWinningCut_124 (np := 28) rfl ?_
          refine g_lv [1, 2, 3, 0] rfl ?_
          exact ih28 x2 (x3 + (1 : Int32)) hF
  have hL4 : ∀ (n4 : Nat) (x2 : Int32) (x3 : Int32), fX8_firstWinningCut_4 v_length v_place x1 n4 x2 x3 = some z → G l D E 6 0 0 (wdX8_firstWinningCut cI cZ q0 q1 q2 q3 q4 d5 d6 d7 d8 d9 d10 d11 d12 d13 d14 d15 d16 d17 v_length v_place v_firstKept v_secondKept v_year) 4 [(0, .ref q0), (1, .int x1), (2, .int x2), (3, .int x3)] [] := by
    intro n4
    induction n4 with
    | zero =>
      intro x2 x3 hF
      rw [fX8_firstWinningCut_4] at hF
      cases hF
    | succ n4 ih4 =>
      intro x2 x3 hF
      rw [fX8_firstWinningCut_4] at hF
      refine g_iload_n (np := 5) h 3 rfl rfl dX8_firstWinningCut_4 rfl ?_
      refine g_bipush (np := 7) (v := (10 : Int32)) h (by decide) dX8_firstWinningCut_5 rfl ?_
      refine g_icmp_ge h hF dX8_firstWinningCut_7 (np := 10) rfl (tg := 26) rfl (fun c3001 hF => ?_) (fun c3001 hF => ?_)
      · refine g_iconst (np := 27) (v := (0 : Int32)) h (by decide) dX8_firstWinningCut_26 rfl ?_
        refine g_istore_n (np := 28) (lv' := [(3, .int (0 : Int32)), (0, .ref q0), (1, .int x1), (2, .int x2)]) h rfl (by decide) rfl dX8_firstWinningCut_27 rfl ?_
        refine g_lv [1, 2, 3, 0] rfl ?_
        exact hL28 _ x2 (0 : Int32) hF
      · refine g_iload_n (np := 11) h 2 rfl rfl dX8_firstWinningCut_10 rfl ?_
        refine g_aload_n (np := 12) h 0 rfl rfl dX8_firstWinningCut_11 rfl ?_
        refine g_iload_n (np := 13) h 3 rfl rfl dX8_firstWinningCut_12 rfl ?_
        refine g_iconst (np := 14) (v := (0 : Int32)) h (by decide) dX8_firstWinningCut_13 rfl ?_
        refine g_iload_n (np := 15) h 1 rfl rfl dX8_firstWinningCut_14 rfl ?_
        obtain ⟨r3002, hr3002, hF⟩ := Option.bind_eq_some_iff.mp hF
        refine g_callV (np := 18) (Wd' := (wdX8_firstWinningCut cI cZ q0 q1 q2 q3 q4 d5 d6 d7 d8 d9 d10 d11 d12 d13 d14 d15 d16 d17 v_length v_place v_firstKept v_secondKept v_year)) (As := [.int x3, .int (0 : Int32), .int x1]) h (mX8_worth l D cI cZ q0 q1 q2 q3 q4 d5 d6 d7 d8 d9 d10 d11 d12 d13 d14 d15 d16 d17 v_length v_place v_firstKept v_secondKept v_year x3 (0 : Int32) x1 r3002 hr3002) gcX8_firstWinningCut_X8_worth rfl ⟨rfl, rfl⟩ ⟨rfl, hyX8_worth⟩ rfl 8 0 rfl rfl rfl rfl rfl rfl ⟨Nat.zero_le _, Nat.zero_le _⟩ [0, 1, 2, 3, 4] [] (N := 5) (by decide +kernel) rfl rfl rfl rfl rfl dX8_firstWinningCut_15 rfl ?_
        refine g_ixor (np := 19) h dX8_firstWinningCut_18 rfl ?_
        refine g_istore_n (np := 20) (lv' := [(2, .int (x2 ^^^ r3002)), (0, .ref q0), (1, .int x1), (3, .int x3)]) h rfl (by decide) rfl dX8_firstWinningCut_19 rfl ?_
        refine g_iinc (np := 23) (v := (x3 + (1 : Int32))) (lv' := [(3, .int (x3 + (1 : Int32))), (2, .int (x2 ^^^ r3002)), (0, .ref q0), (1, .int x1)]) h 3 rfl rfl (by decide) rfl dX8_firstWinningCut_20 rfl ?_
        refine g_goto h dX8_firstWinningCut_23 (np := 4) rfl ?_
        refine g_lv [2, 3, 1, 0] rfl ?_
        exact ih4 (x2 ^^^ r3002) (x3 + (1 : Int32)) hF
  unfold fX8_firstWinningCut at hF
  refine g_iconst (np := 1) (v := (0 : Int32)) h (by decide) dX8_firstWinningCut_0 rfl ?_
  refine g_istore_n (np := 2) (lv' := [(2, .int (0 : Int32)), (0, .ref q0), (1, .int x1)]) h rfl (by decide) rfl dX8_firstWinningCut_1 rfl ?_
  refine g_iconst (np := 3) (v := (0 : Int32)) h (by decide) dX8_firstWinningCut_2 rfl ?_
  refine g_istore_n (np := 4) (lv' := [(3, .int (0 : Int32)), (2, .int (0 : Int32)), (0, .ref q0), (1, .int x1)]) h rfl (by decide) rfl dX8_firstWinningCut_3 rfl ?_
  refine g_lv [2, 3, 1, 0] rfl ?_
  exact hL4 _ (0 : Int32) (0 : Int32) hF
theorem dX8_saw_0 : decode cX8_saw 0 = .ok (.iload_n 1, 1) := by decide +kernel
theorem dX8_saw_1 : decode cX8_saw 1 = .ok (.iconst 1, 1) := by decide +kernel
theorem dX8_saw_2 : decode cX8_saw 2 = .ok (.bipush 9, 2) := by decide +kernel
theorem dX8_saw_4 : decode cX8_saw 4 = .ok (.invokestatic 61, 3) := by decide +kernel
theorem dX8_saw_7 : decode cX8_saw 7 = .ok (.ifCond .eq 12, 3) := by decide +kernel
theorem dX8_saw_10 : decode cX8_saw 10 = .ok (.iload_n 2, 1) := by decide +kernel
theorem dX8_saw_11 : decode cX8_saw 11 = .ok (.iconst 0, 1) := by decide +kernel
theorem dX8_saw_12 : decode cX8_saw 12 = .ok (.iconst 1, 1) := by decide +kernel
theorem dX8_saw_13 : decode cX8_saw 13 = .ok (.invokestatic 61, 3) := by decide +kernel
theorem dX8_saw_16 : decode cX8_saw 16 = .ok (.ifCond .ne 6, 3) := by decide +kernel
theorem dX8_saw_19 : decode cX8_saw 19 = .ok (.bipush (-2), 2) := by decide +kernel
theorem dX8_saw_21 : decode cX8_saw 21 = .ok (.ireturn, 1) := by decide +kernel
theorem dX8_saw_22 : decode cX8_saw 22 = .ok (.aload_n 0, 1) := by decide +kernel
theorem dX8_saw_23 : decode cX8_saw 23 = .ok (.iload_n 1, 1) := by decide +kernel
theorem dX8_saw_24 : decode cX8_saw 24 = .ok (.invokevirtual 212, 3) := by decide +kernel
theorem dX8_saw_27 : decode cX8_saw 27 = .ok (.istore_n 3, 1) := by decide +kernel
theorem dX8_saw_28 : decode cX8_saw 28 = .ok (.iload_n 2, 1) := by decide +kernel
theorem dX8_saw_29 : decode cX8_saw 29 = .ok (.ifCond .ne 15, 3) := by decide +kernel
theorem dX8_saw_32 : decode cX8_saw 32 = .ok (.iload_n 3, 1) := by decide +kernel
theorem dX8_saw_33 : decode cX8_saw 33 = .ok (.bipush (-6), 2) := by decide +kernel
theorem dX8_saw_35 : decode cX8_saw 35 = .ok (.if_icmp .ne 7, 3) := by decide +kernel
theorem dX8_saw_38 : decode cX8_saw 38 = .ok (.iconst 0, 1) := by decide +kernel
theorem dX8_saw_39 : decode cX8_saw 39 = .ok (.goto 4, 3) := by decide +kernel
theorem dX8_saw_42 : decode cX8_saw 42 = .ok (.iconst 1, 1) := by decide +kernel
theorem dX8_saw_43 : decode cX8_saw 43 = .ok (.ireturn, 1) := by decide +kernel
theorem dX8_saw_44 : decode cX8_saw 44 = .ok (.iload_n 3, 1) := by decide +kernel
theorem dX8_saw_45 : decode cX8_saw 45 = .ok (.ireturn, 1) := by decide +kernel
def wtX8_saw : List Cond := .code yX8_saw cX8_saw 4 (some .int) :: (([]) ++ ((va_wsS RX8 61 yX8_within wtX8_within) ++ ((wsV RX8 212 RX8 yX8_firstWinningCut wtX8_firstWinningCut) ++ [])))
theorem imX8_saw_own : ∀ w ∈ ([] : List Cond), w ∈ wtX8_saw := fun w h => List.mem_cons_of_mem _ (inl h)
theorem imX8_saw_c_X8_within : ∀ w ∈ (va_wsS RX8 61 yX8_within wtX8_within : List Cond), w ∈ wtX8_saw := fun w h => List.mem_cons_of_mem _ (inr (inl h))
theorem imX8_saw_c_X8_firstWinningCut : ∀ w ∈ (wsV RX8 212 RX8 yX8_firstWinningCut wtX8_firstWinningCut : List Cond), w ∈ wtX8_saw := fun w h => List.mem_cons_of_mem _ (inr (inr (inl h)))
theorem gdX8_saw : ∀ w ∈ wtX8_saw, Gd w := gdc rfl (gda (gdl (by decide +kernel)) (gda (gda (gdl (by decide +kernel)) gdX8_within) (gda (gda (gdl (by decide +kernel)) gdX8_firstWinningCut) gdn)))
theorem gcX8_saw_X8_within : GoodIn wtX8_saw (va_wsS RX8 61 yX8_within wtX8_within) := fun w h => ⟨imX8_saw_c_X8_within w h, (gda (gdl (by decide +kernel)) gdX8_within) w h⟩
theorem gcX8_saw_X8_firstWinningCut : GoodIn wtX8_saw (wsV RX8 212 RX8 yX8_firstWinningCut wtX8_firstWinningCut) := fun w h => ⟨imX8_saw_c_X8_firstWinningCut w h, (gda (gdl (by decide +kernel)) gdX8_firstWinningCut) w h⟩
def fX8_saw (v_length : Nat → Int32) (v_place : Nat → Int32) (x1 : Int32) (x2 : Int32) : Option (Int32) :=
  (fX8_within x1 (1 : Int32) (9 : Int32)).bind (fun r1 =>
    if r1 = (0 : Int32) then
      some (-2 : Int32)
    else
      (fX8_within x2 (0 : Int32) (1 : Int32)).bind (fun r3 =>
        if r3 = (0 : Int32) then
          some (-2 : Int32)
        else
          (fX8_firstWinningCut v_length v_place x1).bind (fun r5 =>
            if x2 = (0 : Int32) then
              if r5 = (-6 : Int32) then
                some (0 : Int32)
              else
                some (1 : Int32)
            else
              some r5)))
def wdX8_saw (cI cZ : ClassId) (q0 : Nat) (q1 : Nat) (q2 : Nat) (q3 : Nat) (q4 : Nat) (d5 : Nat) (d6 : Nat) (d7 : Nat) (d8 : Nat) (d9 : Nat) (d10 : Nat) (d11 : Nat) (d12 : Nat) (d13 : Nat) (d14 : Nat) (d15 : Nat) (d16 : Nat) (d17 : Nat)  (v_length : Nat → Int32) (v_place : Nat → Int32) (v_firstKept : Int32) (v_secondKept : Int32) (v_year : Int32) : va_W := [(q0, .inr (8, [.ref q1, .ref d5, .ref d6, .int v_firstKept, .int v_secondKept, .ref d7, .ref d8, .ref d9, .ref d10])), (q1, .inr (5, [.ref q2, .ref d11, .ref d12, .int v_year])), (q2, .inr (3, [.ref d13, .ref d14, .ref q3, .ref d15, .ref d16, .ref q4, .ref d17])), (q3, .inl (cI, 10, .inl v_length)), (q4, .inl (cI, 10, .inl v_place))]
abbrev rmX8_saw : Jvm.Room := { frames := 3, cells := 0, slots := 0, locals := 69 }
theorem hyX8_saw : yX8_saw.cls ≠ "java/lang/invoke/MethodHandle" ∧ yX8_saw.cls ≠ "java/lang/invoke/VarHandle" ∧ (parseMethodDescriptor yX8_saw.desc).map (fun d => d.parameters.length) = some 2 := by decide +kernel
set_option maxHeartbeats 4000000 in
set_option maxRecDepth 100000 in
theorem mX8_saw (l : Launch) (D : va_G) (cI cZ : ClassId) (q0 : Nat) (q1 : Nat) (q2 : Nat) (q3 : Nat) (q4 : Nat) (d5 : Nat) (d6 : Nat) (d7 : Nat) (d8 : Nat) (d9 : Nat) (d10 : Nat) (d11 : Nat) (d12 : Nat) (d13 : Nat) (d14 : Nat) (d15 : Nat) (d16 : Nat) (d17 : Nat) (v_length : Nat → Int32) (v_place : Nat → Int32) (v_firstKept : Int32) (v_secondKept : Int32) (v_year : Int32) (x1 : Int32) (x2 : Int32) (z : Int32) (hF : fX8_saw v_length v_place x1 x2 = some z) : mp l yX8_saw wtX8_saw rmX8_saw D cI cZ [.ref q0, .int x1, .int x2] (wdX8_saw cI cZ q0 q1 q2 q3 q4 d5 d6 d7 d8 d9 d10 d11 d12 d13 d14 d15 d16 d17 v_length v_place v_firstKept v_secondKept v_year) (some (.int z)) (wdX8_saw cI cZ q0 q1 q2 q3 q4 d5 d6 d7 d8 d9 d10 d11 d12 d13 d14 d15 d16 d17 v_length v_place v_firstKept v_secondKept v_year) := by
  refine mp_i (lv0 := [(0, .ref q0), (1, .int x1), (2, .int x2)]) cX8_saw 4 z (by decide) rfl (Nat.le_of_ble_eq_true rfl) rfl (fun E h hend0 => ?_)
  have hend : ∀ (z' : Int32), some z' = some z → ∀ (pc : Nat) (lv : List (Nat × Value)), decode cX8_saw pc = .ok (.ireturn, 1) → G l D E 4 0 0 (wdX8_saw cI cZ q0 q1 q2 q3 q4 d5 d6 d7 d8 d9 d10 d11 d12 d13 d14 d15 d16 d17 v_length v_place v_firstKept v_secondKept v_year) pc lv [.int z'] := fun z' e => by cases e; exact hend0
  clear hend0
  unfold fX8_saw at hF
  refine g_iload_n (np := 1) h 1 rfl rfl dX8_saw_0 rfl ?_
  refine g_iconst (np := 2) (v := (1 : Int32)) h (by decide) dX8_saw_1 rfl ?_
  refine g_bipush (np := 4) (v := (9 : Int32)) h (by decide) dX8_saw_2 rfl ?_
  obtain ⟨r1, hr1, hF⟩ := Option.bind_eq_some_iff.mp hF
  refine g_callS (np := 7) (Wd' := (wdX8_saw cI cZ q0 q1 q2 q3 q4 d5 d6 d7 d8 d9 d10 d11 d12 d13 d14 d15 d16 d17 v_length v_place v_firstKept v_secondKept v_year)) (As := [.int x1, .int (1 : Int32), .int (9 : Int32)]) h (mX8_within l D cI cZ x1 (1 : Int32) (9 : Int32) r1 hr1) gcX8_saw_X8_within rfl ⟨rfl, rfl⟩ hyX8_within rfl rfl rfl rfl ⟨Nat.zero_le _, Nat.zero_le _⟩ [] [0, 1, 2, 3, 4] (N := 5) (by decide +kernel) rfl rfl rfl rfl rfl dX8_saw_4 rfl ?_
  refine g_if_eq h hF dX8_saw_7 (np := 10) rfl (tg := 19) rfl (fun c2 hF => ?_) (fun c2 hF => ?_)
  · refine g_bipush (np := 21) (v := (-2 : Int32)) h (by decide) dX8_saw_19 rfl ?_
    exact hend _ hF _ _ dX8_saw_21
  · refine g_iload_n (np := 11) h 2 rfl rfl dX8_saw_10 rfl ?_
    refine g_iconst (np := 12) (v := (0 : Int32)) h (by decide) dX8_saw_11 rfl ?_
    refine g_iconst (np := 13) (v := (1 : Int32)) h (by decide) dX8_saw_12 rfl ?_
    obtain ⟨r3, hr3, hF⟩ := Option.bind_eq_some_iff.mp hF
    refine g_callS (np := 16) (Wd' := (wdX8_saw cI cZ q0 q1 q2 q3 q4 d5 d6 d7 d8 d9 d10 d11 d12 d13 d14 d15 d16 d17 v_length v_place v_firstKept v_secondKept v_year)) (As := [.int x2, .int (0 : Int32), .int (1 : Int32)]) h (mX8_within l D cI cZ x2 (0 : Int32) (1 : Int32) r3 hr3) gcX8_saw_X8_within rfl ⟨rfl, rfl⟩ hyX8_within rfl rfl rfl rfl ⟨Nat.zero_le _, Nat.zero_le _⟩ [] [0, 1, 2, 3, 4] (N := 5) (by decide +kernel) rfl rfl rfl rfl rfl dX8_saw_13 rfl ?_
    refine g_if_ne h hF dX8_saw_16 (np := 19) rfl (tg := 22) rfl (fun c4 hF => ?_) (fun c4 hF => ?_)
    · refine g_aload_n (np := 23) h 0 rfl rfl dX8_saw_22 rfl ?_
      refine g_iload_n (np := 24) h 1 rfl rfl dX8_saw_23 rfl ?_
      obtain ⟨r5, hr5, hF⟩ := Option.bind_eq_some_iff.mp hF
      refine g_callV (np := 27) (Wd' := (wdX8_saw cI cZ q0 q1 q2 q3 q4 d5 d6 d7 d8 d9 d10 d11 d12 d13 d14 d15 d16 d17 v_length v_place v_firstKept v_secondKept v_year)) (As := [.int x1]) h (mX8_firstWinningCut l D cI cZ q0 q1 q2 q3 q4 d5 d6 d7 d8 d9 d10 d11 d12 d13 d14 d15 d16 d17 v_length v_place v_firstKept v_secondKept v_year x1 r5 hr5) gcX8_saw_X8_firstWinningCut rfl ⟨rfl, rfl⟩ ⟨rfl, hyX8_firstWinningCut⟩ rfl 8 0 rfl rfl rfl rfl rfl rfl ⟨Nat.zero_le _, Nat.zero_le _⟩ [0, 1, 2, 3, 4] [] (N := 5) (by decide +kernel) rfl rfl rfl rfl rfl dX8_saw_24 rfl ?_
      refine g_istore_n (np := 28) (lv' := [(3, .int r5), (0, .ref q0), (1, .int x1), (2, .int x2)]) h rfl (by decide) rfl dX8_saw_27 rfl ?_
      refine g_iload_n (np := 29) h 3 rfl rfl dX8_saw_28 rfl ?_
      refine g_if_ne h hF dX8_saw_29 (np := 32) rfl (tg := 44) rfl (fun c6 hF => ?_) (fun c6 hF => ?_)
      · refine g_iload_n (np := 45) h 0 rfl rfl dX8_saw_44 rfl ?_
        exact hend _ hF _ _ dX8_saw_45
      · refine g_iload_n (np := 33) h 0 rfl rfl dX8_saw_32 rfl ?_
        refine g_bipush (np := 35) (v := (-6 : Int32)) h (by decide) dX8_saw_33 rfl ?_
        refine g_icmp_ne h hF dX8_saw_35 (np := 38) rfl (tg := 42) rfl (fun c7 hF => ?_) (fun c7 hF => ?_)
        · refine g_iconst (np := 43) (v := (1 : Int32)) h (by decide) dX8_saw_42 rfl ?_
          exact hend _ hF _ _ dX8_saw_43
        · refine g_iconst (np := 39) (v := (0 : Int32)) h (by decide) dX8_saw_38 rfl ?_
          refine g_goto h dX8_saw_39 (np := 43) rfl ?_
          exact hend _ hF _ _ dX8_saw_43
    · refine g_bipush (np := 21) (v := (-2 : Int32)) h (by decide) dX8_saw_19 rfl ?_
      exact hend _ hF _ _ dX8_saw_21
theorem dX8_soon_0 : decode cX8_soon 0 = .ok (.iload_n 1, 1) := by decide +kernel
theorem dX8_soon_1 : decode cX8_soon 1 = .ok (.iconst 0, 1) := by decide +kernel
theorem dX8_soon_2 : decode cX8_soon 2 = .ok (.bipush 10, 2) := by decide +kernel
theorem dX8_soon_4 : decode cX8_soon 4 = .ok (.invokestatic 61, 3) := by decide +kernel
theorem dX8_soon_7 : decode cX8_soon 7 = .ok (.ifCond .eq 22, 3) := by decide +kernel
theorem dX8_soon_10 : decode cX8_soon 10 = .ok (.iload_n 3, 1) := by decide +kernel
theorem dX8_soon_11 : decode cX8_soon 11 = .ok (.iconst 0, 1) := by decide +kernel
theorem dX8_soon_12 : decode cX8_soon 12 = .ok (.iconst 2, 1) := by decide +kernel
theorem dX8_soon_13 : decode cX8_soon 13 = .ok (.invokestatic 61, 3) := by decide +kernel
theorem dX8_soon_16 : decode cX8_soon 16 = .ok (.ifCond .eq 13, 3) := by decide +kernel
theorem dX8_soon_19 : decode cX8_soon 19 = .ok (.iload 4, 2) := by decide +kernel
theorem dX8_soon_21 : decode cX8_soon 21 = .ok (.iconst 0, 1) := by decide +kernel
theorem dX8_soon_22 : decode cX8_soon 22 = .ok (.iconst 1, 1) := by decide +kernel
theorem dX8_soon_23 : decode cX8_soon 23 = .ok (.invokestatic 61, 3) := by decide +kernel
theorem dX8_soon_26 : decode cX8_soon 26 = .ok (.ifCond .ne 7, 3) := by decide +kernel
theorem dX8_soon_29 : decode cX8_soon 29 = .ok (.ldc2_w 215, 3) := by decide +kernel
theorem dX8_soon_32 : decode cX8_soon 32 = .ok (.lreturn, 1) := by decide +kernel
theorem dX8_soon_33 : decode cX8_soon 33 = .ok (.iload_n 2, 1) := by decide +kernel
theorem dX8_soon_34 : decode cX8_soon 34 = .ok (.iconst 0, 1) := by decide +kernel
theorem dX8_soon_35 : decode cX8_soon 35 = .ok (.iload_n 3, 1) := by decide +kernel
theorem dX8_soon_36 : decode cX8_soon 36 = .ok (.ifCond .ne 8, 3) := by decide +kernel
theorem dX8_soon_39 : decode cX8_soon 39 = .ok (.bipush 15, 2) := by decide +kernel
theorem dX8_soon_41 : decode cX8_soon 41 = .ok (.goto 5, 3) := by decide +kernel
theorem dX8_soon_44 : decode cX8_soon 44 = .ok (.bipush 8, 2) := by decide +kernel
theorem dX8_soon_46 : decode cX8_soon 46 = .ok (.invokestatic 61, 3) := by decide +kernel
theorem dX8_soon_49 : decode cX8_soon 49 = .ok (.ifCond .ne 7, 3) := by decide +kernel
theorem dX8_soon_52 : decode cX8_soon 52 = .ok (.ldc2_w 215, 3) := by decide +kernel
theorem dX8_soon_55 : decode cX8_soon 55 = .ok (.lreturn, 1) := by decide +kernel
theorem dX8_soon_56 : decode cX8_soon 56 = .ok (.bipush 10, 2) := by decide +kernel
theorem dX8_soon_58 : decode cX8_soon 58 = .ok (.iload_n 2, 1) := by decide +kernel
theorem dX8_soon_59 : decode cX8_soon 59 = .ok (.invokestatic 217, 3) := by decide +kernel
theorem dX8_soon_62 : decode cX8_soon 62 = .ok (.lstore 5, 2) := by decide +kernel
theorem dX8_soon_64 : decode cX8_soon 64 = .ok (.bipush 10, 2) := by decide +kernel
theorem dX8_soon_66 : decode cX8_soon 66 = .ok (.iload_n 1, 1) := by decide +kernel
theorem dX8_soon_67 : decode cX8_soon 67 = .ok (.isub, 1) := by decide +kernel
theorem dX8_soon_68 : decode cX8_soon 68 = .ok (.iload_n 2, 1) := by decide +kernel
theorem dX8_soon_69 : decode cX8_soon 69 = .ok (.invokestatic 217, 3) := by decide +kernel
theorem dX8_soon_72 : decode cX8_soon 72 = .ok (.lstore 7, 2) := by decide +kernel
theorem dX8_soon_74 : decode cX8_soon 74 = .ok (.lload 5, 2) := by decide +kernel
theorem dX8_soon_76 : decode cX8_soon 76 = .ok (.lload 7, 2) := by decide +kernel
theorem dX8_soon_78 : decode cX8_soon 78 = .ok (.lsub, 1) := by decide +kernel
theorem dX8_soon_79 : decode cX8_soon 79 = .ok (.lstore 9, 2) := by decide +kernel
theorem dX8_soon_81 : decode cX8_soon 81 = .ok (.lload 5, 2) := by decide +kernel
theorem dX8_soon_83 : decode cX8_soon 83 = .ok (.lstore 11, 2) := by decide +kernel
theorem dX8_soon_85 : decode cX8_soon 85 = .ok (.iload_n 3, 1) := by decide +kernel
theorem dX8_soon_86 : decode cX8_soon 86 = .ok (.iconst 1, 1) := by decide +kernel
theorem dX8_soon_87 : decode cX8_soon 87 = .ok (.if_icmp .ne 16, 3) := by decide +kernel
theorem dX8_soon_90 : decode cX8_soon 90 = .ok (.lload 5, 2) := by decide +kernel
theorem dX8_soon_92 : decode cX8_soon 92 = .ok (.lload 5, 2) := by decide +kernel
theorem dX8_soon_94 : decode cX8_soon 94 = .ok (.lmul, 1) := by decide +kernel
theorem dX8_soon_95 : decode cX8_soon 95 = .ok (.lload 7, 2) := by decide +kernel
theorem dX8_soon_97 : decode cX8_soon 97 = .ok (.lload 7, 2) := by decide +kernel
theorem dX8_soon_99 : decode cX8_soon 99 = .ok (.lmul, 1) := by decide +kernel
theorem dX8_soon_100 : decode cX8_soon 100 = .ok (.lsub, 1) := by decide +kernel
theorem dX8_soon_101 : decode cX8_soon 101 = .ok (.lstore 9, 2) := by decide +kernel
theorem dX8_soon_103 : decode cX8_soon 103 = .ok (.iload_n 3, 1) := by decide +kernel
theorem dX8_soon_104 : decode cX8_soon 104 = .ok (.iconst 2, 1) := by decide +kernel
theorem dX8_soon_105 : decode cX8_soon 105 = .ok (.if_icmp .ne 10, 3) := by decide +kernel
theorem dX8_soon_108 : decode cX8_soon 108 = .ok (.lload 9, 2) := by decide +kernel
theorem dX8_soon_110 : decode cX8_soon 110 = .ok (.lload 9, 2) := by decide +kernel
theorem dX8_soon_112 : decode cX8_soon 112 = .ok (.lmul, 1) := by decide +kernel
theorem dX8_soon_113 : decode cX8_soon 113 = .ok (.lstore 9, 2) := by decide +kernel
theorem dX8_soon_115 : decode cX8_soon 115 = .ok (.iload_n 3, 1) := by decide +kernel
theorem dX8_soon_116 : decode cX8_soon 116 = .ok (.ifCond .eq 10, 3) := by decide +kernel
theorem dX8_soon_119 : decode cX8_soon 119 = .ok (.lload 5, 2) := by decide +kernel
theorem dX8_soon_121 : decode cX8_soon 121 = .ok (.lload 5, 2) := by decide +kernel
theorem dX8_soon_123 : decode cX8_soon 123 = .ok (.lmul, 1) := by decide +kernel
theorem dX8_soon_124 : decode cX8_soon 124 = .ok (.lstore 11, 2) := by decide +kernel
theorem dX8_soon_126 : decode cX8_soon 126 = .ok (.lload 9, 2) := by decide +kernel
theorem dX8_soon_128 : decode cX8_soon 128 = .ok (.lload 11, 2) := by decide +kernel
theorem dX8_soon_130 : decode cX8_soon 130 = .ok (.invokestatic 221, 3) := by decide +kernel
theorem dX8_soon_133 : decode cX8_soon 133 = .ok (.lstore 13, 2) := by decide +kernel
theorem dX8_soon_135 : decode cX8_soon 135 = .ok (.lload 13, 2) := by decide +kernel
theorem dX8_soon_137 : decode cX8_soon 137 = .ok (.lconst 0, 1) := by decide +kernel
theorem dX8_soon_138 : decode cX8_soon 138 = .ok (.lcmp, 1) := by decide +kernel
theorem dX8_soon_139 : decode cX8_soon 139 = .ok (.ifCond .gt 16, 3) := by decide +kernel
theorem dX8_soon_142 : decode cX8_soon 142 = .ok (.iload 4, 2) := by decide +kernel
theorem dX8_soon_144 : decode cX8_soon 144 = .ok (.ifCond .ne 8, 3) := by decide +kernel
theorem dX8_soon_147 : decode cX8_soon 147 = .ok (.lload 9, 2) := by decide +kernel
theorem dX8_soon_149 : decode cX8_soon 149 = .ok (.goto 5, 3) := by decide +kernel
theorem dX8_soon_152 : decode cX8_soon 152 = .ok (.lload 11, 2) := by decide +kernel
theorem dX8_soon_154 : decode cX8_soon 154 = .ok (.lreturn, 1) := by decide +kernel
theorem dX8_soon_155 : decode cX8_soon 155 = .ok (.iload 4, 2) := by decide +kernel
theorem dX8_soon_157 : decode cX8_soon 157 = .ok (.ifCond .ne 11, 3) := by decide +kernel
theorem dX8_soon_160 : decode cX8_soon 160 = .ok (.lload 9, 2) := by decide +kernel
theorem dX8_soon_162 : decode cX8_soon 162 = .ok (.lload 13, 2) := by decide +kernel
theorem dX8_soon_164 : decode cX8_soon 164 = .ok (.ldiv, 1) := by decide +kernel
theorem dX8_soon_165 : decode cX8_soon 165 = .ok (.goto 8, 3) := by decide +kernel
theorem dX8_soon_168 : decode cX8_soon 168 = .ok (.lload 11, 2) := by decide +kernel
theorem dX8_soon_170 : decode cX8_soon 170 = .ok (.lload 13, 2) := by decide +kernel
theorem dX8_soon_172 : decode cX8_soon 172 = .ok (.ldiv, 1) := by decide +kernel
theorem dX8_soon_173 : decode cX8_soon 173 = .ok (.lreturn, 1) := by decide +kernel
def wtX8_soon : List Cond := .code yX8_soon cX8_soon 15 (some .long) :: (([.constantLong RX8 215 (-1000000000000000002)]) ++ ((va_wsS RX8 61 yX8_within wtX8_within) ++ ((va_wsS RX8 217 yX8_power wtX8_power) ++ ((va_wsS RX8 221 yX8_greatestDivisor wtX8_greatestDivisor) ++ []))))
theorem imX8_soon_own : ∀ w ∈ ([.constantLong RX8 215 (-1000000000000000002)] : List Cond), w ∈ wtX8_soon := fun w h => List.mem_cons_of_mem _ (inl h)
theorem imX8_soon_c_X8_within : ∀ w ∈ (va_wsS RX8 61 yX8_within wtX8_within : List Cond), w ∈ wtX8_soon := fun w h => List.mem_cons_of_mem _ (inr (inl h))
theorem imX8_soon_c_X8_power : ∀ w ∈ (va_wsS RX8 217 yX8_power wtX8_power : List Cond), w ∈ wtX8_soon := fun w h => List.mem_cons_of_mem _ (inr (inr (inl h)))
theorem imX8_soon_c_X8_greatestDivisor : ∀ w ∈ (va_wsS RX8 221 yX8_greatestDivisor wtX8_greatestDivisor : List Cond), w ∈ wtX8_soon := fun w h => List.mem_cons_of_mem _ (inr (inr (inr (inl h))))
theorem gdX8_soon : ∀ w ∈ wtX8_soon, Gd w := gdc rfl (gda (gdl (by decide +kernel)) (gda (gda (gdl (by decide +kernel)) gdX8_within) (gda (gda (gdl (by decide +kernel)) gdX8_power) (gda (gda (gdl (by decide +kernel)) gdX8_greatestDivisor) gdn))))
theorem gcX8_soon_X8_within : GoodIn wtX8_soon (va_wsS RX8 61 yX8_within wtX8_within) := fun w h => ⟨imX8_soon_c_X8_within w h, (gda (gdl (by decide +kernel)) gdX8_within) w h⟩
theorem gcX8_soon_X8_power : GoodIn wtX8_soon (va_wsS RX8 217 yX8_power wtX8_power) := fun w h => ⟨imX8_soon_c_X8_power w h, (gda (gdl (by decide +kernel)) gdX8_power) w h⟩
theorem gcX8_soon_X8_greatestDivisor : GoodIn wtX8_soon (va_wsS RX8 221 yX8_greatestDivisor wtX8_greatestDivisor) := fun w h => ⟨imX8_soon_c_X8_greatestDivisor w h, (gda (gdl (by decide +kernel)) gdX8_greatestDivisor) w h⟩
def fX8_soon_126 (x4 : Int32) (x9 : Int64) (x11 : Int64) : Option (Int64) :=
  (fX8_greatestDivisor x9 x11).bind (fun r1001 =>
    if (0 : Int32) < (lg_cmp r1001 (0 : Int64)) then
      if x4 = (0 : Int32) then
        nzl r1001 (
          some (x9 / r1001))
      else
        nzl r1001 (
          some (x11 / r1001))
    else
      if x4 = (0 : Int32) then
        some x9
      else
        some x11)
def fX8_soon_115 (x3 : Int32) (x4 : Int32) (x5 : Int64) (x9 : Int64) (x11 : Int64) : Option (Int64) :=
  if x3 = (0 : Int32) then
    fX8_soon_126 x4 x9 x11
  else
    fX8_soon_126 x4 x9 (x5 * x5)
def fX8_soon_103 (x3 : Int32) (x4 : Int32) (x5 : Int64) (x9 : Int64) (x11 : Int64) : Option (Int64) :=
  if x3 = (2 : Int32) then
    fX8_soon_115 x3 x4 x5 (x9 * x9) x11
  else
    fX8_soon_115 x3 x4 x5 x9 x11
def fX8_soon_46 (x1 : Int32) (x2 : Int32) (x3 : Int32) (x4 : Int32) (s0 : Int32) (s1 : Int32) (s2 : Int32) : Option (Int64) :=
  (fX8_within s2 s1 s0).bind (fun r4001 =>
    if r4001 = (0 : Int32) then
      some (-1000000000000000002 : Int64)
    else
      (fX8_power (10 : Int32) x2).bind (fun r4003 =>
        (fX8_power ((10 : Int32) - x1) x2).bind (fun r4004 =>
          if x3 = (1 : Int32) then
            fX8_soon_103 x3 x4 r4003 ((r4003 * r4003) - (r4004 * r4004)) r4003
          else
            fX8_soon_103 x3 x4 r4003 (r4003 - r4004) r4003)))
def fX8_soon (x1 : Int32) (x2 : Int32) (x3 : Int32) (x4 : Int32) : Option (Int64) :=
  (fX8_within x1 (0 : Int32) (10 : Int32)).bind (fun r1 =>
    if r1 = (0 : Int32) then
      some (-1000000000000000002 : Int64)
    else
      (fX8_within x3 (0 : Int32) (2 : Int32)).bind (fun r3 =>
        if r3 = (0 : Int32) then
          some (-1000000000000000002 : Int64)
        else
          (fX8_within x4 (0 : Int32) (1 : Int32)).bind (fun r5 =>
            if r5 = (0 : Int32) then
              some (-1000000000000000002 : Int64)
            else
              if x3 = (0 : Int32) then
                fX8_soon_46 x1 x2 x3 x4 (15 : Int32) (0 : Int32) x2
              else
                fX8_soon_46 x1 x2 x3 x4 (8 : Int32) (0 : Int32) x2)))
def wdX8_soon (cI cZ : ClassId) (d0 : Nat)   : va_W := []
abbrev rmX8_soon : Jvm.Room := { frames := 1, cells := 0, slots := 0, locals := 30 }
theorem hyX8_soon : yX8_soon.cls ≠ "java/lang/invoke/MethodHandle" ∧ yX8_soon.cls ≠ "java/lang/invoke/VarHandle" ∧ (parseMethodDescriptor yX8_soon.desc).map (fun d => d.parameters.length) = some 4 := by decide +kernel
set_option maxHeartbeats 4000000 in
set_option maxRecDepth 100000 in
theorem mX8_soon (l : Launch) (D : va_G) (cI cZ : ClassId) (d0 : Nat) (x1 : Int32) (x2 : Int32) (x3 : Int32) (x4 : Int32) (z : Int64) (hF : fX8_soon x1 x2 x3 x4 = some z) : mp l yX8_soon wtX8_soon rmX8_soon D cI cZ [.ref d0, .int x1, .int x2, .int x3, .int x4] (wdX8_soon cI cZ d0) (some (.long z)) (wdX8_soon cI cZ d0) := by
  refine mp_l (lv0 := [(0, .ref d0), (1, .int x1), (2, .int x2), (3, .int x3), (4, .int x4)]) cX8_soon 15 z (by decide) rfl (Nat.le_of_ble_eq_true rfl) rfl (fun E h hend0 => ?_)
  have hend : ∀ (z' : Int64), some z' = some z → ∀ (pc : Nat) (lv : List (Nat × Value)), decode cX8_soon pc = .ok (.lreturn, 1) → G l D E 15 0 0 (wdX8_soon cI cZ d0) pc lv [.long z'] := fun z' e => by cases e; exact hend0
  clear hend0
  have hL126 : ∀ (x9 : Int64) (x11 : Int64), fX8_soon_126 x4 x9 x11 = some z → G l D E 15 0 0 (wdX8_soon cI cZ d0) 126 [(0, .ref d0), (4, .int x4), (9, .long x9), (11, .long x11)] [] := by
    intro x9 x11 hF
    rw [fX8_soon_126] at hF
    refine g_lload (np := 128) h 2 rfl dX8_soon_126 rfl ?_
    refine g_lload (np := 130) h 3 rfl dX8_soon_128 rfl ?_
    obtain ⟨r1001, hr1001, hF⟩ := Option.bind_eq_some_iff.mp hF
    refine g_callS (np := 133) (Wd' := (wdX8_soon cI cZ d0)) (As := [.long x9, .long x11]) h (mX8_greatestDivisor l D cI cZ x9 x11 r1001 hr1001) gcX8_soon_X8_greatestDivisor rfl ⟨rfl, rfl⟩ hyX8_greatestDivisor rfl rfl rfl rfl ⟨Nat.zero_le _, Nat.zero_le _⟩ [] [] (N := 0) (by decide +kernel) rfl rfl rfl rfl rfl dX8_soon_130 rfl ?_
    refine g_lstore (np := 135) (lv' := [(13, .long r1001), (0, .ref d0), (4, .int x4), (9, .long x9), (11, .long x11)]) h (by decide) rfl dX8_soon_133 rfl ?_
    refine g_lload (np := 137) h 0 rfl dX8_soon_135 rfl ?_
    refine g_lconst (np := 138) (v := (0 : Int64)) h (by decide) dX8_soon_137 rfl ?_
    refine g_lcmp (np := 139) h dX8_soon_138 rfl ?_
    refine g_if_gt h hF dX8_soon_139 (np := 142) rfl (tg := 155) rfl (fun c1002 hF => ?_) (fun c1002 hF => ?_)
    · refine g_iload (np := 157) h 2 rfl dX8_soon_155 rfl ?_
      refine g_if_ne h hF dX8_soon_157 (np := 160) rfl (tg := 168) rfl (fun c1003 hF => ?_) (fun c1003 hF => ?_)
      · refine g_lload (np := 170) h 4 rfl dX8_soon_168 rfl ?_
        refine g_lload (np := 172) h 0 rfl dX8_soon_170 rfl ?_
        obtain ⟨hz1004, hF⟩ := nzl_e hF
        refine g_ldiv (np := 173) h hz1004 dX8_soon_172 rfl ?_
        exact hend _ hF _ _ dX8_soon_173
      · refine g_lload (np := 162) h 3 rfl dX8_soon_160 rfl ?_
        refine g_lload (np := 164) h 0 rfl dX8_soon_162 rfl ?_
        obtain ⟨hz1005, hF⟩ := nzl_e hF
        refine g_ldiv (np := 165) h hz1005 dX8_soon_164 rfl ?_
        refine g_goto h dX8_soon_165 (np := 173) rfl ?_
        exact hend _ hF _ _ dX8_soon_173
    · refine g_iload (np := 144) h 2 rfl dX8_soon_142 rfl ?_
      refine g_if_ne h hF dX8_soon_144 (np := 147) rfl (tg := 152) rfl (fun c1006 hF => ?_) (fun c1006 hF => ?_)
      · refine g_lload (np := 154) h 4 rfl dX8_soon_152 rfl ?_
        exact hend _ hF _ _ dX8_soon_154
      · refine g_lload (np := 149) h 3 rfl dX8_soon_147 rfl ?_
        refine g_goto h dX8_soon_149 (np := 154) rfl ?_
        exact hend _ hF _ _ dX8_soon_154
  have hL115 : ∀ (x5 : Int64) (x9 : Int64) (x11 : Int64), fX8_soon_115 x3 x4 x5 x9 x11 = some z → G l D E 15 0 0 (wdX8_soon cI cZ d0) 115 [(0, .ref d0), (3, .int x3), (4, .int x4), (5, .long x5), (9, .long x9), (11, .long x11)] [] := by
    intro x5 x9 x11 hF
    rw [fX8_soon_115] at hF
    refine g_iload_n (np := 116) h 1 rfl rfl dX8_soon_115 rfl ?_
    refine g_if_eq h hF dX8_soon_116 (np := 119) rfl (tg := 126) rfl (fun c2001 hF => ?_) (fun c2001 hF => ?_)
    · refine g_lv [0, 2, 4, 5] rfl ?_
      exact hL126 x9 x11 hF
    · refine g_lload (np := 121) h 3 rfl dX8_soon_119 rfl ?_
      refine g_lload (np := 123) h 3 rfl dX8_soon_121 rfl ?_
      refine g_lmul (np := 124) h dX8_soon_123 rfl ?_
      refine g_lstore (np := 126) (lv' := [(11, .long (x5 * x5)), (0, .ref d0), (3, .int x3), (4, .int x4), (5, .long x5), (9, .long x9)]) h (by decide) rfl dX8_soon_124 rfl ?_
      refine g_lv [1, 3, 5, 0] rfl ?_
      exact hL126 x9 (x5 * x5) hF
  have hL103 : ∀ (x5 : Int64) (x9 : Int64) (x11 : Int64), fX8_soon_103 x3 x4 x5 x9 x11 = some z → G l D E 15 0 0 (wdX8_soon cI cZ d0) 103 [(0, .ref d0), (3, .int x3), (4, .int x4), (5, .long x5), (9, .long x9), (11, .long x11)] [] := by
    intro x5 x9 x11 hF
    rw [fX8_soon_103] at hF
    refine g_iload_n (np := 104) h 1 rfl rfl dX8_soon_103 rfl ?_
    refine g_iconst (np := 105) (v := (2 : Int32)) h (by decide) dX8_soon_104 rfl ?_
    refine g_icmp_ne h hF dX8_soon_105 (np := 108) rfl (tg := 115) rfl (fun c3001 hF => ?_) (fun c3001 hF => ?_)
    · exact hL115 x5 x9 x11 hF
    · refine g_lload (np := 110) h 4 rfl dX8_soon_108 rfl ?_
      refine g_lload (np := 112) h 4 rfl dX8_soon_110 rfl ?_
      refine g_lmul (np := 113) h dX8_soon_112 rfl ?_
      refine g_lstore (np := 115) (lv' := [(9, .long (x9 * x9)), (0, .ref d0), (3, .int x3), (4, .int x4), (5, .long x5), (11, .long x11)]) h (by decide) rfl dX8_soon_113 rfl ?_
      refine g_lv [1, 2, 3, 4, 0, 5] rfl ?_
      exact hL115 x5 (x9 * x9) x11 hF
  have hL46 : ∀ (s0 : Int32) (s1 : Int32) (s2 : Int32), fX8_soon_46 x1 x2 x3 x4 s0 s1 s2 = some z → G l D E 15 0 0 (wdX8_soon cI cZ d0) 46 [(0, .ref d0), (1, .int x1), (2, .int x2), (3, .int x3), (4, .int x4)] [.int s0, .int s1, .int s2] := by
    intro s0 s1 s2 hF
    rw [fX8_soon_46] at hF
    obtain ⟨r4001, hr4001, hF⟩ := Option.bind_eq_some_iff.mp hF
    refine g_callS (np := 49) (Wd' := (wdX8_soon cI cZ d0)) (As := [.int s2, .int s1, .int s0]) h (mX8_within l D cI cZ s2 s1 s0 r4001 hr4001) gcX8_soon_X8_within rfl ⟨rfl, rfl⟩ hyX8_within rfl rfl rfl rfl ⟨Nat.zero_le _, Nat.zero_le _⟩ [] [] (N := 0) (by decide +kernel) rfl rfl rfl rfl rfl dX8_soon_46 rfl ?_
    refine g_if_ne h hF dX8_soon_49 (np := 52) rfl (tg := 56) rfl (fun c4002 hF => ?_) (fun c4002 hF => ?_)
    · refine g_bipush (np := 58) (v := (10 : Int32)) h (by decide) dX8_soon_56 rfl ?_
      refine g_iload_n (np := 59) h 2 rfl rfl dX8_soon_58 rfl ?_
      obtain ⟨r4003, hr4003, hF⟩ := Option.bind_eq_some_iff.mp hF
      refine g_callS (np := 62) (Wd' := (wdX8_soon cI cZ d0)) (As := [.int (10 : Int32), .int x2]) h (mX8_power l D cI cZ (10 : Int32) x2 r4003 hr4003) gcX8_soon_X8_power rfl ⟨rfl, rfl⟩ hyX8_power rfl rfl rfl rfl ⟨Nat.zero_le _, Nat.zero_le _⟩ [] [] (N := 0) (by decide +kernel) rfl rfl rfl rfl rfl dX8_soon_59 rfl ?_
      refine g_lstore (np := 64) (lv' := [(5, .long r4003), (0, .ref d0), (1, .int x1), (2, .int x2), (3, .int x3), (4, .int x4)]) h (by decide) rfl dX8_soon_62 rfl ?_
      refine g_bipush (np := 66) (v := (10 : Int32)) h (by decide) dX8_soon_64 rfl ?_
      refine g_iload_n (np := 67) h 2 rfl rfl dX8_soon_66 rfl ?_
      refine g_isub (np := 68) h dX8_soon_67 rfl ?_
      refine g_iload_n (np := 69) h 3 rfl rfl dX8_soon_68 rfl ?_
      obtain ⟨r4004, hr4004, hF⟩ := Option.bind_eq_some_iff.mp hF
      refine g_callS (np := 72) (Wd' := (wdX8_soon cI cZ d0)) (As := [.int ((10 : Int32) - x1), .int x2]) h (mX8_power l D cI cZ ((10 : Int32) - x1) x2 r4004 hr4004) gcX8_soon_X8_power rfl ⟨rfl, rfl⟩ hyX8_power rfl rfl rfl rfl ⟨Nat.zero_le _, Nat.zero_le _⟩ [] [] (N := 0) (by decide +kernel) rfl rfl rfl rfl rfl dX8_soon_69 rfl ?_
      refine g_lstore (np := 74) (lv' := [(7, .long r4004), (5, .long r4003), (0, .ref d0), (1, .int x1), (2, .int x2), (3, .int x3), (4, .int x4)]) h (by decide) rfl dX8_soon_72 rfl ?_
      refine g_lload (np := 76) h 1 rfl dX8_soon_74 rfl ?_
      refine g_lload (np := 78) h 0 rfl dX8_soon_76 rfl ?_
      refine g_lsub (np := 79) h dX8_soon_78 rfl ?_
      refine g_lstore (np := 81) (lv' := [(9, .long (r4003 - r4004)), (7, .long r4004), (5, .long r4003), (0, .ref d0), (1, .int x1), (2, .int x2), (3, .int x3), (4, .int x4)]) h (by decide) rfl dX8_soon_79 rfl ?_
      refine g_lload (np := 83) h 2 rfl dX8_soon_81 rfl ?_
      refine g_lstore (np := 85) (lv' := [(11, .long r4003), (9, .long (r4003 - r4004)), (7, .long r4004), (5, .long r4003), (0, .ref d0), (1, .int x1), (2, .int x2), (3, .int x3), (4, .int x4)]) h (by decide) rfl dX8_soon_83 rfl ?_
      refine g_iload_n (np := 86) h 7 rfl rfl dX8_soon_85 rfl ?_
      refine g_iconst (np := 87) (v := (1 : Int32)) h (by decide) dX8_soon_86 rfl ?_
      refine g_icmp_ne h hF dX8_soon_87 (np := 90) rfl (tg := 103) rfl (fun c4005 hF => ?_) (fun c4005 hF => ?_)
      · refine g_lv [4, 7, 8, 3, 1, 0] rfl ?_
        exact hL103 r4003 (r4003 - r4004) r4003 hF
      · refine g_lload (np := 92) h 3 rfl dX8_soon_90 rfl ?_
        refine g_lload (np := 94) h 3 rfl dX8_soon_92 rfl ?_
        refine g_lmul (np := 95) h dX8_soon_94 rfl ?_
        refine g_lload (np := 97) h 2 rfl dX8_soon_95 rfl ?_
        refine g_lload (np := 99) h 2 rfl dX8_soon_97 rfl ?_
        refine g_lmul (np := 100) h dX8_soon_99 rfl ?_
        refine g_lsub (np := 101) h dX8_soon_100 rfl ?_
        refine g_lstore (np := 103) (lv' := [(9, .long ((r4003 * r4003) - (r4004 * r4004))), (11, .long r4003), (7, .long r4004), (5, .long r4003), (0, .ref d0), (1, .int x1), (2, .int x2), (3, .int x3), (4, .int x4)]) h (by decide) rfl dX8_soon_101 rfl ?_
        refine g_lv [4, 7, 8, 3, 0, 1] rfl ?_
        exact hL103 r4003 ((r4003 * r4003) - (r4004 * r4004)) r4003 hF
    · refine g_ldc2 (np := 55) (v := (-1000000000000000002 : Int64)) h (imX8_soon_own _ (List.mem_of_getElem? (i := 0) rfl)) dX8_soon_52 rfl ?_
      exact hend _ hF _ _ dX8_soon_55
  unfold fX8_soon at hF
  refine g_iload_n (np := 1) h 1 rfl rfl dX8_soon_0 rfl ?_
  refine g_iconst (np := 2) (v := (0 : Int32)) h (by decide) dX8_soon_1 rfl ?_
  refine g_bipush (np := 4) (v := (10 : Int32)) h (by decide) dX8_soon_2 rfl ?_
  obtain ⟨r1, hr1, hF⟩ := Option.bind_eq_some_iff.mp hF
  refine g_callS (np := 7) (Wd' := (wdX8_soon cI cZ d0)) (As := [.int x1, .int (0 : Int32), .int (10 : Int32)]) h (mX8_within l D cI cZ x1 (0 : Int32) (10 : Int32) r1 hr1) gcX8_soon_X8_within rfl ⟨rfl, rfl⟩ hyX8_within rfl rfl rfl rfl ⟨Nat.zero_le _, Nat.zero_le _⟩ [] [] (N := 0) (by decide +kernel) rfl rfl rfl rfl rfl dX8_soon_4 rfl ?_
  refine g_if_eq h hF dX8_soon_7 (np := 10) rfl (tg := 29) rfl (fun c2 hF => ?_) (fun c2 hF => ?_)
  · refine g_ldc2 (np := 32) (v := (-1000000000000000002 : Int64)) h (imX8_soon_own _ (List.mem_of_getElem? (i := 0) rfl)) dX8_soon_29 rfl ?_
    exact hend _ hF _ _ dX8_soon_32
  · refine g_iload_n (np := 11) h 3 rfl rfl dX8_soon_10 rfl ?_
    refine g_iconst (np := 12) (v := (0 : Int32)) h (by decide) dX8_soon_11 rfl ?_
    refine g_iconst (np := 13) (v := (2 : Int32)) h (by decide) dX8_soon_12 rfl ?_
    obtain ⟨r3, hr3, hF⟩ := Option.bind_eq_some_iff.mp hF
    refine g_callS (np := 16) (Wd' := (wdX8_soon cI cZ d0)) (As := [.int x3, .int (0 : Int32), .int (2 : Int32)]) h (mX8_within l D cI cZ x3 (0 : Int32) (2 : Int32) r3 hr3) gcX8_soon_X8_within rfl ⟨rfl, rfl⟩ hyX8_within rfl rfl rfl rfl ⟨Nat.zero_le _, Nat.zero_le _⟩ [] [] (N := 0) (by decide +kernel) rfl rfl rfl rfl rfl dX8_soon_13 rfl ?_
    refine g_if_eq h hF dX8_soon_16 (np := 19) rfl (tg := 29) rfl (fun c4 hF => ?_) (fun c4 hF => ?_)
    · refine g_ldc2 (np := 32) (v := (-1000000000000000002 : Int64)) h (imX8_soon_own _ (List.mem_of_getElem? (i := 0) rfl)) dX8_soon_29 rfl ?_
      exact hend _ hF _ _ dX8_soon_32
    · refine g_iload (np := 21) h 4 rfl dX8_soon_19 rfl ?_
      refine g_iconst (np := 22) (v := (0 : Int32)) h (by decide) dX8_soon_21 rfl ?_
      refine g_iconst (np := 23) (v := (1 : Int32)) h (by decide) dX8_soon_22 rfl ?_
      obtain ⟨r5, hr5, hF⟩ := Option.bind_eq_some_iff.mp hF
      refine g_callS (np := 26) (Wd' := (wdX8_soon cI cZ d0)) (As := [.int x4, .int (0 : Int32), .int (1 : Int32)]) h (mX8_within l D cI cZ x4 (0 : Int32) (1 : Int32) r5 hr5) gcX8_soon_X8_within rfl ⟨rfl, rfl⟩ hyX8_within rfl rfl rfl rfl ⟨Nat.zero_le _, Nat.zero_le _⟩ [] [] (N := 0) (by decide +kernel) rfl rfl rfl rfl rfl dX8_soon_23 rfl ?_
      refine g_if_ne h hF dX8_soon_26 (np := 29) rfl (tg := 33) rfl (fun c6 hF => ?_) (fun c6 hF => ?_)
      · refine g_iload_n (np := 34) h 2 rfl rfl dX8_soon_33 rfl ?_
        refine g_iconst (np := 35) (v := (0 : Int32)) h (by decide) dX8_soon_34 rfl ?_
        refine g_iload_n (np := 36) h 3 rfl rfl dX8_soon_35 rfl ?_
        refine g_if_ne h hF dX8_soon_36 (np := 39) rfl (tg := 44) rfl (fun c7 hF => ?_) (fun c7 hF => ?_)
        · refine g_bipush (np := 46) (v := (8 : Int32)) h (by decide) dX8_soon_44 rfl ?_
          exact hL46 (8 : Int32) (0 : Int32) x2 hF
        · refine g_bipush (np := 41) (v := (15 : Int32)) h (by decide) dX8_soon_39 rfl ?_
          refine g_goto h dX8_soon_41 (np := 46) rfl ?_
          exact hL46 (15 : Int32) (0 : Int32) x2 hF
      · refine g_ldc2 (np := 32) (v := (-1000000000000000002 : Int64)) h (imX8_soon_own _ (List.mem_of_getElem? (i := 0) rfl)) dX8_soon_29 rfl ?_
        exact hend _ hF _ _ dX8_soon_32
theorem dX8_told_0 : decode cX8_told 0 = .ok (.iload_n 1, 1) := by decide +kernel
theorem dX8_told_1 : decode cX8_told 1 = .ok (.ifCond .ne 11, 3) := by decide +kernel
theorem dX8_told_4 : decode cX8_told 4 = .ok (.aload_n 0, 1) := by decide +kernel
theorem dX8_told_5 : decode cX8_told 5 = .ok (.getfield 32, 3) := by decide +kernel
theorem dX8_told_8 : decode cX8_told 8 = .ok (.getfield 99, 3) := by decide +kernel
theorem dX8_told_11 : decode cX8_told 11 = .ok (.ireturn, 1) := by decide +kernel
theorem dX8_told_12 : decode cX8_told 12 = .ok (.iload_n 1, 1) := by decide +kernel
theorem dX8_told_13 : decode cX8_told 13 = .ok (.iconst 1, 1) := by decide +kernel
theorem dX8_told_14 : decode cX8_told 14 = .ok (.if_icmp .ne 11, 3) := by decide +kernel
theorem dX8_told_17 : decode cX8_told 17 = .ok (.aload_n 0, 1) := by decide +kernel
theorem dX8_told_18 : decode cX8_told 18 = .ok (.getfield 10, 3) := by decide +kernel
theorem dX8_told_21 : decode cX8_told 21 = .ok (.getfield 154, 3) := by decide +kernel
theorem dX8_told_24 : decode cX8_told 24 = .ok (.ireturn, 1) := by decide +kernel
theorem dX8_told_25 : decode cX8_told 25 = .ok (.iload_n 1, 1) := by decide +kernel
theorem dX8_told_26 : decode cX8_told 26 = .ok (.iconst 2, 1) := by decide +kernel
theorem dX8_told_27 : decode cX8_told 27 = .ok (.if_icmp .ne 14, 3) := by decide +kernel
theorem dX8_told_30 : decode cX8_told 30 = .ok (.aload_n 0, 1) := by decide +kernel
theorem dX8_told_31 : decode cX8_told 31 = .ok (.getfield 10, 3) := by decide +kernel
theorem dX8_told_34 : decode cX8_told 34 = .ok (.getfield 185, 3) := by decide +kernel
theorem dX8_told_37 : decode cX8_told 37 = .ok (.getfield 189, 3) := by decide +kernel
theorem dX8_told_40 : decode cX8_told 40 = .ok (.ireturn, 1) := by decide +kernel
theorem dX8_told_41 : decode cX8_told 41 = .ok (.iload_n 1, 1) := by decide +kernel
theorem dX8_told_42 : decode cX8_told 42 = .ok (.bipush 10, 2) := by decide +kernel
theorem dX8_told_44 : decode cX8_told 44 = .ok (.irem, 1) := by decide +kernel
theorem dX8_told_45 : decode cX8_told 45 = .ok (.istore_n 2, 1) := by decide +kernel
theorem dX8_told_46 : decode cX8_told 46 = .ok (.iload_n 1, 1) := by decide +kernel
theorem dX8_told_47 : decode cX8_told 47 = .ok (.bipush 10, 2) := by decide +kernel
theorem dX8_told_49 : decode cX8_told 49 = .ok (.bipush 109, 2) := by decide +kernel
theorem dX8_told_51 : decode cX8_told 51 = .ok (.invokestatic 61, 3) := by decide +kernel
theorem dX8_told_54 : decode cX8_told 54 = .ok (.ifCond .eq 27, 3) := by decide +kernel
theorem dX8_told_57 : decode cX8_told 57 = .ok (.iload_n 2, 1) := by decide +kernel
theorem dX8_told_58 : decode cX8_told 58 = .ok (.bipush 6, 2) := by decide +kernel
theorem dX8_told_60 : decode cX8_told 60 = .ok (.if_icmp .gt 21, 3) := by decide +kernel
theorem dX8_told_63 : decode cX8_told 63 = .ok (.aload_n 0, 1) := by decide +kernel
theorem dX8_told_64 : decode cX8_told 64 = .ok (.getfield 10, 3) := by decide +kernel
theorem dX8_told_67 : decode cX8_told 67 = .ok (.getfield 65, 3) := by decide +kernel
theorem dX8_told_70 : decode cX8_told 70 = .ok (.iload_n 1, 1) := by decide +kernel
theorem dX8_told_71 : decode cX8_told 71 = .ok (.bipush 10, 2) := by decide +kernel
theorem dX8_told_73 : decode cX8_told 73 = .ok (.idiv, 1) := by decide +kernel
theorem dX8_told_74 : decode cX8_told 74 = .ok (.iconst 1, 1) := by decide +kernel
theorem dX8_told_75 : decode cX8_told 75 = .ok (.isub, 1) := by decide +kernel
theorem dX8_told_76 : decode cX8_told 76 = .ok (.iload_n 2, 1) := by decide +kernel
theorem dX8_told_77 : decode cX8_told 77 = .ok (.invokevirtual 235, 3) := by decide +kernel
theorem dX8_told_80 : decode cX8_told 80 = .ok (.ireturn, 1) := by decide +kernel
theorem dX8_told_81 : decode cX8_told 81 = .ok (.iload_n 1, 1) := by decide +kernel
theorem dX8_told_82 : decode cX8_told 82 = .ok (.sipush 200, 3) := by decide +kernel
theorem dX8_told_85 : decode cX8_told 85 = .ok (.sipush 279, 3) := by decide +kernel
theorem dX8_told_88 : decode cX8_told 88 = .ok (.invokestatic 61, 3) := by decide +kernel
theorem dX8_told_91 : decode cX8_told 91 = .ok (.ifCond .eq 27, 3) := by decide +kernel
theorem dX8_told_94 : decode cX8_told 94 = .ok (.iload_n 2, 1) := by decide +kernel
theorem dX8_told_95 : decode cX8_told 95 = .ok (.iconst 2, 1) := by decide +kernel
theorem dX8_told_96 : decode cX8_told 96 = .ok (.if_icmp .gt 22, 3) := by decide +kernel
theorem dX8_told_99 : decode cX8_told 99 = .ok (.aload_n 0, 1) := by decide +kernel
theorem dX8_told_100 : decode cX8_told 100 = .ok (.getfield 10, 3) := by decide +kernel
theorem dX8_told_103 : decode cX8_told 103 = .ok (.getfield 137, 3) := by decide +kernel
theorem dX8_told_106 : decode cX8_told 106 = .ok (.iload_n 1, 1) := by decide +kernel
theorem dX8_told_107 : decode cX8_told 107 = .ok (.bipush 10, 2) := by decide +kernel
theorem dX8_told_109 : decode cX8_told 109 = .ok (.idiv, 1) := by decide +kernel
theorem dX8_told_110 : decode cX8_told 110 = .ok (.bipush 20, 2) := by decide +kernel
theorem dX8_told_112 : decode cX8_told 112 = .ok (.isub, 1) := by decide +kernel
theorem dX8_told_113 : decode cX8_told 113 = .ok (.iload_n 2, 1) := by decide +kernel
theorem dX8_told_114 : decode cX8_told 114 = .ok (.invokevirtual 141, 3) := by decide +kernel
theorem dX8_told_117 : decode cX8_told 117 = .ok (.ireturn, 1) := by decide +kernel
theorem dX8_told_118 : decode cX8_told 118 = .ok (.bipush (-2), 2) := by decide +kernel
theorem dX8_told_120 : decode cX8_told 120 = .ok (.ireturn, 1) := by decide +kernel
def wtX8_told : List Cond := .code yX8_told cX8_told 3 (some .int) :: (([.fieldLink RX8 32 "DriftKin" "pad" "LDriftKin$Pad;", .fieldLink RX8 99 "DriftKin$Pad" "count" "I", .fieldLink RX8 10 "DriftKin" "now" "LDriftKin$Shore;", .fieldLink RX8 154 "DriftKin$Shore" "year" "I", .fieldLink RX8 185 "DriftKin$Shore" "sights" "LDriftKin$Sights;", .fieldLink RX8 189 "DriftKin$Sights" "count" "I", .fieldLink RX8 65 "DriftKin$Shore" "pieces" "LDriftKin$Pieces;", .fieldLink RX8 137 "DriftKin$Shore" "houses" "LDriftKin$Houses;"]) ++ ((u_ws RX2 TX2 2) ++ ((u_ws RX5 TX5 4) ++ ((u_ws RX6 TX6 4) ++ ((u_ws RX8 TX8 9) ++ ((va_wsS RX8 61 yX8_within wtX8_within) ++ ((wsV RX8 235 RX3 yX3_detail wtX3_detail) ++ ((wsV RX8 141 RX0 yX0_detail wtX0_detail) ++ []))))))))
theorem imX8_told_own : ∀ w ∈ ([.fieldLink RX8 32 "DriftKin" "pad" "LDriftKin$Pad;", .fieldLink RX8 99 "DriftKin$Pad" "count" "I", .fieldLink RX8 10 "DriftKin" "now" "LDriftKin$Shore;", .fieldLink RX8 154 "DriftKin$Shore" "year" "I", .fieldLink RX8 185 "DriftKin$Shore" "sights" "LDriftKin$Sights;", .fieldLink RX8 189 "DriftKin$Sights" "count" "I", .fieldLink RX8 65 "DriftKin$Shore" "pieces" "LDriftKin$Pieces;", .fieldLink RX8 137 "DriftKin$Shore" "houses" "LDriftKin$Houses;"] : List Cond), w ∈ wtX8_told := fun w h => List.mem_cons_of_mem _ (inl h)
theorem imX8_told_u_X2 : ∀ w ∈ (u_ws RX2 TX2 2 : List Cond), w ∈ wtX8_told := fun w h => List.mem_cons_of_mem _ (inr (inl h))
theorem imX8_told_u_X5 : ∀ w ∈ (u_ws RX5 TX5 4 : List Cond), w ∈ wtX8_told := fun w h => List.mem_cons_of_mem _ (inr (inr (inl h)))
theorem imX8_told_u_X6 : ∀ w ∈ (u_ws RX6 TX6 4 : List Cond), w ∈ wtX8_told := fun w h => List.mem_cons_of_mem _ (inr (inr (inr (inl h))))
theorem imX8_told_u_X8 : ∀ w ∈ (u_ws RX8 TX8 9 : List Cond), w ∈ wtX8_told := fun w h => List.mem_cons_of_mem _ (inr (inr (inr (inr (inl h)))))
theorem imX8_told_c_X8_within : ∀ w ∈ (va_wsS RX8 61 yX8_within wtX8_within : List Cond), w ∈ wtX8_told := fun w h => List.mem_cons_of_mem _ (inr (inr (inr (inr (inr (inl h))))))
theorem imX8_told_c_X3_detail : ∀ w ∈ (wsV RX8 235 RX3 yX3_detail wtX3_detail : List Cond), w ∈ wtX8_told := fun w h => List.mem_cons_of_mem _ (inr (inr (inr (inr (inr (inr (inl h)))))))
theorem imX8_told_c_X0_detail : ∀ w ∈ (wsV RX8 141 RX0 yX0_detail wtX0_detail : List Cond), w ∈ wtX8_told := fun w h => List.mem_cons_of_mem _ (inr (inr (inr (inr (inr (inr (inr (inl h))))))))
theorem gdX8_told : ∀ w ∈ wtX8_told, Gd w := gdc rfl (gda (gdl (by decide +kernel)) (gda (gdu _ _ _) (gda (gdu _ _ _) (gda (gdu _ _ _) (gda (gdu _ _ _) (gda (gda (gdl (by decide +kernel)) gdX8_within) (gda (gda (gdl (by decide +kernel)) gdX3_detail) (gda (gda (gdl (by decide +kernel)) gdX0_detail) gdn))))))))
theorem gcX8_told_X8_within : GoodIn wtX8_told (va_wsS RX8 61 yX8_within wtX8_within) := fun w h => ⟨imX8_told_c_X8_within w h, (gda (gdl (by decide +kernel)) gdX8_within) w h⟩
theorem gcX8_told_X3_detail : GoodIn wtX8_told (wsV RX8 235 RX3 yX3_detail wtX3_detail) := fun w h => ⟨imX8_told_c_X3_detail w h, (gda (gdl (by decide +kernel)) gdX3_detail) w h⟩
theorem gcX8_told_X0_detail : GoodIn wtX8_told (wsV RX8 141 RX0 yX0_detail wtX0_detail) := fun w h => ⟨imX8_told_c_X0_detail w h, (gda (gdl (by decide +kernel)) gdX0_detail) w h⟩
def fX8_told_81 (v_piece : Nat → Int32) (v_partner : Nat → Int32) (v_children : Nat → Int32) (x1 : Int32) (x2 : Int32) : Option (Int32) :=
  (fX8_within x1 (200 : Int32) (279 : Int32)).bind (fun r1001 =>
    if r1001 = (0 : Int32) then
      some (-2 : Int32)
    else
      if (2 : Int32) < x2 then
        some (-2 : Int32)
      else
        (fX0_detail v_piece v_partner v_children ((x1 / (10 : Int32)) - (20 : Int32)) x2).bind (fun r1004 =>
          some r1004))
def fX8_told (v_year : Int32) (v_wreck : Nat → Int32) (v_wood : Nat → Int32) (v_length : Nat → Int32) (v_left : Nat → Int32) (v_right : Nat → Int32) (v_place : Nat → Int32) (v_rings : Nat → Int32) (v_piece : Nat → Int32) (v_partner : Nat → Int32) (v_children : Nat → Int32) (v_count : Int32) (v_count2 : Int32) (x1 : Int32) : Option (Int32) :=
  if x1 = (0 : Int32) then
    some v_count2
  else
    if x1 = (1 : Int32) then
      some v_year
    else
      if x1 = (2 : Int32) then
        some v_count
      else
        (fX8_within x1 (10 : Int32) (109 : Int32)).bind (fun r4 =>
          if r4 = (0 : Int32) then
            fX8_told_81 v_piece v_partner v_children x1 (jrem x1 (10 : Int32))
          else
            if (6 : Int32) < (jrem x1 (10 : Int32)) then
              fX8_told_81 v_piece v_partner v_children x1 (jrem x1 (10 : Int32))
            else
              (fX3_detail v_wreck v_wood v_length v_left v_right v_place v_rings ((x1 / (10 : Int32)) - (1 : Int32)) (jrem x1 (10 : Int32))).bind (fun r7 =>
                some r7))
def wdX8_told (cI cZ : ClassId) (q0 : Nat) (q1 : Nat) (q2 : Nat) (q3 : Nat) (q4 : Nat) (q5 : Nat) (q6 : Nat) (q7 : Nat) (q8 : Nat) (q9 : Nat) (q10 : Nat) (q11 : Nat) (q12 : Nat) (q13 : Nat) (q14 : Nat) (q15 : Nat) (d16 : Nat) (d17 : Nat) (d18 : Nat) (d19 : Nat) (d20 : Nat) (d21 : Nat) (d22 : Nat) (d23 : Nat) (d24 : Nat)  (v_year : Int32) (v_wreck : Nat → Int32) (v_wood : Nat → Int32) (v_length : Nat → Int32) (v_left : Nat → Int32) (v_right : Nat → Int32) (v_place : Nat → Int32) (v_rings : Nat → Int32) (v_piece : Nat → Int32) (v_partner : Nat → Int32) (v_children : Nat → Int32) (v_count : Int32) (v_count2 : Int32) (v_firstKept : Int32) (v_secondKept : Int32) : va_W := [(q0, .inr (8, [.ref q1, .ref d16, .ref d17, .int v_firstKept, .int v_secondKept, .ref q15, .ref d18, .ref d19, .ref d20])), (q1, .inr (5, [.ref q2, .ref q10, .ref q14, .int v_year])), (q2, .inr (3, [.ref q3, .ref q4, .ref q5, .ref q6, .ref q7, .ref q8, .ref q9])), (q3, .inl (cI, 10, .inl v_wreck)), (q4, .inl (cI, 10, .inl v_wood)), (q5, .inl (cI, 10, .inl v_length)), (q6, .inl (cI, 10, .inl v_left)), (q7, .inl (cI, 10, .inl v_right)), (q8, .inl (cI, 10, .inl v_place)), (q9, .inl (cI, 10, .inl v_rings)), (q10, .inr (0, [.ref q11, .ref q12, .ref q13])), (q11, .inl (cI, 8, .inl v_piece)), (q12, .inl (cI, 8, .inl v_partner)), (q13, .inl (cI, 8, .inl v_children)), (q14, .inr (6, [.ref d21, .ref d22, .ref d23, .int v_count])), (q15, .inr (2, [.ref d24, .int v_count2]))]
abbrev rmX8_told : Jvm.Room := { frames := 2, cells := 0, slots := 0, locals := 43 }
theorem hyX8_told : yX8_told.cls ≠ "java/lang/invoke/MethodHandle" ∧ yX8_told.cls ≠ "java/lang/invoke/VarHandle" ∧ (parseMethodDescriptor yX8_told.desc).map (fun d => d.parameters.length) = some 1 := by decide +kernel
set_option maxHeartbeats 4000000 in
set_option maxRecDepth 100000 in
theorem mX8_told (l : Launch) (D : va_G) (cI cZ : ClassId) (q0 : Nat) (q1 : Nat) (q2 : Nat) (q3 : Nat) (q4 : Nat) (q5 : Nat) (q6 : Nat) (q7 : Nat) (q8 : Nat) (q9 : Nat) (q10 : Nat) (q11 : Nat) (q12 : Nat) (q13 : Nat) (q14 : Nat) (q15 : Nat) (d16 : Nat) (d17 : Nat) (d18 : Nat) (d19 : Nat) (d20 : Nat) (d21 : Nat) (d22 : Nat) (d23 : Nat) (d24 : Nat) (v_year : Int32) (v_wreck : Nat → Int32) (v_wood : Nat → Int32) (v_length : Nat → Int32) (v_left : Nat → Int32) (v_right : Nat → Int32) (v_place : Nat → Int32) (v_rings : Nat → Int32) (v_piece : Nat → Int32) (v_partner : Nat → Int32) (v_children : Nat → Int32) (v_count : Int32) (v_count2 : Int32) (v_firstKept : Int32) (v_secondKept : Int32) (x1 : Int32) (z : Int32) (hF : fX8_told v_year v_wreck v_wood v_length v_left v_right v_place v_rings v_piece v_partner v_children v_count v_count2 x1 = some z) : mp l yX8_told wtX8_told rmX8_told D cI cZ [.ref q0, .int x1] (wdX8_told cI cZ q0 q1 q2 q3 q4 q5 q6 q7 q8 q9 q10 q11 q12 q13 q14 q15 d16 d17 d18 d19 d20 d21 d22 d23 d24 v_year v_wreck v_wood v_length v_left v_right v_place v_rings v_piece v_partner v_children v_count v_count2 v_firstKept v_secondKept) (some (.int z)) (wdX8_told cI cZ q0 q1 q2 q3 q4 q5 q6 q7 q8 q9 q10 q11 q12 q13 q14 q15 d16 d17 d18 d19 d20 d21 d22 d23 d24 v_year v_wreck v_wood v_length v_left v_right v_place v_rings v_piece v_partner v_children v_count v_count2 v_firstKept v_secondKept) := by
  refine mp_i (lv0 := [(0, .ref q0), (1, .int x1)]) cX8_told 3 z (by decide) rfl (Nat.le_of_ble_eq_true rfl) rfl (fun E h hend0 => ?_)
  have hend : ∀ (z' : Int32), some z' = some z → ∀ (pc : Nat) (lv : List (Nat × Value)), decode cX8_told pc = .ok (.ireturn, 1) → G l D E 3 0 0 (wdX8_told cI cZ q0 q1 q2 q3 q4 q5 q6 q7 q8 q9 q10 q11 q12 q13 q14 q15 d16 d17 d18 d19 d20 d21 d22 d23 d24 v_year v_wreck v_wood v_length v_left v_right v_place v_rings v_piece v_partner v_children v_count v_count2 v_firstKept v_secondKept) pc lv [.int z'] := fun z' e => by cases e; exact hend0
  clear hend0
  have hL81 : ∀ (x2 : Int32), fX8_told_81 v_piece v_partner v_children x1 x2 = some z → G l D E 3 0 0 (wdX8_told cI cZ q0 q1 q2 q3 q4 q5 q6 q7 q8 q9 q10 q11 q12 q13 q14 q15 d16 d17 d18 d19 d20 d21 d22 d23 d24 v_year v_wreck v_wood v_length v_left v_right v_place v_rings v_piece v_partner v_children v_count v_count2 v_firstKept v_secondKept) 81 [(0, .ref q0), (1, .int x1), (2, .int x2)] [] := by
    intro x2 hF
    rw [fX8_told_81] at hF
    refine g_iload_n (np := 82) h 1 rfl rfl dX8_told_81 rfl ?_
    refine g_sipush (np := 85) (v := (200 : Int32)) h (by decide) dX8_told_82 rfl ?_
    refine g_sipush (np := 88) (v := (279 : Int32)) h (by decide) dX8_told_85 rfl ?_
    obtain ⟨r1001, hr1001, hF⟩ := Option.bind_eq_some_iff.mp hF
    refine g_callS (np := 91) (Wd' := (wdX8_told cI cZ q0 q1 q2 q3 q4 q5 q6 q7 q8 q9 q10 q11 q12 q13 q14 q15 d16 d17 d18 d19 d20 d21 d22 d23 d24 v_year v_wreck v_wood v_length v_left v_right v_place v_rings v_piece v_partner v_children v_count v_count2 v_firstKept v_secondKept)) (As := [.int x1, .int (200 : Int32), .int (279 : Int32)]) h (mX8_within l D cI cZ x1 (200 : Int32) (279 : Int32) r1001 hr1001) gcX8_told_X8_within rfl ⟨rfl, rfl⟩ hyX8_within rfl rfl rfl rfl ⟨Nat.zero_le _, Nat.zero_le _⟩ [] [0, 1, 2, 3, 4, 5, 6, 7, 8, 9, 10, 11, 12, 13, 14, 15] (N := 16) (by decide +kernel) rfl rfl rfl rfl rfl dX8_told_88 rfl ?_
    refine g_if_eq h hF dX8_told_91 (np := 94) rfl (tg := 118) rfl (fun c1002 hF => ?_) (fun c1002 hF => ?_)
    · refine g_bipush (np := 120) (v := (-2 : Int32)) h (by decide) dX8_told_118 rfl ?_
      exact hend _ hF _ _ dX8_told_120
    · refine g_iload_n (np := 95) h 2 rfl rfl dX8_told_94 rfl ?_
      refine g_iconst (np := 96) (v := (2 : Int32)) h (by decide) dX8_told_95 rfl ?_
      refine g_icmp_gt h hF dX8_told_96 (np := 99) rfl (tg := 118) rfl (fun c1003 hF => ?_) (fun c1003 hF => ?_)
      · refine g_bipush (np := 120) (v := (-2 : Int32)) h (by decide) dX8_told_118 rfl ?_
        exact hend _ hF _ _ dX8_told_120
      · refine g_aload_n (np := 100) h 0 rfl rfl dX8_told_99 rfl ?_
        refine g_get (np := 103) (T := TX8) h imX8_told_u_X8 0 8 rfl rfl 0 (by decide) (imX8_told_own _ (List.mem_of_getElem? (i := 2) rfl)) rfl dX8_told_100 rfl ?_
        refine g_get (np := 106) (T := TX5) h imX8_told_u_X5 1 5 rfl rfl 1 (by decide) (imX8_told_own _ (List.mem_of_getElem? (i := 7) rfl)) rfl dX8_told_103 rfl ?_
        refine g_iload_n (np := 107) h 1 rfl rfl dX8_told_106 rfl ?_
        refine g_bipush (np := 109) (v := (10 : Int32)) h (by decide) dX8_told_107 rfl ?_
        refine g_idiv (np := 110) h (by decide) dX8_told_109 rfl ?_
        refine g_bipush (np := 112) (v := (20 : Int32)) h (by decide) dX8_told_110 rfl ?_
        refine g_isub (np := 113) h dX8_told_112 rfl ?_
        refine g_iload_n (np := 114) h 2 rfl rfl dX8_told_113 rfl ?_
        obtain ⟨r1004, hr1004, hF⟩ := Option.bind_eq_some_iff.mp hF
        refine g_callV (np := 117) (Wd' := (wdX8_told cI cZ q0 q1 q2 q3 q4 q5 q6 q7 q8 q9 q10 q11 q12 q13 q14 q15 d16 d17 d18 d19 d20 d21 d22 d23 d24 v_year v_wreck v_wood v_length v_left v_right v_place v_rings v_piece v_partner v_children v_count v_count2 v_firstKept v_secondKept)) (As := [.int ((x1 / (10 : Int32)) - (20 : Int32)), .int x2]) h (mX0_detail l D cI cZ q10 q11 q12 q13 v_piece v_partner v_children ((x1 / (10 : Int32)) - (20 : Int32)) x2 r1004 hr1004) gcX8_told_X0_detail rfl ⟨rfl, rfl⟩ ⟨rfl, hyX0_detail⟩ rfl 0 10 rfl rfl rfl rfl rfl rfl ⟨Nat.zero_le _, Nat.zero_le _⟩ [10, 11, 12, 13] [0, 1, 2, 3, 4, 5, 6, 7, 8, 9, 14, 15] (N := 16) (by decide +kernel) rfl rfl rfl rfl rfl dX8_told_114 rfl ?_
        exact hend _ hF _ _ dX8_told_117
  unfold fX8_told at hF
  refine g_iload_n (np := 1) h 1 rfl rfl dX8_told_0 rfl ?_
  refine g_if_ne h hF dX8_told_1 (np := 4) rfl (tg := 12) rfl (fun c1 hF => ?_) (fun c1 hF => ?_)
  · refine g_iload_n (np := 13) h 1 rfl rfl dX8_told_12 rfl ?_
    refine g_iconst (np := 14) (v := (1 : Int32)) h (by decide) dX8_told_13 rfl ?_
    refine g_icmp_ne h hF dX8_told_14 (np := 17) rfl (tg := 25) rfl (fun c2 hF => ?_) (fun c2 hF => ?_)
    · refine g_iload_n (np := 26) h 1 rfl rfl dX8_told_25 rfl ?_
      refine g_iconst (np := 27) (v := (2 : Int32)) h (by decide) dX8_told_26 rfl ?_
      refine g_icmp_ne h hF dX8_told_27 (np := 30) rfl (tg := 41) rfl (fun c3 hF => ?_) (fun c3 hF => ?_)
      · refine g_iload_n (np := 42) h 1 rfl rfl dX8_told_41 rfl ?_
        refine g_bipush (np := 44) (v := (10 : Int32)) h (by decide) dX8_told_42 rfl ?_
        refine g_irem (np := 45) h (by decide) dX8_told_44 rfl ?_
        refine g_istore_n (np := 46) (lv' := [(2, .int (jrem x1 (10 : Int32))), (0, .ref q0), (1, .int x1)]) h rfl (by decide) rfl dX8_told_45 rfl ?_
        refine g_iload_n (np := 47) h 2 rfl rfl dX8_told_46 rfl ?_
        refine g_bipush (np := 49) (v := (10 : Int32)) h (by decide) dX8_told_47 rfl ?_
        refine g_bipush (np := 51) (v := (109 : Int32)) h (by decide) dX8_told_49 rfl ?_
        obtain ⟨r4, hr4, hF⟩ := Option.bind_eq_some_iff.mp hF
        refine g_callS (np := 54) (Wd' := (wdX8_told cI cZ q0 q1 q2 q3 q4 q5 q6 q7 q8 q9 q10 q11 q12 q13 q14 q15 d16 d17 d18 d19 d20 d21 d22 d23 d24 v_year v_wreck v_wood v_length v_left v_right v_place v_rings v_piece v_partner v_children v_count v_count2 v_firstKept v_secondKept)) (As := [.int x1, .int (10 : Int32), .int (109 : Int32)]) h (mX8_within l D cI cZ x1 (10 : Int32) (109 : Int32) r4 hr4) gcX8_told_X8_within rfl ⟨rfl, rfl⟩ hyX8_within rfl rfl rfl rfl ⟨Nat.zero_le _, Nat.zero_le _⟩ [] [0, 1, 2, 3, 4, 5, 6, 7, 8, 9, 10, 11, 12, 13, 14, 15] (N := 16) (by decide +kernel) rfl rfl rfl rfl rfl dX8_told_51 rfl ?_
        refine g_if_eq h hF dX8_told_54 (np := 57) rfl (tg := 81) rfl (fun c5 hF => ?_) (fun c5 hF => ?_)
        · refine g_lv [1, 2, 0] rfl ?_
          exact hL81 (jrem x1 (10 : Int32)) hF
        · refine g_iload_n (np := 58) h 0 rfl rfl dX8_told_57 rfl ?_
          refine g_bipush (np := 60) (v := (6 : Int32)) h (by decide) dX8_told_58 rfl ?_
          refine g_icmp_gt h hF dX8_told_60 (np := 63) rfl (tg := 81) rfl (fun c6 hF => ?_) (fun c6 hF => ?_)
          · refine g_lv [1, 2, 0] rfl ?_
            exact hL81 (jrem x1 (10 : Int32)) hF
          · refine g_aload_n (np := 64) h 1 rfl rfl dX8_told_63 rfl ?_
            refine g_get (np := 67) (T := TX8) h imX8_told_u_X8 0 8 rfl rfl 0 (by decide) (imX8_told_own _ (List.mem_of_getElem? (i := 2) rfl)) rfl dX8_told_64 rfl ?_
            refine g_get (np := 70) (T := TX5) h imX8_told_u_X5 1 5 rfl rfl 0 (by decide) (imX8_told_own _ (List.mem_of_getElem? (i := 6) rfl)) rfl dX8_told_67 rfl ?_
            refine g_iload_n (np := 71) h 2 rfl rfl dX8_told_70 rfl ?_
            refine g_bipush (np := 73) (v := (10 : Int32)) h (by decide) dX8_told_71 rfl ?_
            refine g_idiv (np := 74) h (by decide) dX8_told_73 rfl ?_
            refine g_iconst (np := 75) (v := (1 : Int32)) h (by decide) dX8_told_74 rfl ?_
            refine g_isub (np := 76) h dX8_told_75 rfl ?_
            refine g_iload_n (np := 77) h 0 rfl rfl dX8_told_76 rfl ?_
            obtain ⟨r7, hr7, hF⟩ := Option.bind_eq_some_iff.mp hF
            refine g_callV (np := 80) (Wd' := (wdX8_told cI cZ q0 q1 q2 q3 q4 q5 q6 q7 q8 q9 q10 q11 q12 q13 q14 q15 d16 d17 d18 d19 d20 d21 d22 d23 d24 v_year v_wreck v_wood v_length v_left v_right v_place v_rings v_piece v_partner v_children v_count v_count2 v_firstKept v_secondKept)) (As := [.int ((x1 / (10 : Int32)) - (1 : Int32)), .int (jrem x1 (10 : Int32))]) h (mX3_detail l D cI cZ q2 q3 q4 q5 q6 q7 q8 q9 v_wreck v_wood v_length v_left v_right v_place v_rings ((x1 / (10 : Int32)) - (1 : Int32)) (jrem x1 (10 : Int32)) r7 hr7) gcX8_told_X3_detail rfl ⟨rfl, rfl⟩ ⟨rfl, hyX3_detail⟩ rfl 3 2 rfl rfl rfl rfl rfl rfl ⟨Nat.zero_le _, Nat.zero_le _⟩ [2, 3, 4, 5, 6, 7, 8, 9] [0, 1, 10, 11, 12, 13, 14, 15] (N := 16) (by decide +kernel) rfl rfl rfl rfl rfl dX8_told_77 rfl ?_
            exact hend _ hF _ _ dX8_told_80
      · refine g_aload_n (np := 31) h 0 rfl rfl dX8_told_30 rfl ?_
        refine g_get (np := 34) (T := TX8) h imX8_told_u_X8 0 8 rfl rfl 0 (by decide) (imX8_told_own _ (List.mem_of_getElem? (i := 2) rfl)) rfl dX8_told_31 rfl ?_
        refine g_get (np := 37) (T := TX5) h imX8_told_u_X5 1 5 rfl rfl 2 (by decide) (imX8_told_own _ (List.mem_of_getElem? (i := 4) rfl)) rfl dX8_told_34 rfl ?_
        refine g_get (np := 40) (T := TX6) h imX8_told_u_X6 14 6 rfl rfl 3 (by decide) (imX8_told_own _ (List.mem_of_getElem? (i := 5) rfl)) rfl dX8_told_37 rfl ?_
        exact hend _ hF _ _ dX8_told_40
    · refine g_aload_n (np := 18) h 0 rfl rfl dX8_told_17 rfl ?_
      refine g_get (np := 21) (T := TX8) h imX8_told_u_X8 0 8 rfl rfl 0 (by decide) (imX8_told_own _ (List.mem_of_getElem? (i := 2) rfl)) rfl dX8_told_18 rfl ?_
      refine g_get (np := 24) (T := TX5) h imX8_told_u_X5 1 5 rfl rfl 3 (by decide) (imX8_told_own _ (List.mem_of_getElem? (i := 3) rfl)) rfl dX8_told_21 rfl ?_
      exact hend _ hF _ _ dX8_told_24
  · refine g_aload_n (np := 5) h 0 rfl rfl dX8_told_4 rfl ?_
    refine g_get (np := 8) (T := TX8) h imX8_told_u_X8 0 8 rfl rfl 5 (by decide) (imX8_told_own _ (List.mem_of_getElem? (i := 0) rfl)) rfl dX8_told_5 rfl ?_
    refine g_get (np := 11) (T := TX2) h imX8_told_u_X2 15 2 rfl rfl 1 (by decide) (imX8_told_own _ (List.mem_of_getElem? (i := 1) rfl)) rfl dX8_told_8 rfl ?_
    exact hend _ hF _ _ dX8_told_11
