theorem dX4_joinedBy_0 : decode cX4_joinedBy 0 = .ok (.iconst 0, 1) := by decide +kernel
theorem dX4_joinedBy_1 : decode cX4_joinedBy 1 = .ok (.istore_n 2, 1) := by decide +kernel
theorem dX4_joinedBy_2 : decode cX4_joinedBy 2 = .ok (.iconst 0, 1) := by decide +kernel
theorem dX4_joinedBy_3 : decode cX4_joinedBy 3 = .ok (.istore_n 3, 1) := by decide +kernel
theorem dX4_joinedBy_4 : decode cX4_joinedBy 4 = .ok (.iload_n 3, 1) := by decide +kernel
theorem dX4_joinedBy_5 : decode cX4_joinedBy 5 = .ok (.bipush 10, 2) := by decide +kernel
theorem dX4_joinedBy_7 : decode cX4_joinedBy 7 = .ok (.if_icmp .ge 24, 3) := by decide +kernel
theorem dX4_joinedBy_10 : decode cX4_joinedBy 10 = .ok (.aload_n 0, 1) := by decide +kernel
theorem dX4_joinedBy_11 : decode cX4_joinedBy 11 = .ok (.iload_n 3, 1) := by decide +kernel
theorem dX4_joinedBy_12 : decode cX4_joinedBy 12 = .ok (.iload_n 1, 1) := by decide +kernel
theorem dX4_joinedBy_13 : decode cX4_joinedBy 13 = .ok (.invokevirtual 39, 3) := by decide +kernel
theorem dX4_joinedBy_16 : decode cX4_joinedBy 16 = .ok (.ifCond .eq 9, 3) := by decide +kernel
theorem dX4_joinedBy_19 : decode cX4_joinedBy 19 = .ok (.iload_n 2, 1) := by decide +kernel
theorem dX4_joinedBy_20 : decode cX4_joinedBy 20 = .ok (.iconst 1, 1) := by decide +kernel
theorem dX4_joinedBy_21 : decode cX4_joinedBy 21 = .ok (.iload_n 3, 1) := by decide +kernel
theorem dX4_joinedBy_22 : decode cX4_joinedBy 22 = .ok (.ishl, 1) := by decide +kernel
theorem dX4_joinedBy_23 : decode cX4_joinedBy 23 = .ok (.ior, 1) := by decide +kernel
theorem dX4_joinedBy_24 : decode cX4_joinedBy 24 = .ok (.istore_n 2, 1) := by decide +kernel
theorem dX4_joinedBy_25 : decode cX4_joinedBy 25 = .ok (.iinc 3 1, 3) := by decide +kernel
theorem dX4_joinedBy_28 : decode cX4_joinedBy 28 = .ok (.goto (-24), 3) := by decide +kernel
theorem dX4_joinedBy_31 : decode cX4_joinedBy 31 = .ok (.iload_n 2, 1) := by decide +kernel
theorem dX4_joinedBy_32 : decode cX4_joinedBy 32 = .ok (.ireturn, 1) := by decide +kernel
def wtX4_joinedBy : List Cond := .code yX4_joinedBy cX4_joinedBy 4 (some .int) :: (([]) ++ ((wsV RX4 39 RX3 yX3_joins wtX3_joins) ++ []))
theorem imX4_joinedBy_own : ∀ w ∈ ([] : List Cond), w ∈ wtX4_joinedBy := fun w h => List.mem_cons_of_mem _ (inl h)
theorem imX4_joinedBy_c_X3_joins : ∀ w ∈ (wsV RX4 39 RX3 yX3_joins wtX3_joins : List Cond), w ∈ wtX4_joinedBy := fun w h => List.mem_cons_of_mem _ (inr (inl h))
theorem gdX4_joinedBy : ∀ w ∈ wtX4_joinedBy, Gd w := gdc rfl (gda (gdl (by decide +kernel)) (gda (gda (gdl (by decide +kernel)) gdX3_joins) gdn))
theorem gcX4_joinedBy_X3_joins : GoodIn wtX4_joinedBy (wsV RX4 39 RX3 yX3_joins wtX3_joins) := fun w h => ⟨imX4_joinedBy_c_X3_joins w h, (gda (gdl (by decide +kernel)) gdX3_joins) w h⟩
def fX4_joinedBy_4 (v_wood : Nat → Int32) (v_left : Nat → Int32) (v_right : Nat → Int32) (x1 : Int32) : Nat → Int32 → Int32 → Option (Int32)
  | 0, _, _ => none
  | n + 1, x2, x3 =>
    if (10 : Int32) ≤ x3 then
      some x2
    else
      (fX3_joins v_wood v_left v_right x3 x1).bind (fun r1002 =>
        if r1002 = (0 : Int32) then
          fX4_joinedBy_4 v_wood v_left v_right x1 n x2 (x3 + (1 : Int32))
        else
          fX4_joinedBy_4 v_wood v_left v_right x1 n (x2 ||| (jshl (1 : Int32) x3)) (x3 + (1 : Int32)))
def fX4_joinedBy (v_wood : Nat → Int32) (v_left : Nat → Int32) (v_right : Nat → Int32) (x1 : Int32) : Option (Int32) :=
  fX4_joinedBy_4 v_wood v_left v_right x1 2000 (0 : Int32) (0 : Int32)
def wdX4_joinedBy (cI cZ : ClassId) (q0 : Nat) (q1 : Nat) (q2 : Nat) (q3 : Nat) (d4 : Nat) (d5 : Nat) (d6 : Nat) (d7 : Nat)  (v_wood : Nat → Int32) (v_left : Nat → Int32) (v_right : Nat → Int32) : va_W := [(q0, .inr (3, [.ref d4, .ref q1, .ref d5, .ref q2, .ref q3, .ref d6, .ref d7])), (q1, .inl (cI, 10, .inl v_wood)), (q2, .inl (cI, 10, .inl v_left)), (q3, .inl (cI, 10, .inl v_right))]
abbrev rmX4_joinedBy : Jvm.Room := { frames := 2, cells := 0, slots := 0, locals := 43 }
theorem hyX4_joinedBy : yX4_joinedBy.cls ≠ "java/lang/invoke/MethodHandle" ∧ yX4_joinedBy.cls ≠ "java/lang/invoke/VarHandle" ∧ (parseMethodDescriptor yX4_joinedBy.desc).map (fun d => d.parameters.length) = some 2 := by decide +kernel
set_option maxHeartbeats 4000000 in
set_option maxRecDepth 100000 in
theorem mX4_joinedBy (l : Launch) (D : va_G) (cI cZ : ClassId) (q0 : Nat) (q1 : Nat) (q2 : Nat) (q3 : Nat) (d4 : Nat) (d5 : Nat) (d6 : Nat) (d7 : Nat) (v_wood : Nat → Int32) (v_left : Nat → Int32) (v_right : Nat → Int32) (x1 : Int32) (z : Int32) (hF : fX4_joinedBy v_wood v_left v_right x1 = some z) : mp l yX4_joinedBy wtX4_joinedBy rmX4_joinedBy D cI cZ [.ref q0, .int x1] (wdX4_joinedBy cI cZ q0 q1 q2 q3 d4 d5 d6 d7 v_wood v_left v_right) (some (.int z)) (wdX4_joinedBy cI cZ q0 q1 q2 q3 d4 d5 d6 d7 v_wood v_left v_right) := by
  refine mp_i (lv0 := [(0, .ref q0), (1, .int x1)]) cX4_joinedBy 4 z (by decide) rfl (Nat.le_of_ble_eq_true rfl) rfl (fun E h hend0 => ?_)
  have hend : ∀ (z' : Int32), some z' = some z → ∀ (pc : Nat) (lv : List (Nat × Value)), decode cX4_joinedBy pc = .ok (.ireturn, 1) → G l D E 4 0 0 (wdX4_joinedBy cI cZ q0 q1 q2 q3 d4 d5 d6 d7 v_wood v_left v_right) pc lv [.int z'] := fun z' e => by cases e; exact hend0
  clear hend0
  have hL4 : ∀ (n4 : Nat) (x2 : Int32) (x3 : Int32), fX4_joinedBy_4 v_wood v_left v_right x1 n4 x2 x3 = some z → G l D E 4 0 0 (wdX4_joinedBy cI cZ q0 q1 q2 q3 d4 d5 d6 d7 v_wood v_left v_right) 4 [(0, .ref q0), (1, .int x1), (2, .int x2), (3, .int x3)] [] := by
    intro n4
    induction n4 with
    | zero =>
      intro x2 x3 hF
      rw [fX4_joinedBy_4] at hF
      cases hF
    | succ n4 ih4 =>
      intro x2 x3 hF
      rw [fX4_joinedBy_4] at hF
      refine g_iload_n (np := 5) h 3 rfl rfl dX4_joinedBy_4 rfl ?_
      refine g_bipush (np := 7) (v := (10 : Int32)) h (by decide) dX4_joinedBy_5 rfl ?_
      refine g_icmp_ge h hF dX4_joinedBy_7 (np := 10) rfl (tg := 31) rfl (fun c1001 hF => ?_) (fun c1001 hF => ?_)
      · refine g_iload_n (np := 32) h 2 rfl rfl dX4_joinedBy_31 rfl ?_
        exact hend _ hF _ _ dX4_joinedBy_32
      · refine g_aload_n (np := 11) h 0 rfl rfl dX4_joinedBy_10 rfl ?_
        refine g_iload_n (np := 12) h 3 rfl rfl dX4_joinedBy_11 rfl ?_
        refine g_iload_n (np := 13) h 1 rfl rfl dX4_joinedBy_12 rfl ?_
        obtain ⟨r1002, hr1002, hF⟩ := Option.bind_eq_some_iff.mp hF
        refine g_callV (np := 16) (Wd' := (wdX4_joinedBy cI cZ q0 q1 q2 q3 d4 d5 d6 d7 v_wood v_left v_right)) (As := [.int x3, .int x1]) h (mX3_joins l D cI cZ q0 q1 q2 q3 d4 d5 d6 d7 v_wood v_left v_right x3 x1 r1002 hr1002) gcX4_joinedBy_X3_joins rfl ⟨rfl, rfl⟩ ⟨rfl, hyX3_joins⟩ rfl 3 0 rfl rfl rfl rfl rfl rfl ⟨Nat.zero_le _, Nat.zero_le _⟩ [0, 1, 2, 3] [] (N := 4) (by decide +kernel) rfl rfl rfl rfl rfl dX4_joinedBy_13 rfl ?_
        refine g_if_eq h hF dX4_joinedBy_16 (np := 19) rfl (tg := 25) rfl (fun c1003 hF => ?_) (fun c1003 hF => ?_)
        · refine g_iinc (np := 28) (v := (x3 + (1 : Int32))) (lv' := [(3, .int (x3 + (1 : Int32))), (0, .ref q0), (1, .int x1), (2, .int x2)]) h 3 rfl rfl (by decide) rfl dX4_joinedBy_25 rfl ?_
          refine g_goto h dX4_joinedBy_28 (np := 4) rfl ?_
          refine g_lv [1, 2, 3, 0] rfl ?_
          exact ih4 x2 (x3 + (1 : Int32)) hF
        · refine g_iload_n (np := 20) h 2 rfl rfl dX4_joinedBy_19 rfl ?_
          refine g_iconst (np := 21) (v := (1 : Int32)) h (by decide) dX4_joinedBy_20 rfl ?_
          refine g_iload_n (np := 22) h 3 rfl rfl dX4_joinedBy_21 rfl ?_
          refine g_ishl (np := 23) h dX4_joinedBy_22 rfl ?_
          refine g_ior (np := 24) h dX4_joinedBy_23 rfl ?_
          refine g_istore_n (np := 25) (lv' := [(2, .int (x2 ||| (jshl (1 : Int32) x3))), (0, .ref q0), (1, .int x1), (3, .int x3)]) h rfl (by decide) rfl dX4_joinedBy_24 rfl ?_
          refine g_iinc (np := 28) (v := (x3 + (1 : Int32))) (lv' := [(3, .int (x3 + (1 : Int32))), (2, .int (x2 ||| (jshl (1 : Int32) x3))), (0, .ref q0), (1, .int x1)]) h 3 rfl rfl (by decide) rfl dX4_joinedBy_25 rfl ?_
          refine g_goto h dX4_joinedBy_28 (np := 4) rfl ?_
          refine g_lv [2, 3, 1, 0] rfl ?_
          exact ih4 (x2 ||| (jshl (1 : Int32) x3)) (x3 + (1 : Int32)) hF
  unfold fX4_joinedBy at hF
  refine g_iconst (np := 1) (v := (0 : Int32)) h (by decide) dX4_joinedBy_0 rfl ?_
  refine g_istore_n (np := 2) (lv' := [(2, .int (0 : Int32)), (0, .ref q0), (1, .int x1)]) h rfl (by decide) rfl dX4_joinedBy_1 rfl ?_
  refine g_iconst (np := 3) (v := (0 : Int32)) h (by decide) dX4_joinedBy_2 rfl ?_
  refine g_istore_n (np := 4) (lv' := [(3, .int (0 : Int32)), (2, .int (0 : Int32)), (0, .ref q0), (1, .int x1)]) h rfl (by decide) rfl dX4_joinedBy_3 rfl ?_
  refine g_lv [2, 3, 1, 0] rfl ?_
  exact hL4 _ (0 : Int32) (0 : Int32) hF
theorem dX4_layLast_0 : decode cX4_layLast 0 = .ok (.bipush 11, 2) := by decide +kernel
theorem dX4_layLast_2 : decode cX4_layLast 2 = .ok (.istore_n 2, 1) := by decide +kernel
theorem dX4_layLast_3 : decode cX4_layLast 3 = .ok (.iconst 0, 1) := by decide +kernel
theorem dX4_layLast_4 : decode cX4_layLast 4 = .ok (.istore_n 3, 1) := by decide +kernel
theorem dX4_layLast_5 : decode cX4_layLast 5 = .ok (.iconst 0, 1) := by decide +kernel
theorem dX4_layLast_6 : decode cX4_layLast 6 = .ok (.istore 4, 2) := by decide +kernel
theorem dX4_layLast_8 : decode cX4_layLast 8 = .ok (.iload 4, 2) := by decide +kernel
theorem dX4_layLast_10 : decode cX4_layLast 10 = .ok (.bipush 10, 2) := by decide +kernel
theorem dX4_layLast_12 : decode cX4_layLast 12 = .ok (.if_icmp .ge 104, 3) := by decide +kernel
theorem dX4_layLast_15 : decode cX4_layLast 15 = .ok (.iload_n 1, 1) := by decide +kernel
theorem dX4_layLast_16 : decode cX4_layLast 16 = .ok (.iload 4, 2) := by decide +kernel
theorem dX4_layLast_18 : decode cX4_layLast 18 = .ok (.invokestatic 43, 3) := by decide +kernel
theorem dX4_layLast_21 : decode cX4_layLast 21 = .ok (.ifCond .ne 6, 3) := by decide +kernel
theorem dX4_layLast_24 : decode cX4_layLast 24 = .ok (.goto 86, 3) := by decide +kernel
theorem dX4_layLast_27 : decode cX4_layLast 27 = .ok (.iload_n 1, 1) := by decide +kernel
theorem dX4_layLast_28 : decode cX4_layLast 28 = .ok (.iconst 1, 1) := by decide +kernel
theorem dX4_layLast_29 : decode cX4_layLast 29 = .ok (.iload 4, 2) := by decide +kernel
theorem dX4_layLast_31 : decode cX4_layLast 31 = .ok (.ishl, 1) := by decide +kernel
theorem dX4_layLast_32 : decode cX4_layLast 32 = .ok (.ixor, 1) := by decide +kernel
theorem dX4_layLast_33 : decode cX4_layLast 33 = .ok (.istore 5, 2) := by decide +kernel
theorem dX4_layLast_35 : decode cX4_layLast 35 = .ok (.aload_n 0, 1) := by decide +kernel
theorem dX4_layLast_36 : decode cX4_layLast 36 = .ok (.getfield 18, 3) := by decide +kernel
theorem dX4_layLast_39 : decode cX4_layLast 39 = .ok (.iload 5, 2) := by decide +kernel
theorem dX4_layLast_41 : decode cX4_layLast 41 = .ok (.invokestatic 46, 3) := by decide +kernel
theorem dX4_layLast_44 : decode cX4_layLast 44 = .ok (.aload_n 0, 1) := by decide +kernel
theorem dX4_layLast_45 : decode cX4_layLast 45 = .ok (.getfield 9, 3) := by decide +kernel
theorem dX4_layLast_48 : decode cX4_layLast 48 = .ok (.iload 4, 2) := by decide +kernel
theorem dX4_layLast_50 : decode cX4_layLast 50 = .ok (.invokestatic 46, 3) := by decide +kernel
theorem dX4_layLast_53 : decode cX4_layLast 53 = .ok (.iand, 1) := by decide +kernel
theorem dX4_layLast_54 : decode cX4_layLast 54 = .ok (.ifCond .eq 7, 3) := by decide +kernel
theorem dX4_layLast_57 : decode cX4_layLast 57 = .ok (.iconst 1, 1) := by decide +kernel
theorem dX4_layLast_58 : decode cX4_layLast 58 = .ok (.goto 4, 3) := by decide +kernel
theorem dX4_layLast_61 : decode cX4_layLast 61 = .ok (.iconst 0, 1) := by decide +kernel
theorem dX4_layLast_62 : decode cX4_layLast 62 = .ok (.istore 6, 2) := by decide +kernel
theorem dX4_layLast_64 : decode cX4_layLast 64 = .ok (.aload_n 0, 1) := by decide +kernel
theorem dX4_layLast_65 : decode cX4_layLast 65 = .ok (.getfield 15, 3) := by decide +kernel
theorem dX4_layLast_68 : decode cX4_layLast 68 = .ok (.iload 5, 2) := by decide +kernel
theorem dX4_layLast_70 : decode cX4_layLast 70 = .ok (.invokestatic 46, 3) := by decide +kernel
theorem dX4_layLast_73 : decode cX4_layLast 73 = .ok (.iload 6, 2) := by decide +kernel
theorem dX4_layLast_75 : decode cX4_layLast 75 = .ok (.ifCond .eq 7, 3) := by decide +kernel
theorem dX4_layLast_78 : decode cX4_layLast 78 = .ok (.iconst 0, 1) := by decide +kernel
theorem dX4_layLast_79 : decode cX4_layLast 79 = .ok (.goto 4, 3) := by decide +kernel
theorem dX4_layLast_82 : decode cX4_layLast 82 = .ok (.iconst 1, 1) := by decide +kernel
theorem dX4_layLast_83 : decode cX4_layLast 83 = .ok (.iadd, 1) := by decide +kernel
theorem dX4_layLast_84 : decode cX4_layLast 84 = .ok (.istore 7, 2) := by decide +kernel
theorem dX4_layLast_86 : decode cX4_layLast 86 = .ok (.iload 7, 2) := by decide +kernel
theorem dX4_layLast_88 : decode cX4_layLast 88 = .ok (.iload_n 2, 1) := by decide +kernel
theorem dX4_layLast_89 : decode cX4_layLast 89 = .ok (.if_icmp .ge 8, 3) := by decide +kernel
theorem dX4_layLast_92 : decode cX4_layLast 92 = .ok (.iload 7, 2) := by decide +kernel
theorem dX4_layLast_94 : decode cX4_layLast 94 = .ok (.istore_n 2, 1) := by decide +kernel
theorem dX4_layLast_95 : decode cX4_layLast 95 = .ok (.iconst 0, 1) := by decide +kernel
theorem dX4_layLast_96 : decode cX4_layLast 96 = .ok (.istore_n 3, 1) := by decide +kernel
theorem dX4_layLast_97 : decode cX4_layLast 97 = .ok (.iload 7, 2) := by decide +kernel
theorem dX4_layLast_99 : decode cX4_layLast 99 = .ok (.iload_n 2, 1) := by decide +kernel
theorem dX4_layLast_100 : decode cX4_layLast 100 = .ok (.if_icmp .ne 10, 3) := by decide +kernel
theorem dX4_layLast_103 : decode cX4_layLast 103 = .ok (.iload_n 3, 1) := by decide +kernel
theorem dX4_layLast_104 : decode cX4_layLast 104 = .ok (.iconst 1, 1) := by decide +kernel
theorem dX4_layLast_105 : decode cX4_layLast 105 = .ok (.iload 4, 2) := by decide +kernel
theorem dX4_layLast_107 : decode cX4_layLast 107 = .ok (.ishl, 1) := by decide +kernel
theorem dX4_layLast_108 : decode cX4_layLast 108 = .ok (.ior, 1) := by decide +kernel
theorem dX4_layLast_109 : decode cX4_layLast 109 = .ok (.istore_n 3, 1) := by decide +kernel
theorem dX4_layLast_110 : decode cX4_layLast 110 = .ok (.iinc 4 1, 3) := by decide +kernel
theorem dX4_layLast_113 : decode cX4_layLast 113 = .ok (.goto (-105), 3) := by decide +kernel
theorem dX4_layLast_116 : decode cX4_layLast 116 = .ok (.aload_n 0, 1) := by decide +kernel
theorem dX4_layLast_117 : decode cX4_layLast 117 = .ok (.getfield 15, 3) := by decide +kernel
theorem dX4_layLast_120 : decode cX4_layLast 120 = .ok (.iload_n 1, 1) := by decide +kernel
theorem dX4_layLast_121 : decode cX4_layLast 121 = .ok (.iload_n 2, 1) := by decide +kernel
theorem dX4_layLast_122 : decode cX4_layLast 122 = .ok (.invokestatic 50, 3) := by decide +kernel
theorem dX4_layLast_125 : decode cX4_layLast 125 = .ok (.aload_n 0, 1) := by decide +kernel
theorem dX4_layLast_126 : decode cX4_layLast 126 = .ok (.getfield 18, 3) := by decide +kernel
theorem dX4_layLast_129 : decode cX4_layLast 129 = .ok (.iload_n 1, 1) := by decide +kernel
theorem dX4_layLast_130 : decode cX4_layLast 130 = .ok (.iload_n 3, 1) := by decide +kernel
theorem dX4_layLast_131 : decode cX4_layLast 131 = .ok (.invokestatic 50, 3) := by decide +kernel
theorem dX4_layLast_134 : decode cX4_layLast 134 = .ok (.return_, 1) := by decide +kernel
def wtX4_layLast : List Cond := .code yX4_layLast cX4_layLast 8 none :: (([.static yX8_has, .initialized RX8, .fieldLink RX4 18 "DriftKin$Planks" "lasts" "[I", .static yX8_at, .fieldLink RX4 9 "DriftKin$Planks" "before" "[I", .fieldLink RX4 15 "DriftKin$Planks" "fewest" "[I", .static yX8_put]) ++ ((u_ws RX4 TX4 4) ++ ((wtX8_has) ++ ((wtX8_at) ++ ((wtX8_put) ++ [])))))
theorem imX4_layLast_own : ∀ w ∈ ([.static yX8_has, .initialized RX8, .fieldLink RX4 18 "DriftKin$Planks" "lasts" "[I", .static yX8_at, .fieldLink RX4 9 "DriftKin$Planks" "before" "[I", .fieldLink RX4 15 "DriftKin$Planks" "fewest" "[I", .static yX8_put] : List Cond), w ∈ wtX4_layLast := fun w h => List.mem_cons_of_mem _ (inl h)
theorem imX4_layLast_u_X4 : ∀ w ∈ (u_ws RX4 TX4 4 : List Cond), w ∈ wtX4_layLast := fun w h => List.mem_cons_of_mem _ (inr (inl h))
theorem imX4_layLast_c_X8_has : ∀ w ∈ (wtX8_has : List Cond), w ∈ wtX4_layLast := fun w h => List.mem_cons_of_mem _ (inr (inr (inl h)))
theorem imX4_layLast_c_X8_at : ∀ w ∈ (wtX8_at : List Cond), w ∈ wtX4_layLast := fun w h => List.mem_cons_of_mem _ (inr (inr (inr (inl h))))
theorem imX4_layLast_c_X8_put : ∀ w ∈ (wtX8_put : List Cond), w ∈ wtX4_layLast := fun w h => List.mem_cons_of_mem _ (inr (inr (inr (inr (inl h)))))
theorem gdX4_layLast : ∀ w ∈ wtX4_layLast, Gd w := gdc rfl (gda (gdl (by decide +kernel)) (gda (gdu _ _ _) (gda gdX8_has (gda gdX8_at (gda gdX8_put gdn)))))
theorem gcX4_layLast_X8_has : GoodIn wtX4_layLast (wtX8_has) := fun w h => ⟨imX4_layLast_c_X8_has w h, gdX8_has w h⟩
theorem gcX4_layLast_X8_at : GoodIn wtX4_layLast (wtX8_at) := fun w h => ⟨imX4_layLast_c_X8_at w h, gdX8_at w h⟩
theorem gcX4_layLast_X8_put : GoodIn wtX4_layLast (wtX8_put) := fun w h => ⟨imX4_layLast_c_X8_put w h, gdX8_put w h⟩
def fX4_layLast_97 (k8 : Int32 → Int32 → Int32 → Option ((Nat → Int32) × (Nat → Int32))) (v_before : Nat → Int32) (v_fewest : Nat → Int32) (v_lasts : Nat → Int32) (x1 : Int32) (x2 : Int32) (x3 : Int32) (x4 : Int32) (x7 : Int32) : Option ((Nat → Int32) × (Nat → Int32)) :=
  if x7 = x2 then
    k8 x2 (x3 ||| (jshl (1 : Int32) x4)) (x4 + (1 : Int32))
  else
    k8 x2 x3 (x4 + (1 : Int32))
def fX4_layLast_83 (k8 : Int32 → Int32 → Int32 → Option ((Nat → Int32) × (Nat → Int32))) (v_before : Nat → Int32) (v_fewest : Nat → Int32) (v_lasts : Nat → Int32) (x1 : Int32) (x2 : Int32) (x3 : Int32) (x4 : Int32) (s0 : Int32) (s1 : Int32) : Option ((Nat → Int32) × (Nat → Int32)) :=
  if x2 ≤ (s1 + s0) then
    fX4_layLast_97 k8 v_before v_fewest v_lasts x1 x2 x3 x4 (s1 + s0)
  else
    fX4_layLast_97 k8 v_before v_fewest v_lasts x1 (s1 + s0) (0 : Int32) x4 (s1 + s0)
def fX4_layLast_62 (k8 : Int32 → Int32 → Int32 → Option ((Nat → Int32) × (Nat → Int32))) (v_before : Nat → Int32) (v_fewest : Nat → Int32) (v_lasts : Nat → Int32) (x1 : Int32) (x2 : Int32) (x3 : Int32) (x4 : Int32) (x5 : Int32) (s0 : Int32) : Option ((Nat → Int32) × (Nat → Int32)) :=
  (fX8_at 1024 v_fewest x5).bind (fun r3001 =>
    if s0 = (0 : Int32) then
      fX4_layLast_83 k8 v_before v_fewest v_lasts x1 x2 x3 x4 (1 : Int32) r3001
    else
      fX4_layLast_83 k8 v_before v_fewest v_lasts x1 x2 x3 x4 (0 : Int32) r3001)
def fX4_layLast_8 (v_before : Nat → Int32) (v_fewest : Nat → Int32) (v_lasts : Nat → Int32) (x1 : Int32) : Nat → Int32 → Int32 → Int32 → Option ((Nat → Int32) × (Nat → Int32))
  | 0, _, _, _ => none
  | n + 1, x2, x3, x4 =>
    if (10 : Int32) ≤ x4 then
      (fX8_put 1024 v_fewest x1 x2).bind (fun r4002 =>
        (fX8_put 1024 v_lasts x1 x3).bind (fun r4003 =>
          some (r4002, r4003)))
    else
      (fX8_has x1 x4).bind (fun r4004 =>
        if r4004 = (0 : Int32) then
          fX4_layLast_8 v_before v_fewest v_lasts x1 n x2 x3 (x4 + (1 : Int32))
        else
          (fX8_at 1024 v_lasts (x1 ^^^ (jshl (1 : Int32) x4))).bind (fun r4006 =>
            (fX8_at 10 v_before x4).bind (fun r4007 =>
              if (r4006 &&& r4007) = (0 : Int32) then
                fX4_layLast_62 (fun y0 y1 y2 => fX4_layLast_8 v_before v_fewest v_lasts x1 n y0 y1 y2) v_before v_fewest v_lasts x1 x2 x3 x4 (x1 ^^^ (jshl (1 : Int32) x4)) (0 : Int32)
              else
                fX4_layLast_62 (fun y0 y1 y2 => fX4_layLast_8 v_before v_fewest v_lasts x1 n y0 y1 y2) v_before v_fewest v_lasts x1 x2 x3 x4 (x1 ^^^ (jshl (1 : Int32) x4)) (1 : Int32))))
def fX4_layLast (v_before : Nat → Int32) (v_fewest : Nat → Int32) (v_lasts : Nat → Int32) (x1 : Int32) : Option ((Nat → Int32) × (Nat → Int32)) :=
  fX4_layLast_8 v_before v_fewest v_lasts x1 2000 (11 : Int32) (0 : Int32) (0 : Int32)
def wdX4_layLast (cI cZ : ClassId) (q0 : Nat) (q1 : Nat) (q2 : Nat) (q3 : Nat)  (v_before : Nat → Int32) (v_fewest : Nat → Int32) (v_lasts : Nat → Int32) (v_usable : Int32) : va_W := [(q0, .inr (4, [.ref q1, .ref q2, .ref q3, .int v_usable])), (q1, .inl (cI, 10, .inl v_before)), (q2, .inl (cI, 1024, .inl v_fewest)), (q3, .inl (cI, 1024, .inl v_lasts))]
abbrev rmX4_layLast : Jvm.Room := { frames := 1, cells := 0, slots := 0, locals := 22 }
theorem hyX4_layLast : yX4_layLast.cls ≠ "java/lang/invoke/MethodHandle" ∧ yX4_layLast.cls ≠ "java/lang/invoke/VarHandle" ∧ (parseMethodDescriptor yX4_layLast.desc).map (fun d => d.parameters.length) = some 1 := by decide +kernel
set_option maxHeartbeats 4000000 in
set_option maxRecDepth 100000 in
theorem mX4_layLast (l : Launch) (D : va_G) (cI cZ : ClassId) (q0 : Nat) (q1 : Nat) (q2 : Nat) (q3 : Nat) (v_before : Nat → Int32) (v_fewest : Nat → Int32) (v_lasts : Nat → Int32) (v_usable : Int32) (x1 : Int32) (z : (Nat → Int32) × (Nat → Int32)) (hF : fX4_layLast v_before v_fewest v_lasts x1 = some z) : mp l yX4_layLast wtX4_layLast rmX4_layLast D cI cZ [.ref q0, .int x1] (wdX4_layLast cI cZ q0 q1 q2 q3 v_before v_fewest v_lasts v_usable) none (wdX4_layLast cI cZ q0 q1 q2 q3 v_before z.1 z.2 v_usable) := by
  refine mp_v (lv0 := [(0, .ref q0), (1, .int x1)]) cX4_layLast 8 (by decide) rfl (Nat.le_of_ble_eq_true rfl) rfl (fun E h hend0 => ?_)
  have hend : ∀ (z' : (Nat → Int32) × (Nat → Int32)), some z' = some z → ∀ (pc : Nat) (lv : List (Nat × Value)), decode cX4_layLast pc = .ok (.return_, 1) → G l D E 8 0 0 (wdX4_layLast cI cZ q0 q1 q2 q3 v_before (z'.1) (z'.2) v_usable) pc lv [] := fun z' e => by cases e; exact hend0
  clear hend0
  have hL8 : ∀ (n8 : Nat) (v_fewest : Nat → Int32) (v_lasts : Nat → Int32) (x2 : Int32) (x3 : Int32) (x4 : Int32), fX4_layLast_8 v_before v_fewest v_lasts x1 n8 x2 x3 x4 = some z → G l D E 8 0 0 (wdX4_layLast cI cZ q0 q1 q2 q3 v_before v_fewest v_lasts v_usable) 8 [(0, .ref q0), (1, .int x1), (2, .int x2), (3, .int x3), (4, .int x4)] [] := by
    intro n8
    induction n8 with
    | zero =>
      intro v_fewest v_lasts x2 x3 x4 hF
      rw [fX4_layLast_8] at hF
      cases hF
    | succ n8 ih8 =>
      have hL97 : ∀ (v_fewest : Nat → Int32) (v_lasts : Nat → Int32) (x2 : Int32) (x3 : Int32) (x4 : Int32) (x7 : Int32), fX4_layLast_97 (fun y0 y1 y2 => fX4_layLast_8 v_before v_fewest v_lasts x1 n8 y0 y1 y2) v_before v_fewest v_lasts x1 x2 x3 x4 x7 = some z → G l D E 8 0 0 (wdX4_layLast cI cZ q0 q1 q2 q3 v_before v_fewest v_lasts v_usable) 97 [(0, .ref q0), (1, .int x1), (2, .int x2), (3, .int x3), (4, .int x4), (7, .int x7)] [] := by
        intro v_fewest v_lasts x2 x3 x4 x7 hF
        rw [fX4_layLast_97] at hF
        refine g_iload (np := 99) h 5 rfl dX4_layLast_97 rfl ?_
        refine g_iload_n (np := 100) h 2 rfl rfl dX4_layLast_99 rfl ?_
        refine g_icmp_ne h hF dX4_layLast_100 (np := 103) rfl (tg := 110) rfl (fun c1001 hF => ?_) (fun c1001 hF => ?_)
        · refine g_iinc (np := 113) (v := (x4 + (1 : Int32))) (lv' := [(4, .int (x4 + (1 : Int32))), (0, .ref q0), (1, .int x1), (2, .int x2), (3, .int x3), (7, .int x7)]) h 4 rfl rfl (by decide) rfl dX4_layLast_110 rfl ?_
          refine g_goto h dX4_layLast_113 (np := 8) rfl ?_
          refine g_lv [1, 2, 3, 4, 0] rfl ?_
          exact ih8 v_fewest v_lasts x2 x3 (x4 + (1 : Int32)) hF
        · refine g_iload_n (np := 104) h 3 rfl rfl dX4_layLast_103 rfl ?_
          refine g_iconst (np := 105) (v := (1 : Int32)) h (by decide) dX4_layLast_104 rfl ?_
          refine g_iload (np := 107) h 4 rfl dX4_layLast_105 rfl ?_
          refine g_ishl (np := 108) h dX4_layLast_107 rfl ?_
          refine g_ior (np := 109) h dX4_layLast_108 rfl ?_
          refine g_istore_n (np := 110) (lv' := [(3, .int (x3 ||| (jshl (1 : Int32) x4))), (0, .ref q0), (1, .int x1), (2, .int x2), (4, .int x4), (7, .int x7)]) h rfl (by decide) rfl dX4_layLast_109 rfl ?_
          refine g_iinc (np := 113) (v := (x4 + (1 : Int32))) (lv' := [(4, .int (x4 + (1 : Int32))), (3, .int (x3 ||| (jshl (1 : Int32) x4))), (0, .ref q0), (1, .int x1), (2, .int x2), (7, .int x7)]) h 4 rfl rfl (by decide) rfl dX4_layLast_110 rfl ?_
          refine g_goto h dX4_layLast_113 (np := 8) rfl ?_
          refine g_lv [2, 3, 4, 1, 0] rfl ?_
          exact ih8 v_fewest v_lasts x2 (x3 ||| (jshl (1 : Int32) x4)) (x4 + (1 : Int32)) hF
      have hL83 : ∀ (v_fewest : Nat → Int32) (v_lasts : Nat → Int32) (x2 : Int32) (x3 : Int32) (x4 : Int32) (s0 : Int32) (s1 : Int32), fX4_layLast_83 (fun y0 y1 y2 => fX4_layLast_8 v_before v_fewest v_lasts x1 n8 y0 y1 y2) v_before v_fewest v_lasts x1 x2 x3 x4 s0 s1 = some z → G l D E 8 0 0 (wdX4_layLast cI cZ q0 q1 q2 q3 v_before v_fewest v_lasts v_usable) 83 [(0, .ref q0), (1, .int x1), (2, .int x2), (3, .int x3), (4, .int x4)] [.int s0, .int s1] := by
        intro v_fewest v_lasts x2 x3 x4 s0 s1 hF
        rw [fX4_layLast_83] at hF
        refine g_iadd (np := 84) h dX4_layLast_83 rfl ?_
        refine g_istore (np := 86) (lv' := [(7, .int (s1 + s0)), (0, .ref q0), (1, .int x1), (2, .int x2), (3, .int x3), (4, .int x4)]) h (by decide) rfl dX4_layLast_84 rfl ?_
        refine g_iload (np := 88) h 0 rfl dX4_layLast_86 rfl ?_
        refine g_iload_n (np := 89) h 3 rfl rfl dX4_layLast_88 rfl ?_
        refine g_icmp_ge h hF dX4_layLast_89 (np := 92) rfl (tg := 97) rfl (fun c2001 hF => ?_) (fun c2001 hF => ?_)
        · refine g_lv [1, 2, 3, 4, 5, 0] rfl ?_
          exact hL97 v_fewest v_lasts x2 x3 x4 (s1 + s0) hF
        · refine g_iload (np := 94) h 0 rfl dX4_layLast_92 rfl ?_
          refine g_istore_n (np := 95) (lv' := [(2, .int (s1 + s0)), (7, .int (s1 + s0)), (0, .ref q0), (1, .int x1), (3, .int x3), (4, .int x4)]) h rfl (by decide) rfl dX4_layLast_94 rfl ?_
          refine g_iconst (np := 96) (v := (0 : Int32)) h (by decide) dX4_layLast_95 rfl ?_
          refine g_istore_n (np := 97) (lv' := [(3, .int (0 : Int32)), (2, .int (s1 + s0)), (7, .int (s1 + s0)), (0, .ref q0), (1, .int x1), (4, .int x4)]) h rfl (by decide) rfl dX4_layLast_96 rfl ?_
          refine g_lv [3, 4, 1, 0, 5, 2] rfl ?_
          exact hL97 v_fewest v_lasts (s1 + s0) (0 : Int32) x4 (s1 + s0) hF
      have hL62 : ∀ (v_fewest : Nat → Int32) (v_lasts : Nat → Int32) (x2 : Int32) (x3 : Int32) (x4 : Int32) (x5 : Int32) (s0 : Int32), fX4_layLast_62 (fun y0 y1 y2 => fX4_layLast_8 v_before v_fewest v_lasts x1 n8 y0 y1 y2) v_before v_fewest v_lasts x1 x2 x3 x4 x5 s0 = some z → G l D E 8 0 0 (wdX4_layLast cI cZ q0 q1 q2 q3 v_before v_fewest v_lasts v_usable) 62 [(0, .ref q0), (1, .int x1), (2, .int x2), (3, .int x3), (4, .int x4), (5, .int x5)] [.int s0] := by
        intro v_fewest v_lasts x2 x3 x4 x5 s0 hF
        rw [fX4_layLast_62] at hF
        refine g_istore (np := 64) (lv' := [(6, .int s0), (0, .ref q0), (1, .int x1), (2, .int x2), (3, .int x3), (4, .int x4), (5, .int x5)]) h (by decide) rfl dX4_layLast_62 rfl ?_
        refine g_aload_n (np := 65) h 1 rfl rfl dX4_layLast_64 rfl ?_
        refine g_get (np := 68) (T := TX4) h imX4_layLast_u_X4 0 4 rfl rfl 1 (by decide) (imX4_layLast_own _ (List.mem_of_getElem? (i := 5) rfl)) rfl dX4_layLast_65 rfl ?_
        refine g_iload (np := 70) h 6 rfl dX4_layLast_68 rfl ?_
        obtain ⟨r3001, hr3001, hF⟩ := Option.bind_eq_some_iff.mp hF
        refine g_callN (np := 73) (Wd' := (wdX4_layLast cI cZ q0 q1 q2 q3 v_before v_fewest v_lasts v_usable)) (As := [.ref q2, .int x5]) h (mX8_at l D cI cZ q2 1024 v_fewest x5 r3001 hr3001) gcX4_layLast_X8_at rfl ⟨rfl, rfl⟩ (List.mem_of_getElem? (i := 21) rfl) (imX4_layLast_own _ (List.mem_of_getElem? (i := 1) rfl)) (imX4_layLast_own _ (List.mem_of_getElem? (i := 3) rfl)) hyX8_at rfl rfl rfl rfl ⟨Nat.zero_le _, Nat.zero_le _⟩ [2] [0, 1, 3] (N := 4) (by decide +kernel) rfl rfl rfl rfl rfl dX4_layLast_70 rfl ?_
        refine g_iload (np := 75) h 0 rfl dX4_layLast_73 rfl ?_
        refine g_if_eq h hF dX4_layLast_75 (np := 78) rfl (tg := 82) rfl (fun c3002 hF => ?_) (fun c3002 hF => ?_)
        · refine g_iconst (np := 83) (v := (1 : Int32)) h (by decide) dX4_layLast_82 rfl ?_
          refine g_lv [1, 2, 3, 4, 5] rfl ?_
          exact hL83 v_fewest v_lasts x2 x3 x4 (1 : Int32) r3001 hF
        · refine g_iconst (np := 79) (v := (0 : Int32)) h (by decide) dX4_layLast_78 rfl ?_
          refine g_goto h dX4_layLast_79 (np := 83) rfl ?_
          refine g_lv [1, 2, 3, 4, 5] rfl ?_
          exact hL83 v_fewest v_lasts x2 x3 x4 (0 : Int32) r3001 hF
      intro v_fewest v_lasts x2 x3 x4 hF
      rw [fX4_layLast_8] at hF
      refine g_iload (np := 10) h 4 rfl dX4_layLast_8 rfl ?_
      refine g_bipush (np := 12) (v := (10 : Int32)) h (by decide) dX4_layLast_10 rfl ?_
      refine g_icmp_ge h hF dX4_layLast_12 (np := 15) rfl (tg := 116) rfl (fun c4001 hF => ?_) (fun c4001 hF => ?_)
      · refine g_aload_n (np := 117) h 0 rfl rfl dX4_layLast_116 rfl ?_
        refine g_get (np := 120) (T := TX4) h imX4_layLast_u_X4 0 4 rfl rfl 1 (by decide) (imX4_layLast_own _ (List.mem_of_getElem? (i := 5) rfl)) rfl dX4_layLast_117 rfl ?_
        refine g_iload_n (np := 121) h 1 rfl rfl dX4_layLast_120 rfl ?_
        refine g_iload_n (np := 122) h 2 rfl rfl dX4_layLast_121 rfl ?_
        obtain ⟨r4002, hr4002, hF⟩ := Option.bind_eq_some_iff.mp hF
        refine g_callN (np := 125) (Wd' := (wdX4_layLast cI cZ q0 q1 q2 q3 v_before r4002 v_lasts v_usable)) (As := [.ref q2, .int x1, .int x2]) h (mX8_put l D cI cZ q2 1024 v_fewest x1 x2 r4002 hr4002) gcX4_layLast_X8_put rfl ⟨rfl, rfl⟩ (List.mem_of_getElem? (i := 22) rfl) (imX4_layLast_own _ (List.mem_of_getElem? (i := 1) rfl)) (imX4_layLast_own _ (List.mem_of_getElem? (i := 6) rfl)) hyX8_put rfl rfl rfl rfl ⟨Nat.zero_le _, Nat.zero_le _⟩ [2] [0, 1, 3] (N := 4) (by decide +kernel) rfl rfl rfl rfl rfl dX4_layLast_122 rfl ?_
        refine g_aload_n (np := 126) h 0 rfl rfl dX4_layLast_125 rfl ?_
        refine g_get (np := 129) (T := TX4) h imX4_layLast_u_X4 0 4 rfl rfl 2 (by decide) (imX4_layLast_own _ (List.mem_of_getElem? (i := 2) rfl)) rfl dX4_layLast_126 rfl ?_
        refine g_iload_n (np := 130) h 1 rfl rfl dX4_layLast_129 rfl ?_
        refine g_iload_n (np := 131) h 3 rfl rfl dX4_layLast_130 rfl ?_
        obtain ⟨r4003, hr4003, hF⟩ := Option.bind_eq_some_iff.mp hF
        refine g_callN (np := 134) (Wd' := (wdX4_layLast cI cZ q0 q1 q2 q3 v_before r4002 r4003 v_usable)) (As := [.ref q3, .int x1, .int x3]) h (mX8_put l D cI cZ q3 1024 v_lasts x1 x3 r4003 hr4003) gcX4_layLast_X8_put rfl ⟨rfl, rfl⟩ (List.mem_of_getElem? (i := 22) rfl) (imX4_layLast_own _ (List.mem_of_getElem? (i := 1) rfl)) (imX4_layLast_own _ (List.mem_of_getElem? (i := 6) rfl)) hyX8_put rfl rfl rfl rfl ⟨Nat.zero_le _, Nat.zero_le _⟩ [3] [0, 1, 2] (N := 4) (by decide +kernel) rfl rfl rfl rfl rfl dX4_layLast_131 rfl ?_
        exact hend _ hF _ _ dX4_layLast_134
      · refine g_iload_n (np := 16) h 1 rfl rfl dX4_layLast_15 rfl ?_
        refine g_iload (np := 18) h 4 rfl dX4_layLast_16 rfl ?_
        obtain ⟨r4004, hr4004, hF⟩ := Option.bind_eq_some_iff.mp hF
        refine g_callN (np := 21) (Wd' := (wdX4_layLast cI cZ q0 q1 q2 q3 v_before v_fewest v_lasts v_usable)) (As := [.int x1, .int x4]) h (mX8_has l D cI cZ x1 x4 r4004 hr4004) gcX4_layLast_X8_has rfl ⟨rfl, rfl⟩ (List.mem_of_getElem? (i := 20) rfl) (imX4_layLast_own _ (List.mem_of_getElem? (i := 1) rfl)) (imX4_layLast_own _ (List.mem_of_getElem? (i := 0) rfl)) hyX8_has rfl rfl rfl rfl ⟨Nat.zero_le _, Nat.zero_le _⟩ [] [0, 1, 2, 3] (N := 4) (by decide +kernel) rfl rfl rfl rfl rfl dX4_layLast_18 rfl ?_
        refine g_if_ne h hF dX4_layLast_21 (np := 24) rfl (tg := 27) rfl (fun c4005 hF => ?_) (fun c4005 hF => ?_)
        · refine g_iload_n (np := 28) h 1 rfl rfl dX4_layLast_27 rfl ?_
          refine g_iconst (np := 29) (v := (1 : Int32)) h (by decide) dX4_layLast_28 rfl ?_
          refine g_iload (np := 31) h 4 rfl dX4_layLast_29 rfl ?_
          refine g_ishl (np := 32) h dX4_layLast_31 rfl ?_
          refine g_ixor (np := 33) h dX4_layLast_32 rfl ?_
          refine g_istore (np := 35) (lv' := [(5, .int (x1 ^^^ (jshl (1 : Int32) x4))), (0, .ref q0), (1, .int x1), (2, .int x2), (3, .int x3), (4, .int x4)]) h (by decide) rfl dX4_layLast_33 rfl ?_
          refine g_aload_n (np := 36) h 1 rfl rfl dX4_layLast_35 rfl ?_
          refine g_get (np := 39) (T := TX4) h imX4_layLast_u_X4 0 4 rfl rfl 2 (by decide) (imX4_layLast_own _ (List.mem_of_getElem? (i := 2) rfl)) rfl dX4_layLast_36 rfl ?_
          refine g_iload (np := 41) h 0 rfl dX4_layLast_39 rfl ?_
          obtain ⟨r4006, hr4006, hF⟩ := Option.bind_eq_some_iff.mp hF
          refine g_callN (np := 44) (Wd' := (wdX4_layLast cI cZ q0 q1 q2 q3 v_before v_fewest v_lasts v_usable)) (As := [.ref q3, .int (x1 ^^^ (jshl (1 : Int32) x4))]) h (mX8_at l D cI cZ q3 1024 v_lasts (x1 ^^^ (jshl (1 : Int32) x4)) r4006 hr4006) gcX4_layLast_X8_at rfl ⟨rfl, rfl⟩ (List.mem_of_getElem? (i := 21) rfl) (imX4_layLast_own _ (List.mem_of_getElem? (i := 1) rfl)) (imX4_layLast_own _ (List.mem_of_getElem? (i := 3) rfl)) hyX8_at rfl rfl rfl rfl ⟨Nat.zero_le _, Nat.zero_le _⟩ [3] [0, 1, 2] (N := 4) (by decide +kernel) rfl rfl rfl rfl rfl dX4_layLast_41 rfl ?_
          refine g_aload_n (np := 45) h 1 rfl rfl dX4_layLast_44 rfl ?_
          refine g_get (np := 48) (T := TX4) h imX4_layLast_u_X4 0 4 rfl rfl 0 (by decide) (imX4_layLast_own _ (List.mem_of_getElem? (i := 4) rfl)) rfl dX4_layLast_45 rfl ?_
          refine g_iload (np := 50) h 5 rfl dX4_layLast_48 rfl ?_
          obtain ⟨r4007, hr4007, hF⟩ := Option.bind_eq_some_iff.mp hF
          refine g_callN (np := 53) (Wd' := (wdX4_layLast cI cZ q0 q1 q2 q3 v_before v_fewest v_lasts v_usable)) (As := [.ref q1, .int x4]) h (mX8_at l D cI cZ q1 10 v_before x4 r4007 hr4007) gcX4_layLast_X8_at rfl ⟨rfl, rfl⟩ (List.mem_of_getElem? (i := 21) rfl) (imX4_layLast_own _ (List.mem_of_getElem? (i := 1) rfl)) (imX4_layLast_own _ (List.mem_of_getElem? (i := 3) rfl)) hyX8_at rfl rfl rfl rfl ⟨Nat.zero_le _, Nat.zero_le _⟩ [1] [0, 2, 3] (N := 4) (by decide +kernel) rfl rfl rfl rfl rfl dX4_layLast_50 rfl ?_
          refine g_iand (np := 54) h dX4_layLast_53 rfl ?_
          refine g_if_eq h hF dX4_layLast_54 (np := 57) rfl (tg := 61) rfl (fun c4008 hF => ?_) (fun c4008 hF => ?_)
          · refine g_iconst (np := 62) (v := (0 : Int32)) h (by decide) dX4_layLast_61 rfl ?_
            refine g_lv [1, 2, 3, 4, 5, 0] rfl ?_
            exact hL62 v_fewest v_lasts x2 x3 x4 (x1 ^^^ (jshl (1 : Int32) x4)) (0 : Int32) hF
          · refine g_iconst (np := 58) (v := (1 : Int32)) h (by decide) dX4_layLast_57 rfl ?_
            refine g_goto h dX4_layLast_58 (np := 62) rfl ?_
            refine g_lv [1, 2, 3, 4, 5, 0] rfl ?_
            exact hL62 v_fewest v_lasts x2 x3 x4 (x1 ^^^ (jshl (1 : Int32) x4)) (1 : Int32) hF
        · refine g_goto h dX4_layLast_24 (np := 110) rfl ?_
          refine g_iinc (np := 113) (v := (x4 + (1 : Int32))) (lv' := [(4, .int (x4 + (1 : Int32))), (0, .ref q0), (1, .int x1), (2, .int x2), (3, .int x3)]) h 4 rfl rfl (by decide) rfl dX4_layLast_110 rfl ?_
          refine g_goto h dX4_layLast_113 (np := 8) rfl ?_
          refine g_lv [1, 2, 3, 4, 0] rfl ?_
          exact ih8 v_fewest v_lasts x2 x3 (x4 + (1 : Int32)) hF
  unfold fX4_layLast at hF
  refine g_bipush (np := 2) (v := (11 : Int32)) h (by decide) dX4_layLast_0 rfl ?_
  refine g_istore_n (np := 3) (lv' := [(2, .int (11 : Int32)), (0, .ref q0), (1, .int x1)]) h rfl (by decide) rfl dX4_layLast_2 rfl ?_
  refine g_iconst (np := 4) (v := (0 : Int32)) h (by decide) dX4_layLast_3 rfl ?_
  refine g_istore_n (np := 5) (lv' := [(3, .int (0 : Int32)), (2, .int (11 : Int32)), (0, .ref q0), (1, .int x1)]) h rfl (by decide) rfl dX4_layLast_4 rfl ?_
  refine g_iconst (np := 6) (v := (0 : Int32)) h (by decide) dX4_layLast_5 rfl ?_
  refine g_istore (np := 8) (lv' := [(4, .int (0 : Int32)), (3, .int (0 : Int32)), (2, .int (11 : Int32)), (0, .ref q0), (1, .int x1)]) h (by decide) rfl dX4_layLast_6 rfl ?_
  refine g_lv [3, 4, 2, 1, 0] rfl ?_
  exact hL8 _ v_fewest v_lasts (11 : Int32) (0 : Int32) (0 : Int32) hF
theorem dX4_lay_0 : decode cX4_lay 0 = .ok (.aload_n 0, 1) := by decide +kernel
theorem dX4_lay_1 : decode cX4_lay 1 = .ok (.getfield 21, 3) := by decide +kernel
theorem dX4_lay_4 : decode cX4_lay 4 = .ok (.aload_n 1, 1) := by decide +kernel
theorem dX4_lay_5 : decode cX4_lay 5 = .ok (.invokevirtual 25, 3) := by decide +kernel
theorem dX4_lay_8 : decode cX4_lay 8 = .ok (.if_icmp .ne 7, 3) := by decide +kernel
theorem dX4_lay_11 : decode cX4_lay 11 = .ok (.iconst 1, 1) := by decide +kernel
theorem dX4_lay_12 : decode cX4_lay 12 = .ok (.goto 4, 3) := by decide +kernel
theorem dX4_lay_15 : decode cX4_lay 15 = .ok (.iconst 0, 1) := by decide +kernel
theorem dX4_lay_16 : decode cX4_lay 16 = .ok (.istore_n 2, 1) := by decide +kernel
theorem dX4_lay_17 : decode cX4_lay 17 = .ok (.aload_n 0, 1) := by decide +kernel
theorem dX4_lay_18 : decode cX4_lay 18 = .ok (.aload_n 1, 1) := by decide +kernel
theorem dX4_lay_19 : decode cX4_lay 19 = .ok (.invokevirtual 25, 3) := by decide +kernel
theorem dX4_lay_22 : decode cX4_lay 22 = .ok (.putfield 21, 3) := by decide +kernel
theorem dX4_lay_25 : decode cX4_lay 25 = .ok (.iconst 0, 1) := by decide +kernel
theorem dX4_lay_26 : decode cX4_lay 26 = .ok (.istore_n 3, 1) := by decide +kernel
theorem dX4_lay_27 : decode cX4_lay 27 = .ok (.iload_n 3, 1) := by decide +kernel
theorem dX4_lay_28 : decode cX4_lay 28 = .ok (.aload_n 0, 1) := by decide +kernel
theorem dX4_lay_29 : decode cX4_lay 29 = .ok (.getfield 9, 3) := by decide +kernel
theorem dX4_lay_32 : decode cX4_lay 32 = .ok (.arraylength, 1) := by decide +kernel
theorem dX4_lay_33 : decode cX4_lay 33 = .ok (.if_icmp .ge 37, 3) := by decide +kernel
theorem dX4_lay_36 : decode cX4_lay 36 = .ok (.aload_n 1, 1) := by decide +kernel
theorem dX4_lay_37 : decode cX4_lay 37 = .ok (.iload_n 3, 1) := by decide +kernel
theorem dX4_lay_38 : decode cX4_lay 38 = .ok (.invokestatic 31, 3) := by decide +kernel
theorem dX4_lay_41 : decode cX4_lay 41 = .ok (.istore 4, 2) := by decide +kernel
theorem dX4_lay_43 : decode cX4_lay 43 = .ok (.aload_n 0, 1) := by decide +kernel
theorem dX4_lay_44 : decode cX4_lay 44 = .ok (.getfield 9, 3) := by decide +kernel
theorem dX4_lay_47 : decode cX4_lay 47 = .ok (.iload_n 3, 1) := by decide +kernel
theorem dX4_lay_48 : decode cX4_lay 48 = .ok (.iaload, 1) := by decide +kernel
theorem dX4_lay_49 : decode cX4_lay 49 = .ok (.iload 4, 2) := by decide +kernel
theorem dX4_lay_51 : decode cX4_lay 51 = .ok (.if_icmp .eq 5, 3) := by decide +kernel
theorem dX4_lay_54 : decode cX4_lay 54 = .ok (.iconst 0, 1) := by decide +kernel
theorem dX4_lay_55 : decode cX4_lay 55 = .ok (.istore_n 2, 1) := by decide +kernel
theorem dX4_lay_56 : decode cX4_lay 56 = .ok (.aload_n 0, 1) := by decide +kernel
theorem dX4_lay_57 : decode cX4_lay 57 = .ok (.getfield 9, 3) := by decide +kernel
theorem dX4_lay_60 : decode cX4_lay 60 = .ok (.iload_n 3, 1) := by decide +kernel
theorem dX4_lay_61 : decode cX4_lay 61 = .ok (.iload 4, 2) := by decide +kernel
theorem dX4_lay_63 : decode cX4_lay 63 = .ok (.iastore, 1) := by decide +kernel
theorem dX4_lay_64 : decode cX4_lay 64 = .ok (.iinc 3 1, 3) := by decide +kernel
theorem dX4_lay_67 : decode cX4_lay 67 = .ok (.goto (-40), 3) := by decide +kernel
theorem dX4_lay_70 : decode cX4_lay 70 = .ok (.iconst 1, 1) := by decide +kernel
theorem dX4_lay_71 : decode cX4_lay 71 = .ok (.istore_n 3, 1) := by decide +kernel
theorem dX4_lay_72 : decode cX4_lay 72 = .ok (.iload_n 3, 1) := by decide +kernel
theorem dX4_lay_73 : decode cX4_lay 73 = .ok (.aload_n 0, 1) := by decide +kernel
theorem dX4_lay_74 : decode cX4_lay 74 = .ok (.getfield 15, 3) := by decide +kernel
theorem dX4_lay_77 : decode cX4_lay 77 = .ok (.arraylength, 1) := by decide +kernel
theorem dX4_lay_78 : decode cX4_lay 78 = .ok (.if_icmp .ge 29, 3) := by decide +kernel
theorem dX4_lay_81 : decode cX4_lay 81 = .ok (.iload_n 2, 1) := by decide +kernel
theorem dX4_lay_82 : decode cX4_lay 82 = .ok (.ifCond .ne 25, 3) := by decide +kernel
theorem dX4_lay_85 : decode cX4_lay 85 = .ok (.iload_n 3, 1) := by decide +kernel
theorem dX4_lay_86 : decode cX4_lay 86 = .ok (.aload_n 0, 1) := by decide +kernel
theorem dX4_lay_87 : decode cX4_lay 87 = .ok (.getfield 21, 3) := by decide +kernel
theorem dX4_lay_90 : decode cX4_lay 90 = .ok (.iconst (-1), 1) := by decide +kernel
theorem dX4_lay_91 : decode cX4_lay 91 = .ok (.ixor, 1) := by decide +kernel
theorem dX4_lay_92 : decode cX4_lay 92 = .ok (.iand, 1) := by decide +kernel
theorem dX4_lay_93 : decode cX4_lay 93 = .ok (.ifCond .ne 8, 3) := by decide +kernel
theorem dX4_lay_96 : decode cX4_lay 96 = .ok (.aload_n 0, 1) := by decide +kernel
theorem dX4_lay_97 : decode cX4_lay 97 = .ok (.iload_n 3, 1) := by decide +kernel
theorem dX4_lay_98 : decode cX4_lay 98 = .ok (.invokevirtual 35, 3) := by decide +kernel
theorem dX4_lay_101 : decode cX4_lay 101 = .ok (.iinc 3 1, 3) := by decide +kernel
theorem dX4_lay_104 : decode cX4_lay 104 = .ok (.goto (-32), 3) := by decide +kernel
theorem dX4_lay_107 : decode cX4_lay 107 = .ok (.return_, 1) := by decide +kernel
def wtX4_lay : List Cond := .code yX4_lay cX4_lay 5 none :: (([.fieldLink RX4 21 "DriftKin$Planks" "usable" "I", .fieldLink RX4 9 "DriftKin$Planks" "before" "[I", .fieldLink RX4 15 "DriftKin$Planks" "fewest" "[I"]) ++ ((u_ws RX4 TX4 4) ++ ((wsV RX4 25 RX3 yX3_bitsNotBurnt wtX3_bitsNotBurnt) ++ ((va_wsS RX4 31 yX4_joinedBy wtX4_joinedBy) ++ ((wsV RX4 35 RX4 yX4_layLast wtX4_layLast) ++ [])))))
theorem imX4_lay_own : ∀ w ∈ ([.fieldLink RX4 21 "DriftKin$Planks" "usable" "I", .fieldLink RX4 9 "DriftKin$Planks" "before" "[I", .fieldLink RX4 15 "DriftKin$Planks" "fewest" "[I"] : List Cond), w ∈ wtX4_lay := fun w h => List.mem_cons_of_mem _ (inl h)
theorem imX4_lay_u_X4 : ∀ w ∈ (u_ws RX4 TX4 4 : List Cond), w ∈ wtX4_lay := fun w h => List.mem_cons_of_mem _ (inr (inl h))
theorem imX4_lay_c_X3_bitsNotBurnt : ∀ w ∈ (wsV RX4 25 RX3 yX3_bitsNotBurnt wtX3_bitsNotBurnt : List Cond), w ∈ wtX4_lay := fun w h => List.mem_cons_of_mem _ (inr (inr (inl h)))
theorem imX4_lay_c_X4_joinedBy : ∀ w ∈ (va_wsS RX4 31 yX4_joinedBy wtX4_joinedBy : List Cond), w ∈ wtX4_lay := fun w h => List.mem_cons_of_mem _ (inr (inr (inr (inl h))))
theorem imX4_lay_c_X4_layLast : ∀ w ∈ (wsV RX4 35 RX4 yX4_layLast wtX4_layLast : List Cond), w ∈ wtX4_lay := fun w h => List.mem_cons_of_mem _ (inr (inr (inr (inr (inl h)))))
theorem gdX4_lay : ∀ w ∈ wtX4_lay, Gd w := gdc rfl (gda (gdl (by decide +kernel)) (gda (gdu _ _ _) (gda (gda (gdl (by decide +kernel)) gdX3_bitsNotBurnt) (gda (gda (gdl (by decide +kernel)) gdX4_joinedBy) (gda (gda (gdl (by decide +kernel)) gdX4_layLast) gdn)))))
theorem gcX4_lay_X3_bitsNotBurnt : GoodIn wtX4_lay (wsV RX4 25 RX3 yX3_bitsNotBurnt wtX3_bitsNotBurnt) := fun w h => ⟨imX4_lay_c_X3_bitsNotBurnt w h, (gda (gdl (by decide +kernel)) gdX3_bitsNotBurnt) w h⟩
theorem gcX4_lay_X4_joinedBy : GoodIn wtX4_lay (va_wsS RX4 31 yX4_joinedBy wtX4_joinedBy) := fun w h => ⟨imX4_lay_c_X4_joinedBy w h, (gda (gdl (by decide +kernel)) gdX4_joinedBy) w h⟩
theorem gcX4_lay_X4_layLast : GoodIn wtX4_lay (wsV RX4 35 RX4 yX4_layLast wtX4_layLast) := fun w h => ⟨imX4_lay_c_X4_layLast w h, (gda (gdl (by decide +kernel)) gdX4_layLast) w h⟩
def fX4_lay_72 (v_usable : Int32) (v_before : Nat → Int32) (x2 : Int32) : Nat → (Nat → Int32) → (Nat → Int32) → Int32 → Option (Int32 × (Nat → Int32) × (Nat → Int32) × (Nat → Int32))
  | 0, _, _, _ => none
  | n + 1, v_fewest, v_lasts, x3 =>
    if (1024 : Int32) ≤ x3 then
      some (v_usable, v_before, v_fewest, v_lasts)
    else
      if x2 = (0 : Int32) then
        if (x3 &&& (v_usable ^^^ (-1 : Int32))) = (0 : Int32) then
          (fX4_layLast v_before v_fewest v_lasts x3).bind (fun r1004 =>
            fX4_lay_72 v_usable v_before x2 n r1004.1 r1004.2 (x3 + (1 : Int32)))
        else
          fX4_lay_72 v_usable v_before x2 n v_fewest v_lasts (x3 + (1 : Int32))
      else
        some (v_usable, v_before, v_fewest, v_lasts)
def fX4_lay_27 (v_usable : Int32) (v_fewest : Nat → Int32) (v_lasts : Nat → Int32) (v_wood : Nat → Int32) (v_left : Nat → Int32) (v_right : Nat → Int32) : Nat → (Nat → Int32) → Int32 → Int32 → Option (Int32 × (Nat → Int32) × (Nat → Int32) × (Nat → Int32))
  | 0, _, _, _ => none
  | n + 1, v_before, x2, x3 =>
    if (10 : Int32) ≤ x3 then
      fX4_lay_72 v_usable v_before x2 2000 v_fewest v_lasts (1 : Int32)
    else
      (fX4_joinedBy v_wood v_left v_right x3).bind (fun r2002 =>
        chk x3 10 (
          if (rd v_before x3) = r2002 then
            chk x3 10 (
              fX4_lay_27 v_usable v_fewest v_lasts v_wood v_left v_right n (wr v_before x3 r2002) x2 (x3 + (1 : Int32)))
          else
            chk x3 10 (
              fX4_lay_27 v_usable v_fewest v_lasts v_wood v_left v_right n (wr v_before x3 r2002) (0 : Int32) (x3 + (1 : Int32)))))
def fX4_lay_16 (v_usable : Int32) (v_before : Nat → Int32) (v_fewest : Nat → Int32) (v_lasts : Nat → Int32) (v_wood : Nat → Int32) (v_left : Nat → Int32) (v_right : Nat → Int32) (v_place : Nat → Int32) (s0 : Int32) : Option (Int32 × (Nat → Int32) × (Nat → Int32) × (Nat → Int32)) :=
  (fX3_bitsNotBurnt v_place).bind (fun r3001 =>
    fX4_lay_27 r3001 v_fewest v_lasts v_wood v_left v_right 2000 v_before s0 (0 : Int32))
def fX4_lay (v_usable : Int32) (v_before : Nat → Int32) (v_fewest : Nat → Int32) (v_lasts : Nat → Int32) (v_wood : Nat → Int32) (v_left : Nat → Int32) (v_right : Nat → Int32) (v_place : Nat → Int32) : Option (Int32 × (Nat → Int32) × (Nat → Int32) × (Nat → Int32)) :=
  (fX3_bitsNotBurnt v_place).bind (fun r1 =>
    if v_usable = r1 then
      fX4_lay_16 v_usable v_before v_fewest v_lasts v_wood v_left v_right v_place (1 : Int32)
    else
      fX4_lay_16 v_usable v_before v_fewest v_lasts v_wood v_left v_right v_place (0 : Int32))
def wdX4_lay (cI cZ : ClassId) (q0 : Nat) (q1 : Nat) (q2 : Nat) (q3 : Nat) (q4 : Nat) (q5 : Nat) (q6 : Nat) (q7 : Nat) (q8 : Nat) (d9 : Nat) (d10 : Nat) (d11 : Nat)  (v_usable : Int32) (v_before : Nat → Int32) (v_fewest : Nat → Int32) (v_lasts : Nat → Int32) (v_wood : Nat → Int32) (v_left : Nat → Int32) (v_right : Nat → Int32) (v_place : Nat → Int32) : va_W := [(q0, .inr (4, [.ref q1, .ref q2, .ref q3, .int v_usable])), (q1, .inl (cI, 10, .inl v_before)), (q2, .inl (cI, 1024, .inl v_fewest)), (q3, .inl (cI, 1024, .inl v_lasts)), (q4, .inr (3, [.ref d9, .ref q5, .ref d10, .ref q6, .ref q7, .ref q8, .ref d11])), (q5, .inl (cI, 10, .inl v_wood)), (q6, .inl (cI, 10, .inl v_left)), (q7, .inl (cI, 10, .inl v_right)), (q8, .inl (cI, 10, .inl v_place))]
abbrev rmX4_lay : Jvm.Room := { frames := 3, cells := 0, slots := 0, locals := 66 }
theorem hyX4_lay : yX4_lay.cls ≠ "java/lang/invoke/MethodHandle" ∧ yX4_lay.cls ≠ "java/lang/invoke/VarHandle" ∧ (parseMethodDescriptor yX4_lay.desc).map (fun d => d.parameters.length) = some 1 := by decide +kernel
set_option maxHeartbeats 4000000 in
set_option maxRecDepth 100000 in
theorem mX4_lay (l : Launch) (D : va_G) (cI cZ : ClassId) (q0 : Nat) (q1 : Nat) (q2 : Nat) (q3 : Nat) (q4 : Nat) (q5 : Nat) (q6 : Nat) (q7 : Nat) (q8 : Nat) (d9 : Nat) (d10 : Nat) (d11 : Nat) (v_usable : Int32) (v_before : Nat → Int32) (v_fewest : Nat → Int32) (v_lasts : Nat → Int32) (v_wood : Nat → Int32) (v_left : Nat → Int32) (v_right : Nat → Int32) (v_place : Nat → Int32) (z : Int32 × (Nat → Int32) × (Nat → Int32) × (Nat → Int32)) (hF : fX4_lay v_usable v_before v_fewest v_lasts v_wood v_left v_right v_place = some z) : mp l yX4_lay wtX4_lay rmX4_lay D cI cZ [.ref q0, .ref q4] (wdX4_lay cI cZ q0 q1 q2 q3 q4 q5 q6 q7 q8 d9 d10 d11 v_usable v_before v_fewest v_lasts v_wood v_left v_right v_place) none (wdX4_lay cI cZ q0 q1 q2 q3 q4 q5 q6 q7 q8 d9 d10 d11 z.1 z.2.1 z.2.2.1 z.2.2.2 v_wood v_left v_right v_place) := by
  refine mp_v (lv0 := [(0, .ref q0), (1, .ref q4)]) cX4_lay 5 (by decide) rfl (Nat.le_of_ble_eq_true rfl) rfl (fun E h hend0 => ?_)
  have hend : ∀ (z' : Int32 × (Nat → Int32) × (Nat → Int32) × (Nat → Int32)), some z' = some z → ∀ (pc : Nat) (lv : List (Nat × Value)), decode cX4_lay pc = .ok (.return_, 1) → G l D E 5 0 0 (wdX4_lay cI cZ q0 q1 q2 q3 q4 q5 q6 q7 q8 d9 d10 d11 (z'.1) (z'.2.1) (z'.2.2.1) (z'.2.2.2) v_wood v_left v_right v_place) pc lv [] := fun z' e => by cases e; exact hend0
  clear hend0
  have hL72 : ∀ (n72 : Nat) (v_usable : Int32) (v_before : Nat → Int32) (v_fewest : Nat → Int32) (v_lasts : Nat → Int32) (x2 : Int32) (x3 : Int32), fX4_lay_72 v_usable v_before x2 n72 v_fewest v_lasts x3 = some z → G l D E 5 0 0 (wdX4_lay cI cZ q0 q1 q2 q3 q4 q5 q6 q7 q8 d9 d10 d11 v_usable v_before v_fewest v_lasts v_wood v_left v_right v_place) 72 [(0, .ref q0), (1, .ref q4), (2, .int x2), (3, .int x3)] [] := by
    intro n72
    induction n72 with
    | zero =>
      intro v_usable v_before v_fewest v_lasts x2 x3 hF
      rw [fX4_lay_72] at hF
      cases hF
    | succ n72 ih72 =>
      intro v_usable v_before v_fewest v_lasts x2 x3 hF
      rw [fX4_lay_72] at hF
      refine g_iload_n (np := 73) h 3 rfl rfl dX4_lay_72 rfl ?_
      refine g_aload_n (np := 74) h 0 rfl rfl dX4_lay_73 rfl ?_
      refine g_get (np := 77) (T := TX4) h imX4_lay_u_X4 0 4 rfl rfl 1 (by decide) (imX4_lay_own _ (List.mem_of_getElem? (i := 2) rfl)) rfl dX4_lay_74 rfl ?_
      refine g_alen (np := 78) (v := (1024 : Int32)) h 2 rfl (by decide) dX4_lay_77 rfl ?_
      refine g_icmp_ge h hF dX4_lay_78 (np := 81) rfl (tg := 107) rfl (fun c1001 hF => ?_) (fun c1001 hF => ?_)
      · exact hend _ hF _ _ dX4_lay_107
      · refine g_iload_n (np := 82) h 2 rfl rfl dX4_lay_81 rfl ?_
        refine g_if_ne h hF dX4_lay_82 (np := 85) rfl (tg := 107) rfl (fun c1002 hF => ?_) (fun c1002 hF => ?_)
        · exact hend _ hF _ _ dX4_lay_107
        · refine g_iload_n (np := 86) h 3 rfl rfl dX4_lay_85 rfl ?_
          refine g_aload_n (np := 87) h 0 rfl rfl dX4_lay_86 rfl ?_
          refine g_get (np := 90) (T := TX4) h imX4_lay_u_X4 0 4 rfl rfl 3 (by decide) (imX4_lay_own _ (List.mem_of_getElem? (i := 0) rfl)) rfl dX4_lay_87 rfl ?_
          refine g_iconst (np := 91) (v := (-1 : Int32)) h (by decide) dX4_lay_90 rfl ?_
          refine g_ixor (np := 92) h dX4_lay_91 rfl ?_
          refine g_iand (np := 93) h dX4_lay_92 rfl ?_
          refine g_if_ne h hF dX4_lay_93 (np := 96) rfl (tg := 101) rfl (fun c1003 hF => ?_) (fun c1003 hF => ?_)
          · refine g_iinc (np := 104) (v := (x3 + (1 : Int32))) (lv' := [(3, .int (x3 + (1 : Int32))), (0, .ref q0), (1, .ref q4), (2, .int x2)]) h 3 rfl rfl (by decide) rfl dX4_lay_101 rfl ?_
            refine g_goto h dX4_lay_104 (np := 72) rfl ?_
            refine g_lv [1, 2, 3, 0] rfl ?_
            exact ih72 v_usable v_before v_fewest v_lasts x2 (x3 + (1 : Int32)) hF
          · refine g_aload_n (np := 97) h 0 rfl rfl dX4_lay_96 rfl ?_
            refine g_iload_n (np := 98) h 3 rfl rfl dX4_lay_97 rfl ?_
            obtain ⟨r1004, hr1004, hF⟩ := Option.bind_eq_some_iff.mp hF
            refine g_callV (np := 101) (Wd' := (wdX4_lay cI cZ q0 q1 q2 q3 q4 q5 q6 q7 q8 d9 d10 d11 v_usable v_before r1004.1 r1004.2 v_wood v_left v_right v_place)) (As := [.int x3]) h (mX4_layLast l D cI cZ q0 q1 q2 q3 v_before v_fewest v_lasts v_usable x3 r1004 hr1004) gcX4_lay_X4_layLast rfl ⟨rfl, rfl⟩ ⟨rfl, hyX4_layLast⟩ rfl 4 0 rfl rfl rfl rfl rfl rfl ⟨Nat.zero_le _, Nat.zero_le _⟩ [0, 1, 2, 3] [4, 5, 6, 7, 8] (N := 9) (by decide +kernel) rfl rfl rfl rfl rfl dX4_lay_98 rfl ?_
            refine g_iinc (np := 104) (v := (x3 + (1 : Int32))) (lv' := [(3, .int (x3 + (1 : Int32))), (0, .ref q0), (1, .ref q4), (2, .int x2)]) h 3 rfl rfl (by decide) rfl dX4_lay_101 rfl ?_
            refine g_goto h dX4_lay_104 (np := 72) rfl ?_
            refine g_lv [1, 2, 3, 0] rfl ?_
            exact ih72 v_usable v_before r1004.1 r1004.2 x2 (x3 + (1 : Int32)) hF
  have hL27 : ∀ (n27 : Nat) (v_usable : Int32) (v_before : Nat → Int32) (v_fewest : Nat → Int32) (v_lasts : Nat → Int32) (x2 : Int32) (x3 : Int32), fX4_lay_27 v_usable v_fewest v_lasts v_wood v_left v_right n27 v_before x2 x3 = some z → G l D E 5 0 0 (wdX4_lay cI cZ q0 q1 q2 q3 q4 q5 q6 q7 q8 d9 d10 d11 v_usable v_before v_fewest v_lasts v_wood v_left v_right v_place) 27 [(0, .ref q0), (1, .ref q4), (2, .int x2), (3, .int x3)] [] := by
    intro n27
    induction n27 with
    | zero =>
      intro v_usable v_before v_fewest v_lasts x2 x3 hF
      rw [fX4_lay_27] at hF
      cases hF
    | succ n27 ih27 =>
      intro v_usable v_before v_fewest v_lasts x2 x3 hF
      rw [fX4_lay_27] at hF
      refine g_iload_n (np := 28) h 3 rfl rfl dX4_lay_27 rfl ?_
      refine g_aload_n (np := 29) h 0 rfl rfl dX4_lay_28 rfl ?_
      refine g_get (np := 32) (T := TX4) h imX4_lay_u_X4 0 4 rfl rfl 0 (by decide) (imX4_lay_own _ (List.mem_of_getElem? (i := 1) rfl)) rfl dX4_lay_29 rfl ?_
      refine g_alen (np := 33) (v := (10 : Int32)) h 1 rfl (by decide) dX4_lay_32 rfl ?_
      refine g_icmp_ge h hF dX4_lay_33 (np := 36) rfl (tg := 70) rfl (fun c2001 hF => ?_) (fun c2001 hF => ?_)
      · refine g_iconst (np := 71) (v := (1 : Int32)) h (by decide) dX4_lay_70 rfl ?_
        refine g_istore_n (np := 72) (lv' := [(3, .int (1 : Int32)), (0, .ref q0), (1, .ref q4), (2, .int x2)]) h rfl (by decide) rfl dX4_lay_71 rfl ?_
        refine g_lv [1, 2, 3, 0] rfl ?_
        exact hL72 _ v_usable v_before v_fewest v_lasts x2 (1 : Int32) hF
      · refine g_aload_n (np := 37) h 1 rfl rfl dX4_lay_36 rfl ?_
        refine g_iload_n (np := 38) h 3 rfl rfl dX4_lay_37 rfl ?_
        obtain ⟨r2002, hr2002, hF⟩ := Option.bind_eq_some_iff.mp hF
        refine g_callS (np := 41) (Wd' := (wdX4_lay cI cZ q0 q1 q2 q3 q4 q5 q6 q7 q8 d9 d10 d11 v_usable v_before v_fewest v_lasts v_wood v_left v_right v_place)) (As := [.ref q4, .int x3]) h (mX4_joinedBy l D cI cZ q4 q5 q6 q7 d9 d10 q8 d11 v_wood v_left v_right x3 r2002 hr2002) gcX4_lay_X4_joinedBy rfl ⟨rfl, rfl⟩ hyX4_joinedBy rfl rfl rfl rfl ⟨Nat.zero_le _, Nat.zero_le _⟩ [4, 5, 6, 7] [0, 1, 2, 3, 8] (N := 9) (by decide +kernel) rfl rfl rfl rfl rfl dX4_lay_38 rfl ?_
        refine g_istore (np := 43) (lv' := [(4, .int r2002), (0, .ref q0), (1, .ref q4), (2, .int x2), (3, .int x3)]) h (by decide) rfl dX4_lay_41 rfl ?_
        refine g_aload_n (np := 44) h 1 rfl rfl dX4_lay_43 rfl ?_
        refine g_get (np := 47) (T := TX4) h imX4_lay_u_X4 0 4 rfl rfl 0 (by decide) (imX4_lay_own _ (List.mem_of_getElem? (i := 1) rfl)) rfl dX4_lay_44 rfl ?_
        refine g_iload_n (np := 48) h 4 rfl rfl dX4_lay_47 rfl ?_
        refine g_iald (np := 49) h 1 rfl hF dX4_lay_48 rfl (fun hi2003 hF => ?_)
        refine g_iload (np := 51) h 0 rfl dX4_lay_49 rfl ?_
        refine g_icmp_eq h hF dX4_lay_51 (np := 54) rfl (tg := 56) rfl (fun c2004 hF => ?_) (fun c2004 hF => ?_)
        · refine g_aload_n (np := 57) h 1 rfl rfl dX4_lay_56 rfl ?_
          refine g_get (np := 60) (T := TX4) h imX4_lay_u_X4 0 4 rfl rfl 0 (by decide) (imX4_lay_own _ (List.mem_of_getElem? (i := 1) rfl)) rfl dX4_lay_57 rfl ?_
          refine g_iload_n (np := 61) h 4 rfl rfl dX4_lay_60 rfl ?_
          refine g_iload (np := 63) h 0 rfl dX4_lay_61 rfl ?_
          refine g_iast (np := 64) (Wd' := (wdX4_lay cI cZ q0 q1 q2 q3 q4 q5 q6 q7 q8 d9 d10 d11 v_usable (wr v_before x3 r2002) v_fewest v_lasts v_wood v_left v_right v_place)) h 1 rfl hF rfl dX4_lay_63 rfl (fun hi2005 hF => ?_)
          refine g_iinc (np := 67) (v := (x3 + (1 : Int32))) (lv' := [(3, .int (x3 + (1 : Int32))), (4, .int r2002), (0, .ref q0), (1, .ref q4), (2, .int x2)]) h 4 rfl rfl (by decide) rfl dX4_lay_64 rfl ?_
          refine g_goto h dX4_lay_67 (np := 27) rfl ?_
          refine g_lv [2, 3, 4, 0] rfl ?_
          exact ih27 v_usable (wr v_before x3 r2002) v_fewest v_lasts x2 (x3 + (1 : Int32)) hF
        · refine g_iconst (np := 55) (v := (0 : Int32)) h (by decide) dX4_lay_54 rfl ?_
          refine g_istore_n (np := 56) (lv' := [(2, .int (0 : Int32)), (4, .int r2002), (0, .ref q0), (1, .ref q4), (3, .int x3)]) h rfl (by decide) rfl dX4_lay_55 rfl ?_
          refine g_aload_n (np := 57) h 2 rfl rfl dX4_lay_56 rfl ?_
          refine g_get (np := 60) (T := TX4) h imX4_lay_u_X4 0 4 rfl rfl 0 (by decide) (imX4_lay_own _ (List.mem_of_getElem? (i := 1) rfl)) rfl dX4_lay_57 rfl ?_
          refine g_iload_n (np := 61) h 4 rfl rfl dX4_lay_60 rfl ?_
          refine g_iload (np := 63) h 1 rfl dX4_lay_61 rfl ?_
          refine g_iast (np := 64) (Wd' := (wdX4_lay cI cZ q0 q1 q2 q3 q4 q5 q6 q7 q8 d9 d10 d11 v_usable (wr v_before x3 r2002) v_fewest v_lasts v_wood v_left v_right v_place)) h 1 rfl hF rfl dX4_lay_63 rfl (fun hi2006 hF => ?_)
          refine g_iinc (np := 67) (v := (x3 + (1 : Int32))) (lv' := [(3, .int (x3 + (1 : Int32))), (2, .int (0 : Int32)), (4, .int r2002), (0, .ref q0), (1, .ref q4)]) h 4 rfl rfl (by decide) rfl dX4_lay_64 rfl ?_
          refine g_goto h dX4_lay_67 (np := 27) rfl ?_
          refine g_lv [3, 4, 1, 0] rfl ?_
          exact ih27 v_usable (wr v_before x3 r2002) v_fewest v_lasts (0 : Int32) (x3 + (1 : Int32)) hF
  have hL16 : ∀ (v_usable : Int32) (v_before : Nat → Int32) (v_fewest : Nat → Int32) (v_lasts : Nat → Int32) (s0 : Int32), fX4_lay_16 v_usable v_before v_fewest v_lasts v_wood v_left v_right v_place s0 = some z → G l D E 5 0 0 (wdX4_lay cI cZ q0 q1 q2 q3 q4 q5 q6 q7 q8 d9 d10 d11 v_usable v_before v_fewest v_lasts v_wood v_left v_right v_place) 16 [(0, .ref q0), (1, .ref q4)] [.int s0] := by
    intro v_usable v_before v_fewest v_lasts s0 hF
    rw [fX4_lay_16] at hF
    refine g_istore_n (np := 17) (lv' := [(2, .int s0), (0, .ref q0), (1, .ref q4)]) h rfl (by decide) rfl dX4_lay_16 rfl ?_
    refine g_aload_n (np := 18) h 1 rfl rfl dX4_lay_17 rfl ?_
    refine g_aload_n (np := 19) h 2 rfl rfl dX4_lay_18 rfl ?_
    obtain ⟨r3001, hr3001, hF⟩ := Option.bind_eq_some_iff.mp hF
    refine g_callV (np := 22) (Wd' := (wdX4_lay cI cZ q0 q1 q2 q3 q4 q5 q6 q7 q8 d9 d10 d11 v_usable v_before v_fewest v_lasts v_wood v_left v_right v_place)) (As := []) h (mX3_bitsNotBurnt l D cI cZ q4 q8 d9 q5 d10 q6 q7 d11 v_place r3001 hr3001) gcX4_lay_X3_bitsNotBurnt rfl ⟨rfl, rfl⟩ ⟨rfl, hyX3_bitsNotBurnt⟩ rfl 3 4 rfl rfl rfl rfl rfl rfl ⟨Nat.zero_le _, Nat.zero_le _⟩ [4, 8] [0, 1, 2, 3, 5, 6, 7] (N := 9) (by decide +kernel) rfl rfl rfl rfl rfl dX4_lay_19 rfl ?_
    refine g_put (np := 25) (T := TX4) (Wd' := (wdX4_lay cI cZ q0 q1 q2 q3 q4 q5 q6 q7 q8 d9 d10 d11 r3001 v_before v_fewest v_lasts v_wood v_left v_right v_place)) h imX4_lay_u_X4 tyX4_ok nmX4 0 4 rfl rfl 3 (by decide) (imX4_lay_own _ (List.mem_of_getElem? (i := 0) rfl)) rfl rfl rfl (Nat.le_of_ble_eq_true rfl) rfl dX4_lay_22 rfl ?_
    refine g_iconst (np := 26) (v := (0 : Int32)) h (by decide) dX4_lay_25 rfl ?_
    refine g_istore_n (np := 27) (lv' := [(3, .int (0 : Int32)), (2, .int s0), (0, .ref q0), (1, .ref q4)]) h rfl (by decide) rfl dX4_lay_26 rfl ?_
    refine g_lv [2, 3, 1, 0] rfl ?_
    exact hL27 _ r3001 v_before v_fewest v_lasts s0 (0 : Int32) hF
  unfold fX4_lay at hF
  refine g_aload_n (np := 1) h 0 rfl rfl dX4_lay_0 rfl ?_
  refine g_get (np := 4) (T := TX4) h imX4_lay_u_X4 0 4 rfl rfl 3 (by decide) (imX4_lay_own _ (List.mem_of_getElem? (i := 0) rfl)) rfl dX4_lay_1 rfl ?_
  refine g_aload_n (np := 5) h 1 rfl rfl dX4_lay_4 rfl ?_
  obtain ⟨r1, hr1, hF⟩ := Option.bind_eq_some_iff.mp hF
  refine g_callV (np := 8) (Wd' := (wdX4_lay cI cZ q0 q1 q2 q3 q4 q5 q6 q7 q8 d9 d10 d11 v_usable v_before v_fewest v_lasts v_wood v_left v_right v_place)) (As := []) h (mX3_bitsNotBurnt l D cI cZ q4 q8 d9 q5 d10 q6 q7 d11 v_place r1 hr1) gcX4_lay_X3_bitsNotBurnt rfl ⟨rfl, rfl⟩ ⟨rfl, hyX3_bitsNotBurnt⟩ rfl 3 4 rfl rfl rfl rfl rfl rfl ⟨Nat.zero_le _, Nat.zero_le _⟩ [4, 8] [0, 1, 2, 3, 5, 6, 7] (N := 9) (by decide +kernel) rfl rfl rfl rfl rfl dX4_lay_5 rfl ?_
  refine g_icmp_ne h hF dX4_lay_8 (np := 11) rfl (tg := 15) rfl (fun c2 hF => ?_) (fun c2 hF => ?_)
  · refine g_iconst (np := 16) (v := (0 : Int32)) h (by decide) dX4_lay_15 rfl ?_
    exact hL16 v_usable v_before v_fewest v_lasts (0 : Int32) hF
  · refine g_iconst (np := 12) (v := (1 : Int32)) h (by decide) dX4_lay_11 rfl ?_
    refine g_goto h dX4_lay_12 (np := 16) rfl ?_
    exact hL16 v_usable v_before v_fewest v_lasts (1 : Int32) hF
theorem dX4_longestBits_0 : decode cX4_longestBits 0 = .ok (.iconst 0, 1) := by decide +kernel
theorem dX4_longestBits_1 : decode cX4_longestBits 1 = .ok (.istore_n 2, 1) := by decide +kernel
theorem dX4_longestBits_2 : decode cX4_longestBits 2 = .ok (.iconst 0, 1) := by decide +kernel
theorem dX4_longestBits_3 : decode cX4_longestBits 3 = .ok (.istore_n 3, 1) := by decide +kernel
theorem dX4_longestBits_4 : decode cX4_longestBits 4 = .ok (.iconst 1, 1) := by decide +kernel
theorem dX4_longestBits_5 : decode cX4_longestBits 5 = .ok (.istore 4, 2) := by decide +kernel
theorem dX4_longestBits_7 : decode cX4_longestBits 7 = .ok (.iload 4, 2) := by decide +kernel
theorem dX4_longestBits_9 : decode cX4_longestBits 9 = .ok (.aload_n 0, 1) := by decide +kernel
theorem dX4_longestBits_10 : decode cX4_longestBits 10 = .ok (.getfield 15, 3) := by decide +kernel
theorem dX4_longestBits_13 : decode cX4_longestBits 13 = .ok (.arraylength, 1) := by decide +kernel
theorem dX4_longestBits_14 : decode cX4_longestBits 14 = .ok (.if_icmp .ge 55, 3) := by decide +kernel
theorem dX4_longestBits_17 : decode cX4_longestBits 17 = .ok (.iload 4, 2) := by decide +kernel
theorem dX4_longestBits_19 : decode cX4_longestBits 19 = .ok (.aload_n 0, 1) := by decide +kernel
theorem dX4_longestBits_20 : decode cX4_longestBits 20 = .ok (.getfield 21, 3) := by decide +kernel
theorem dX4_longestBits_23 : decode cX4_longestBits 23 = .ok (.iconst (-1), 1) := by decide +kernel
theorem dX4_longestBits_24 : decode cX4_longestBits 24 = .ok (.ixor, 1) := by decide +kernel
theorem dX4_longestBits_25 : decode cX4_longestBits 25 = .ok (.iand, 1) := by decide +kernel
theorem dX4_longestBits_26 : decode cX4_longestBits 26 = .ok (.ifCond .ne 37, 3) := by decide +kernel
theorem dX4_longestBits_29 : decode cX4_longestBits 29 = .ok (.aload_n 0, 1) := by decide +kernel
theorem dX4_longestBits_30 : decode cX4_longestBits 30 = .ok (.getfield 15, 3) := by decide +kernel
theorem dX4_longestBits_33 : decode cX4_longestBits 33 = .ok (.iload 4, 2) := by decide +kernel
theorem dX4_longestBits_35 : decode cX4_longestBits 35 = .ok (.iaload, 1) := by decide +kernel
theorem dX4_longestBits_36 : decode cX4_longestBits 36 = .ok (.iconst 1, 1) := by decide +kernel
theorem dX4_longestBits_37 : decode cX4_longestBits 37 = .ok (.if_icmp .eq 6, 3) := by decide +kernel
theorem dX4_longestBits_40 : decode cX4_longestBits 40 = .ok (.goto 23, 3) := by decide +kernel
theorem dX4_longestBits_43 : decode cX4_longestBits 43 = .ok (.aload_n 1, 1) := by decide +kernel
theorem dX4_longestBits_44 : decode cX4_longestBits 44 = .ok (.iload 4, 2) := by decide +kernel
theorem dX4_longestBits_46 : decode cX4_longestBits 46 = .ok (.invokevirtual 54, 3) := by decide +kernel
theorem dX4_longestBits_49 : decode cX4_longestBits 49 = .ok (.istore 5, 2) := by decide +kernel
theorem dX4_longestBits_51 : decode cX4_longestBits 51 = .ok (.iload 5, 2) := by decide +kernel
theorem dX4_longestBits_53 : decode cX4_longestBits 53 = .ok (.iload_n 3, 1) := by decide +kernel
theorem dX4_longestBits_54 : decode cX4_longestBits 54 = .ok (.if_icmp .le 9, 3) := by decide +kernel
theorem dX4_longestBits_57 : decode cX4_longestBits 57 = .ok (.iload 5, 2) := by decide +kernel
theorem dX4_longestBits_59 : decode cX4_longestBits 59 = .ok (.istore_n 3, 1) := by decide +kernel
theorem dX4_longestBits_60 : decode cX4_longestBits 60 = .ok (.iload 4, 2) := by decide +kernel
theorem dX4_longestBits_62 : decode cX4_longestBits 62 = .ok (.istore_n 2, 1) := by decide +kernel
theorem dX4_longestBits_63 : decode cX4_longestBits 63 = .ok (.iinc 4 1, 3) := by decide +kernel
theorem dX4_longestBits_66 : decode cX4_longestBits 66 = .ok (.goto (-59), 3) := by decide +kernel
theorem dX4_longestBits_69 : decode cX4_longestBits 69 = .ok (.iload_n 2, 1) := by decide +kernel
theorem dX4_longestBits_70 : decode cX4_longestBits 70 = .ok (.ireturn, 1) := by decide +kernel
def wtX4_longestBits : List Cond := .code yX4_longestBits cX4_longestBits 6 (some .int) :: (([.fieldLink RX4 15 "DriftKin$Planks" "fewest" "[I", .fieldLink RX4 21 "DriftKin$Planks" "usable" "I"]) ++ ((u_ws RX4 TX4 4) ++ ((wsV RX4 54 RX3 yX3_lengthOf wtX3_lengthOf) ++ [])))
theorem imX4_longestBits_own : ∀ w ∈ ([.fieldLink RX4 15 "DriftKin$Planks" "fewest" "[I", .fieldLink RX4 21 "DriftKin$Planks" "usable" "I"] : List Cond), w ∈ wtX4_longestBits := fun w h => List.mem_cons_of_mem _ (inl h)
theorem imX4_longestBits_u_X4 : ∀ w ∈ (u_ws RX4 TX4 4 : List Cond), w ∈ wtX4_longestBits := fun w h => List.mem_cons_of_mem _ (inr (inl h))
theorem imX4_longestBits_c_X3_lengthOf : ∀ w ∈ (wsV RX4 54 RX3 yX3_lengthOf wtX3_lengthOf : List Cond), w ∈ wtX4_longestBits := fun w h => List.mem_cons_of_mem _ (inr (inr (inl h)))
theorem gdX4_longestBits : ∀ w ∈ wtX4_longestBits, Gd w := gdc rfl (gda (gdl (by decide +kernel)) (gda (gdu _ _ _) (gda (gda (gdl (by decide +kernel)) gdX3_lengthOf) gdn)))
theorem gcX4_longestBits_X3_lengthOf : GoodIn wtX4_longestBits (wsV RX4 54 RX3 yX3_lengthOf wtX3_lengthOf) := fun w h => ⟨imX4_longestBits_c_X3_lengthOf w h, (gda (gdl (by decide +kernel)) gdX3_lengthOf) w h⟩
def fX4_longestBits_7 (v_usable : Int32) (v_fewest : Nat → Int32) (v_length : Nat → Int32) : Nat → Int32 → Int32 → Int32 → Option (Int32)
  | 0, _, _, _ => none
  | n + 1, x2, x3, x4 =>
    if (1024 : Int32) ≤ x4 then
      some x2
    else
      if (x4 &&& (v_usable ^^^ (-1 : Int32))) = (0 : Int32) then
        chk x4 1024 (
          if (rd v_fewest x4) = (1 : Int32) then
            (fX3_lengthOf v_length x4).bind (fun r1005 =>
              if r1005 ≤ x3 then
                fX4_longestBits_7 v_usable v_fewest v_length n x2 x3 (x4 + (1 : Int32))
              else
                fX4_longestBits_7 v_usable v_fewest v_length n x4 r1005 (x4 + (1 : Int32)))
          else
            fX4_longestBits_7 v_usable v_fewest v_length n x2 x3 (x4 + (1 : Int32)))
      else
        fX4_longestBits_7 v_usable v_fewest v_length n x2 x3 (x4 + (1 : Int32))
def fX4_longestBits (v_usable : Int32) (v_fewest : Nat → Int32) (v_length : Nat → Int32) : Option (Int32) :=
  fX4_longestBits_7 v_usable v_fewest v_length 2000 (0 : Int32) (0 : Int32) (1 : Int32)
def wdX4_longestBits (cI cZ : ClassId) (q0 : Nat) (q1 : Nat) (q2 : Nat) (q3 : Nat) (d4 : Nat) (d5 : Nat) (d6 : Nat) (d7 : Nat) (d8 : Nat) (d9 : Nat) (d10 : Nat) (d11 : Nat)  (v_usable : Int32) (v_fewest : Nat → Int32) (v_length : Nat → Int32) : va_W := [(q0, .inr (4, [.ref d4, .ref q1, .ref d5, .int v_usable])), (q1, .inl (cI, 1024, .inl v_fewest)), (q2, .inr (3, [.ref d6, .ref d7, .ref q3, .ref d8, .ref d9, .ref d10, .ref d11])), (q3, .inl (cI, 10, .inl v_length))]
abbrev rmX4_longestBits : Jvm.Room := { frames := 2, cells := 0, slots := 0, locals := 44 }
theorem hyX4_longestBits : yX4_longestBits.cls ≠ "java/lang/invoke/MethodHandle" ∧ yX4_longestBits.cls ≠ "java/lang/invoke/VarHandle" ∧ (parseMethodDescriptor yX4_longestBits.desc).map (fun d => d.parameters.length) = some 1 := by decide +kernel
set_option maxHeartbeats 4000000 in
set_option maxRecDepth 100000 in
theorem mX4_longestBits (l : Launch) (D : va_G) (cI cZ : ClassId) (q0 : Nat) (q1 : Nat) (q2 : Nat) (q3 : Nat) (d4 : Nat) (d5 : Nat) (d6 : Nat) (d7 : Nat) (d8 : Nat) (d9 : Nat) (d10 : Nat) (d11 : Nat) (v_usable : Int32) (v_fewest : Nat → Int32) (v_length : Nat → Int32) (z : Int32) (hF : fX4_longestBits v_usable v_fewest v_length = some z) : mp l yX4_longestBits wtX4_longestBits rmX4_longestBits D cI cZ [.ref q0, .ref q2] (wdX4_longestBits cI cZ q0 q1 q2 q3 d4 d5 d6 d7 d8 d9 d10 d11 v_usable v_fewest v_length) (some (.int z)) (wdX4_longestBits cI cZ q0 q1 q2 q3 d4 d5 d6 d7 d8 d9 d10 d11 v_usable v_fewest v_length) := by
  refine mp_i (lv0 := [(0, .ref q0), (1, .ref q2)]) cX4_longestBits 6 z (by decide) rfl (Nat.le_of_ble_eq_true rfl) rfl (fun E h hend0 => ?_)
  have hend : ∀ (z' : Int32), some z' = some z → ∀ (pc : Nat) (lv : List (Nat × Value)), decode cX4_longestBits pc = .ok (.ireturn, 1) → G l D E 6 0 0 (wdX4_longestBits cI cZ q0 q1 q2 q3 d4 d5 d6 d7 d8 d9 d10 d11 v_usable v_fewest v_length) pc lv [.int z'] := fun z' e => by cases e; exact hend0
  clear hend0
  have hL7 : ∀ (n7 : Nat) (x2 : Int32) (x3 : Int32) (x4 : Int32), fX4_longestBits_7 v_usable v_fewest v_length n7 x2 x3 x4 = some z → G l D E 6 0 0 (wdX4_longestBits cI cZ q0 q1 q2 q3 d4 d5 d6 d7 d8 d9 d10 d11 v_usable v_fewest v_length) 7 [(0, .ref q0), (1, .ref q2), (2, .int x2), (3, .int x3), (4, .int x4)] [] := by
    intro n7
    induction n7 with
    | zero =>
      intro x2 x3 x4 hF
      rw [fX4_longestBits_7] at hF
      cases hF
    | succ n7 ih7 =>
      intro x2 x3 x4 hF
      rw [fX4_longestBits_7] at hF
      refine g_iload (np := 9) h 4 rfl dX4_longestBits_7 rfl ?_
      refine g_aload_n (np := 10) h 0 rfl rfl dX4_longestBits_9 rfl ?_
      refine g_get (np := 13) (T := TX4) h imX4_longestBits_u_X4 0 4 rfl rfl 1 (by decide) (imX4_longestBits_own _ (List.mem_of_getElem? (i := 0) rfl)) rfl dX4_longestBits_10 rfl ?_
      refine g_alen (np := 14) (v := (1024 : Int32)) h 1 rfl (by decide) dX4_longestBits_13 rfl ?_
      refine g_icmp_ge h hF dX4_longestBits_14 (np := 17) rfl (tg := 69) rfl (fun c1001 hF => ?_) (fun c1001 hF => ?_)
      · refine g_iload_n (np := 70) h 2 rfl rfl dX4_longestBits_69 rfl ?_
        exact hend _ hF _ _ dX4_longestBits_70
      · refine g_iload (np := 19) h 4 rfl dX4_longestBits_17 rfl ?_
        refine g_aload_n (np := 20) h 0 rfl rfl dX4_longestBits_19 rfl ?_
        refine g_get (np := 23) (T := TX4) h imX4_longestBits_u_X4 0 4 rfl rfl 3 (by decide) (imX4_longestBits_own _ (List.mem_of_getElem? (i := 1) rfl)) rfl dX4_longestBits_20 rfl ?_
        refine g_iconst (np := 24) (v := (-1 : Int32)) h (by decide) dX4_longestBits_23 rfl ?_
        refine g_ixor (np := 25) h dX4_longestBits_24 rfl ?_
        refine g_iand (np := 26) h dX4_longestBits_25 rfl ?_
        refine g_if_ne h hF dX4_longestBits_26 (np := 29) rfl (tg := 63) rfl (fun c1002 hF => ?_) (fun c1002 hF => ?_)
        · refine g_iinc (np := 66) (v := (x4 + (1 : Int32))) (lv' := [(4, .int (x4 + (1 : Int32))), (0, .ref q0), (1, .ref q2), (2, .int x2), (3, .int x3)]) h 4 rfl rfl (by decide) rfl dX4_longestBits_63 rfl ?_
          refine g_goto h dX4_longestBits_66 (np := 7) rfl ?_
          refine g_lv [1, 2, 3, 4, 0] rfl ?_
          exact ih7 x2 x3 (x4 + (1 : Int32)) hF
        · refine g_aload_n (np := 30) h 0 rfl rfl dX4_longestBits_29 rfl ?_
          refine g_get (np := 33) (T := TX4) h imX4_longestBits_u_X4 0 4 rfl rfl 1 (by decide) (imX4_longestBits_own _ (List.mem_of_getElem? (i := 0) rfl)) rfl dX4_longestBits_30 rfl ?_
          refine g_iload (np := 35) h 4 rfl dX4_longestBits_33 rfl ?_
          refine g_iald (np := 36) h 1 rfl hF dX4_longestBits_35 rfl (fun hi1003 hF => ?_)
          refine g_iconst (np := 37) (v := (1 : Int32)) h (by decide) dX4_longestBits_36 rfl ?_
          refine g_icmp_eq h hF dX4_longestBits_37 (np := 40) rfl (tg := 43) rfl (fun c1004 hF => ?_) (fun c1004 hF => ?_)
          · refine g_aload_n (np := 44) h 1 rfl rfl dX4_longestBits_43 rfl ?_
            refine g_iload (np := 46) h 4 rfl dX4_longestBits_44 rfl ?_
            obtain ⟨r1005, hr1005, hF⟩ := Option.bind_eq_some_iff.mp hF
            refine g_callV (np := 49) (Wd' := (wdX4_longestBits cI cZ q0 q1 q2 q3 d4 d5 d6 d7 d8 d9 d10 d11 v_usable v_fewest v_length)) (As := [.int x4]) h (mX3_lengthOf l D cI cZ q2 q3 d6 d7 d8 d9 d10 d11 v_length x4 r1005 hr1005) gcX4_longestBits_X3_lengthOf rfl ⟨rfl, rfl⟩ ⟨rfl, hyX3_lengthOf⟩ rfl 3 2 rfl rfl rfl rfl rfl rfl ⟨Nat.zero_le _, Nat.zero_le _⟩ [2, 3] [0, 1] (N := 4) (by decide +kernel) rfl rfl rfl rfl rfl dX4_longestBits_46 rfl ?_
            refine g_istore (np := 51) (lv' := [(5, .int r1005), (0, .ref q0), (1, .ref q2), (2, .int x2), (3, .int x3), (4, .int x4)]) h (by decide) rfl dX4_longestBits_49 rfl ?_
            refine g_iload (np := 53) h 0 rfl dX4_longestBits_51 rfl ?_
            refine g_iload_n (np := 54) h 4 rfl rfl dX4_longestBits_53 rfl ?_
            refine g_icmp_le h hF dX4_longestBits_54 (np := 57) rfl (tg := 63) rfl (fun c1006 hF => ?_) (fun c1006 hF => ?_)
            · refine g_iinc (np := 66) (v := (x4 + (1 : Int32))) (lv' := [(4, .int (x4 + (1 : Int32))), (5, .int r1005), (0, .ref q0), (1, .ref q2), (2, .int x2), (3, .int x3)]) h 5 rfl rfl (by decide) rfl dX4_longestBits_63 rfl ?_
              refine g_goto h dX4_longestBits_66 (np := 7) rfl ?_
              refine g_lv [2, 3, 4, 5, 0] rfl ?_
              exact ih7 x2 x3 (x4 + (1 : Int32)) hF
            · refine g_iload (np := 59) h 0 rfl dX4_longestBits_57 rfl ?_
              refine g_istore_n (np := 60) (lv' := [(3, .int r1005), (5, .int r1005), (0, .ref q0), (1, .ref q2), (2, .int x2), (4, .int x4)]) h rfl (by decide) rfl dX4_longestBits_59 rfl ?_
              refine g_iload (np := 62) h 5 rfl dX4_longestBits_60 rfl ?_
              refine g_istore_n (np := 63) (lv' := [(2, .int x4), (3, .int r1005), (5, .int r1005), (0, .ref q0), (1, .ref q2), (4, .int x4)]) h rfl (by decide) rfl dX4_longestBits_62 rfl ?_
              refine g_iinc (np := 66) (v := (x4 + (1 : Int32))) (lv' := [(4, .int (x4 + (1 : Int32))), (2, .int x4), (3, .int r1005), (5, .int r1005), (0, .ref q0), (1, .ref q2)]) h 5 rfl rfl (by decide) rfl dX4_longestBits_63 rfl ?_
              refine g_goto h dX4_longestBits_66 (np := 7) rfl ?_
              refine g_lv [4, 5, 1, 2, 0] rfl ?_
              exact ih7 x4 r1005 (x4 + (1 : Int32)) hF
          · refine g_goto h dX4_longestBits_40 (np := 63) rfl ?_
            refine g_iinc (np := 66) (v := (x4 + (1 : Int32))) (lv' := [(4, .int (x4 + (1 : Int32))), (0, .ref q0), (1, .ref q2), (2, .int x2), (3, .int x3)]) h 4 rfl rfl (by decide) rfl dX4_longestBits_63 rfl ?_
            refine g_goto h dX4_longestBits_66 (np := 7) rfl ?_
            refine g_lv [1, 2, 3, 4, 0] rfl ?_
            exact ih7 x2 x3 (x4 + (1 : Int32)) hF
  unfold fX4_longestBits at hF
  refine g_iconst (np := 1) (v := (0 : Int32)) h (by decide) dX4_longestBits_0 rfl ?_
  refine g_istore_n (np := 2) (lv' := [(2, .int (0 : Int32)), (0, .ref q0), (1, .ref q2)]) h rfl (by decide) rfl dX4_longestBits_1 rfl ?_
  refine g_iconst (np := 3) (v := (0 : Int32)) h (by decide) dX4_longestBits_2 rfl ?_
  refine g_istore_n (np := 4) (lv' := [(3, .int (0 : Int32)), (2, .int (0 : Int32)), (0, .ref q0), (1, .ref q2)]) h rfl (by decide) rfl dX4_longestBits_3 rfl ?_
  refine g_iconst (np := 5) (v := (1 : Int32)) h (by decide) dX4_longestBits_4 rfl ?_
  refine g_istore (np := 7) (lv' := [(4, .int (1 : Int32)), (3, .int (0 : Int32)), (2, .int (0 : Int32)), (0, .ref q0), (1, .ref q2)]) h (by decide) rfl dX4_longestBits_5 rfl ?_
  refine g_lv [3, 4, 2, 1, 0] rfl ?_
  exact hL7 _ (0 : Int32) (0 : Int32) (1 : Int32) hF
theorem dX1_lowest_0 : decode cX1_lowest 0 = .ok (.iconst 0, 1) := by decide +kernel
theorem dX1_lowest_1 : decode cX1_lowest 1 = .ok (.istore_n 1, 1) := by decide +kernel
theorem dX1_lowest_2 : decode cX1_lowest 2 = .ok (.iload_n 1, 1) := by decide +kernel
theorem dX1_lowest_3 : decode cX1_lowest 3 = .ok (.bipush 8, 2) := by decide +kernel
theorem dX1_lowest_5 : decode cX1_lowest 5 = .ok (.if_icmp .ge 19, 3) := by decide +kernel
theorem dX1_lowest_8 : decode cX1_lowest 8 = .ok (.iload_n 0, 1) := by decide +kernel
theorem dX1_lowest_9 : decode cX1_lowest 9 = .ok (.iload_n 1, 1) := by decide +kernel
theorem dX1_lowest_10 : decode cX1_lowest 10 = .ok (.invokestatic 43, 3) := by decide +kernel
theorem dX1_lowest_13 : decode cX1_lowest 13 = .ok (.ifCond .eq 5, 3) := by decide +kernel
theorem dX1_lowest_16 : decode cX1_lowest 16 = .ok (.iload_n 1, 1) := by decide +kernel
theorem dX1_lowest_17 : decode cX1_lowest 17 = .ok (.ireturn, 1) := by decide +kernel
theorem dX1_lowest_18 : decode cX1_lowest 18 = .ok (.iinc 1 1, 3) := by decide +kernel
theorem dX1_lowest_21 : decode cX1_lowest 21 = .ok (.goto (-19), 3) := by decide +kernel
theorem dX1_lowest_24 : decode cX1_lowest 24 = .ok (.iconst 0, 1) := by decide +kernel
theorem dX1_lowest_25 : decode cX1_lowest 25 = .ok (.ireturn, 1) := by decide +kernel
def wtX1_lowest : List Cond := .code yX1_lowest cX1_lowest 2 (some .int) :: (([.static yX8_has, .initialized RX8]) ++ ((wtX8_has) ++ []))
theorem imX1_lowest_own : ∀ w ∈ ([.static yX8_has, .initialized RX8] : List Cond), w ∈ wtX1_lowest := fun w h => List.mem_cons_of_mem _ (inl h)
theorem imX1_lowest_c_X8_has : ∀ w ∈ (wtX8_has : List Cond), w ∈ wtX1_lowest := fun w h => List.mem_cons_of_mem _ (inr (inl h))
theorem gdX1_lowest : ∀ w ∈ wtX1_lowest, Gd w := gdc rfl (gda (gdl (by decide +kernel)) (gda gdX8_has gdn))
theorem gcX1_lowest_X8_has : GoodIn wtX1_lowest (wtX8_has) := fun w h => ⟨imX1_lowest_c_X8_has w h, gdX8_has w h⟩
def fX1_lowest_2 (x0 : Int32) : Nat → Int32 → Option (Int32)
  | 0, _ => none
  | n + 1, x1 =>
    if (8 : Int32) ≤ x1 then
      some (0 : Int32)
    else
      (fX8_has x0 x1).bind (fun r1002 =>
        if r1002 = (0 : Int32) then
          fX1_lowest_2 x0 n (x1 + (1 : Int32))
        else
          some x1)
def fX1_lowest (x0 : Int32) : Option (Int32) :=
  fX1_lowest_2 x0 2000 (0 : Int32)
def wdX1_lowest (cI cZ : ClassId)    : va_W := []
abbrev rmX1_lowest : Jvm.Room := { frames := 1, cells := 0, slots := 0, locals := 21 }
theorem hyX1_lowest : yX1_lowest.cls ≠ "java/lang/invoke/MethodHandle" ∧ yX1_lowest.cls ≠ "java/lang/invoke/VarHandle" ∧ (parseMethodDescriptor yX1_lowest.desc).map (fun d => d.parameters.length) = some 1 := by decide +kernel
set_option maxHeartbeats 4000000 in
set_option maxRecDepth 100000 in
theorem mX1_lowest (l : Launch) (D : va_G) (cI cZ : ClassId) (x0 : Int32) (z : Int32) (hF : fX1_lowest x0 = some z) : mp l yX1_lowest wtX1_lowest rmX1_lowest D cI cZ [.int x0] (wdX1_lowest cI cZ ) (some (.int z)) (wdX1_lowest cI cZ ) := by
  refine mp_i (lv0 := [(0, .int x0)]) cX1_lowest 2 z (by decide) rfl (Nat.le_of_ble_eq_true rfl) rfl (fun E h hend0 => ?_)
  have hend : ∀ (z' : Int32), some z' = some z → ∀ (pc : Nat) (lv : List (Nat × Value)), decode cX1_lowest pc = .ok (.ireturn, 1) → G l D E 2 0 0 (wdX1_lowest cI cZ ) pc lv [.int z'] := fun z' e => by cases e; exact hend0
  clear hend0
  have hL2 : ∀ (n2 : Nat) (x1 : Int32), fX1_lowest_2 x0 n2 x1 = some z → G l D E 2 0 0 (wdX1_lowest cI cZ ) 2 [(0, .int x0), (1, .int x1)] [] := by
    intro n2
    induction n2 with
    | zero =>
      intro x1 hF
      rw [fX1_lowest_2] at hF
      cases hF
    | succ n2 ih2 =>
      intro x1 hF
      rw [fX1_lowest_2] at hF
      refine g_iload_n (np := 3) h 1 rfl rfl dX1_lowest_2 rfl ?_
      refine g_bipush (np := 5) (v := (8 : Int32)) h (by decide) dX1_lowest_3 rfl ?_
      refine g_icmp_ge h hF dX1_lowest_5 (np := 8) rfl (tg := 24) rfl (fun c1001 hF => ?_) (fun c1001 hF => ?_)
      · refine g_iconst (np := 25) (v := (0 : Int32)) h (by decide) dX1_lowest_24 rfl ?_
        exact hend _ hF _ _ dX1_lowest_25
      · refine g_iload_n (np := 9) h 0 rfl rfl dX1_lowest_8 rfl ?_
        refine g_iload_n (np := 10) h 1 rfl rfl dX1_lowest_9 rfl ?_
        obtain ⟨r1002, hr1002, hF⟩ := Option.bind_eq_some_iff.mp hF
        refine g_callN (np := 13) (Wd' := (wdX1_lowest cI cZ )) (As := [.int x0, .int x1]) h (mX8_has l D cI cZ x0 x1 r1002 hr1002) gcX1_lowest_X8_has rfl ⟨rfl, rfl⟩ (List.mem_of_getElem? (i := 24) rfl) (imX1_lowest_own _ (List.mem_of_getElem? (i := 1) rfl)) (imX1_lowest_own _ (List.mem_of_getElem? (i := 0) rfl)) hyX8_has rfl rfl rfl rfl ⟨Nat.zero_le _, Nat.zero_le _⟩ [] [] (N := 0) (by decide +kernel) rfl rfl rfl rfl rfl dX1_lowest_10 rfl ?_
        refine g_if_eq h hF dX1_lowest_13 (np := 16) rfl (tg := 18) rfl (fun c1003 hF => ?_) (fun c1003 hF => ?_)
        · refine g_iinc (np := 21) (v := (x1 + (1 : Int32))) (lv' := [(1, .int (x1 + (1 : Int32))), (0, .int x0)]) h 1 rfl rfl (by decide) rfl dX1_lowest_18 rfl ?_
          refine g_goto h dX1_lowest_21 (np := 2) rfl ?_
          refine g_lv [1, 0] rfl ?_
          exact ih2 (x1 + (1 : Int32)) hF
        · refine g_iload_n (np := 17) h 1 rfl rfl dX1_lowest_16 rfl ?_
          exact hend _ hF _ _ dX1_lowest_17
  unfold fX1_lowest at hF
  refine g_iconst (np := 1) (v := (0 : Int32)) h (by decide) dX1_lowest_0 rfl ?_
  refine g_istore_n (np := 2) (lv' := [(1, .int (0 : Int32)), (0, .int x0)]) h rfl (by decide) rfl dX1_lowest_1 rfl ?_
  refine g_lv [1, 0] rfl ?_
  exact hL2 _ (0 : Int32) hF
theorem dX1_mostOf_0 : decode cX1_mostOf 0 = .ok (.iload_n 1, 1) := by decide +kernel
theorem dX1_mostOf_1 : decode cX1_mostOf 1 = .ok (.invokestatic 50, 3) := by decide +kernel
theorem dX1_mostOf_4 : decode cX1_mostOf 4 = .ok (.istore_n 2, 1) := by decide +kernel
theorem dX1_mostOf_5 : decode cX1_mostOf 5 = .ok (.iload_n 1, 1) := by decide +kernel
theorem dX1_mostOf_6 : decode cX1_mostOf 6 = .ok (.iconst 1, 1) := by decide +kernel
theorem dX1_mostOf_7 : decode cX1_mostOf 7 = .ok (.iload_n 2, 1) := by decide +kernel
theorem dX1_mostOf_8 : decode cX1_mostOf 8 = .ok (.ishl, 1) := by decide +kernel
theorem dX1_mostOf_9 : decode cX1_mostOf 9 = .ok (.iconst (-1), 1) := by decide +kernel
theorem dX1_mostOf_10 : decode cX1_mostOf 10 = .ok (.ixor, 1) := by decide +kernel
theorem dX1_mostOf_11 : decode cX1_mostOf 11 = .ok (.iand, 1) := by decide +kernel
theorem dX1_mostOf_12 : decode cX1_mostOf 12 = .ok (.istore_n 3, 1) := by decide +kernel
theorem dX1_mostOf_13 : decode cX1_mostOf 13 = .ok (.aload_n 0, 1) := by decide +kernel
theorem dX1_mostOf_14 : decode cX1_mostOf 14 = .ok (.getfield 15, 3) := by decide +kernel
theorem dX1_mostOf_17 : decode cX1_mostOf 17 = .ok (.iload_n 3, 1) := by decide +kernel
theorem dX1_mostOf_18 : decode cX1_mostOf 18 = .ok (.invokestatic 35, 3) := by decide +kernel
theorem dX1_mostOf_21 : decode cX1_mostOf 21 = .ok (.istore 4, 2) := by decide +kernel
theorem dX1_mostOf_23 : decode cX1_mostOf 23 = .ok (.iconst 0, 1) := by decide +kernel
theorem dX1_mostOf_24 : decode cX1_mostOf 24 = .ok (.istore 5, 2) := by decide +kernel
theorem dX1_mostOf_26 : decode cX1_mostOf 26 = .ok (.iload 5, 2) := by decide +kernel
theorem dX1_mostOf_28 : decode cX1_mostOf 28 = .ok (.bipush 8, 2) := by decide +kernel
theorem dX1_mostOf_30 : decode cX1_mostOf 30 = .ok (.if_icmp .ge 49, 3) := by decide +kernel
theorem dX1_mostOf_33 : decode cX1_mostOf 33 = .ok (.iload_n 3, 1) := by decide +kernel
theorem dX1_mostOf_34 : decode cX1_mostOf 34 = .ok (.aload_n 0, 1) := by decide +kernel
theorem dX1_mostOf_35 : decode cX1_mostOf 35 = .ok (.getfield 9, 3) := by decide +kernel
theorem dX1_mostOf_38 : decode cX1_mostOf 38 = .ok (.iload_n 2, 1) := by decide +kernel
theorem dX1_mostOf_39 : decode cX1_mostOf 39 = .ok (.invokestatic 35, 3) := by decide +kernel
theorem dX1_mostOf_42 : decode cX1_mostOf 42 = .ok (.iand, 1) := by decide +kernel
theorem dX1_mostOf_43 : decode cX1_mostOf 43 = .ok (.iload 5, 2) := by decide +kernel
theorem dX1_mostOf_45 : decode cX1_mostOf 45 = .ok (.invokestatic 43, 3) := by decide +kernel
theorem dX1_mostOf_48 : decode cX1_mostOf 48 = .ok (.ifCond .eq 25, 3) := by decide +kernel
theorem dX1_mostOf_51 : decode cX1_mostOf 51 = .ok (.iload 4, 2) := by decide +kernel
theorem dX1_mostOf_53 : decode cX1_mostOf 53 = .ok (.iconst 1, 1) := by decide +kernel
theorem dX1_mostOf_54 : decode cX1_mostOf 54 = .ok (.aload_n 0, 1) := by decide +kernel
theorem dX1_mostOf_55 : decode cX1_mostOf 55 = .ok (.getfield 15, 3) := by decide +kernel
theorem dX1_mostOf_58 : decode cX1_mostOf 58 = .ok (.iload_n 3, 1) := by decide +kernel
theorem dX1_mostOf_59 : decode cX1_mostOf 59 = .ok (.iconst 1, 1) := by decide +kernel
theorem dX1_mostOf_60 : decode cX1_mostOf 60 = .ok (.iload 5, 2) := by decide +kernel
theorem dX1_mostOf_62 : decode cX1_mostOf 62 = .ok (.ishl, 1) := by decide +kernel
theorem dX1_mostOf_63 : decode cX1_mostOf 63 = .ok (.ixor, 1) := by decide +kernel
theorem dX1_mostOf_64 : decode cX1_mostOf 64 = .ok (.invokestatic 35, 3) := by decide +kernel
theorem dX1_mostOf_67 : decode cX1_mostOf 67 = .ok (.iadd, 1) := by decide +kernel
theorem dX1_mostOf_68 : decode cX1_mostOf 68 = .ok (.invokestatic 53, 3) := by decide +kernel
theorem dX1_mostOf_71 : decode cX1_mostOf 71 = .ok (.istore 4, 2) := by decide +kernel
theorem dX1_mostOf_73 : decode cX1_mostOf 73 = .ok (.iinc 5 1, 3) := by decide +kernel
theorem dX1_mostOf_76 : decode cX1_mostOf 76 = .ok (.goto (-50), 3) := by decide +kernel
theorem dX1_mostOf_79 : decode cX1_mostOf 79 = .ok (.iload 4, 2) := by decide +kernel
theorem dX1_mostOf_81 : decode cX1_mostOf 81 = .ok (.ireturn, 1) := by decide +kernel
def wtX1_mostOf : List Cond := .code yX1_mostOf cX1_mostOf 6 (some .int) :: (([.fieldLink RX1 15 "DriftKin$Matches" "most" "[I", .static yX8_at, .initialized RX8, .fieldLink RX1 9 "DriftKin$Matches" "might" "[I", .static yX8_has, .methodLink RX1 53 Lib.Math.max.name, .static Lib.Math.max.name, .initialized "java/lang/Math", .code Lib.Math.max.name Lib.Math.max.code 2 (some .int)]) ++ ((u_ws RX1 TX1 4) ++ ((va_wsS RX1 50 yX1_lowest wtX1_lowest) ++ ((wtX8_at) ++ ((wtX8_has) ++ [])))))
theorem imX1_mostOf_own : ∀ w ∈ ([.fieldLink RX1 15 "DriftKin$Matches" "most" "[I", .static yX8_at, .initialized RX8, .fieldLink RX1 9 "DriftKin$Matches" "might" "[I", .static yX8_has, .methodLink RX1 53 Lib.Math.max.name, .static Lib.Math.max.name, .initialized "java/lang/Math", .code Lib.Math.max.name Lib.Math.max.code 2 (some .int)] : List Cond), w ∈ wtX1_mostOf := fun w h => List.mem_cons_of_mem _ (inl h)
theorem imX1_mostOf_u_X1 : ∀ w ∈ (u_ws RX1 TX1 4 : List Cond), w ∈ wtX1_mostOf := fun w h => List.mem_cons_of_mem _ (inr (inl h))
theorem imX1_mostOf_c_X1_lowest : ∀ w ∈ (va_wsS RX1 50 yX1_lowest wtX1_lowest : List Cond), w ∈ wtX1_mostOf := fun w h => List.mem_cons_of_mem _ (inr (inr (inl h)))
theorem imX1_mostOf_c_X8_at : ∀ w ∈ (wtX8_at : List Cond), w ∈ wtX1_mostOf := fun w h => List.mem_cons_of_mem _ (inr (inr (inr (inl h))))
theorem imX1_mostOf_c_X8_has : ∀ w ∈ (wtX8_has : List Cond), w ∈ wtX1_mostOf := fun w h => List.mem_cons_of_mem _ (inr (inr (inr (inr (inl h)))))
theorem gdX1_mostOf : ∀ w ∈ wtX1_mostOf, Gd w := gdc rfl (gda (gdl (by decide +kernel)) (gda (gdu _ _ _) (gda (gda (gdl (by decide +kernel)) gdX1_lowest) (gda gdX8_at (gda gdX8_has gdn)))))
theorem gcX1_mostOf_X1_lowest : GoodIn wtX1_mostOf (va_wsS RX1 50 yX1_lowest wtX1_lowest) := fun w h => ⟨imX1_mostOf_c_X1_lowest w h, (gda (gdl (by decide +kernel)) gdX1_lowest) w h⟩
theorem gcX1_mostOf_X8_at : GoodIn wtX1_mostOf (wtX8_at) := fun w h => ⟨imX1_mostOf_c_X8_at w h, gdX8_at w h⟩
theorem gcX1_mostOf_X8_has : GoodIn wtX1_mostOf (wtX8_has) := fun w h => ⟨imX1_mostOf_c_X8_has w h, gdX8_has w h⟩
def fX1_mostOf_26 (v_might : Nat → Int32) (v_most : Nat → Int32) (x2 : Int32) (x3 : Int32) : Nat → Int32 → Int32 → Option (Int32)
  | 0, _, _ => none
  | n + 1, x4, x5 =>
    if (8 : Int32) ≤ x5 then
      some x4
    else
      (fX8_at 8 v_might x2).bind (fun r1002 =>
        (fX8_has (x3 &&& r1002) x5).bind (fun r1003 =>
          if r1003 = (0 : Int32) then
            fX1_mostOf_26 v_might v_most x2 x3 n x4 (x5 + (1 : Int32))
          else
            (fX8_at 256 v_most (x3 ^^^ (jshl (1 : Int32) x5))).bind (fun r1005 =>
              fX1_mostOf_26 v_might v_most x2 x3 n (jmax x4 ((1 : Int32) + r1005)) (x5 + (1 : Int32)))))
def fX1_mostOf (v_might : Nat → Int32) (v_most : Nat → Int32) (x1 : Int32) : Option (Int32) :=
  (fX1_lowest x1).bind (fun r1 =>
    (fX8_at 256 v_most (x1 &&& ((jshl (1 : Int32) r1) ^^^ (-1 : Int32)))).bind (fun r2 =>
      fX1_mostOf_26 v_might v_most r1 (x1 &&& ((jshl (1 : Int32) r1) ^^^ (-1 : Int32))) 2000 r2 (0 : Int32)))
def wdX1_mostOf (cI cZ : ClassId) (q0 : Nat) (q1 : Nat) (q2 : Nat) (d3 : Nat)  (v_might : Nat → Int32) (v_most : Nat → Int32) (v_count : Int32) : va_W := [(q0, .inr (1, [.ref q1, .ref q2, .ref d3, .int v_count])), (q1, .inl (cI, 8, .inl v_might)), (q2, .inl (cI, 256, .inl v_most))]
abbrev rmX1_mostOf : Jvm.Room := { frames := 2, cells := 0, slots := 0, locals := 42 }
theorem hyX1_mostOf : yX1_mostOf.cls ≠ "java/lang/invoke/MethodHandle" ∧ yX1_mostOf.cls ≠ "java/lang/invoke/VarHandle" ∧ (parseMethodDescriptor yX1_mostOf.desc).map (fun d => d.parameters.length) = some 1 := by decide +kernel
set_option maxHeartbeats 4000000 in
set_option maxRecDepth 100000 in
theorem mX1_mostOf (l : Launch) (D : va_G) (cI cZ : ClassId) (q0 : Nat) (q1 : Nat) (q2 : Nat) (d3 : Nat) (v_might : Nat → Int32) (v_most : Nat → Int32) (v_count : Int32) (x1 : Int32) (z : Int32) (hF : fX1_mostOf v_might v_most x1 = some z) : mp l yX1_mostOf wtX1_mostOf rmX1_mostOf D cI cZ [.ref q0, .int x1] (wdX1_mostOf cI cZ q0 q1 q2 d3 v_might v_most v_count) (some (.int z)) (wdX1_mostOf cI cZ q0 q1 q2 d3 v_might v_most v_count) := by
  refine mp_i (lv0 := [(0, .ref q0), (1, .int x1)]) cX1_mostOf 6 z (by decide) rfl (Nat.le_of_ble_eq_true rfl) rfl (fun E h hend0 => ?_)
  have hend : ∀ (z' : Int32), some z' = some z → ∀ (pc : Nat) (lv : List (Nat × Value)), decode cX1_mostOf pc = .ok (.ireturn, 1) → G l D E 6 0 0 (wdX1_mostOf cI cZ q0 q1 q2 d3 v_might v_most v_count) pc lv [.int z'] := fun z' e => by cases e; exact hend0
  clear hend0
  have hL26 : ∀ (n26 : Nat) (x2 : Int32) (x3 : Int32) (x4 : Int32) (x5 : Int32), fX1_mostOf_26 v_might v_most x2 x3 n26 x4 x5 = some z → G l D E 6 0 0 (wdX1_mostOf cI cZ q0 q1 q2 d3 v_might v_most v_count) 26 [(0, .ref q0), (2, .int x2), (3, .int x3), (4, .int x4), (5, .int x5)] [] := by
    intro n26
    induction n26 with
    | zero =>
      intro x2 x3 x4 x5 hF
      rw [fX1_mostOf_26] at hF
      cases hF
    | succ n26 ih26 =>
      intro x2 x3 x4 x5 hF
      rw [fX1_mostOf_26] at hF
      refine g_iload (np := 28) h 4 rfl dX1_mostOf_26 rfl ?_
      refine g_bipush (np := 30) (v := (8 : Int32)) h (by decide) dX1_mostOf_28 rfl ?_
      refine g_icmp_ge h hF dX1_mostOf_30 (np := 33) rfl (tg := 79) rfl (fun c1001 hF => ?_) (fun c1001 hF => ?_)
      · refine g_iload (np := 81) h 3 rfl dX1_mostOf_79 rfl ?_
        exact hend _ hF _ _ dX1_mostOf_81
      · refine g_iload_n (np := 34) h 2 rfl rfl dX1_mostOf_33 rfl ?_
        refine g_aload_n (np := 35) h 0 rfl rfl dX1_mostOf_34 rfl ?_
        refine g_get (np := 38) (T := TX1) h imX1_mostOf_u_X1 0 1 rfl rfl 0 (by decide) (imX1_mostOf_own _ (List.mem_of_getElem? (i := 3) rfl)) rfl dX1_mostOf_35 rfl ?_
        refine g_iload_n (np := 39) h 1 rfl rfl dX1_mostOf_38 rfl ?_
        obtain ⟨r1002, hr1002, hF⟩ := Option.bind_eq_some_iff.mp hF
        refine g_callN (np := 42) (Wd' := (wdX1_mostOf cI cZ q0 q1 q2 d3 v_might v_most v_count)) (As := [.ref q1, .int x2]) h (mX8_at l D cI cZ q1 8 v_might x2 r1002 hr1002) gcX1_mostOf_X8_at rfl ⟨rfl, rfl⟩ (List.mem_of_getElem? (i := 25) rfl) (imX1_mostOf_own _ (List.mem_of_getElem? (i := 2) rfl)) (imX1_mostOf_own _ (List.mem_of_getElem? (i := 1) rfl)) hyX8_at rfl rfl rfl rfl ⟨Nat.zero_le _, Nat.zero_le _⟩ [1] [0, 2] (N := 3) (by decide +kernel) rfl rfl rfl rfl rfl dX1_mostOf_39 rfl ?_
        refine g_iand (np := 43) h dX1_mostOf_42 rfl ?_
        refine g_iload (np := 45) h 4 rfl dX1_mostOf_43 rfl ?_
        obtain ⟨r1003, hr1003, hF⟩ := Option.bind_eq_some_iff.mp hF
        refine g_callN (np := 48) (Wd' := (wdX1_mostOf cI cZ q0 q1 q2 d3 v_might v_most v_count)) (As := [.int (x3 &&& r1002), .int x5]) h (mX8_has l D cI cZ (x3 &&& r1002) x5 r1003 hr1003) gcX1_mostOf_X8_has rfl ⟨rfl, rfl⟩ (List.mem_of_getElem? (i := 24) rfl) (imX1_mostOf_own _ (List.mem_of_getElem? (i := 2) rfl)) (imX1_mostOf_own _ (List.mem_of_getElem? (i := 4) rfl)) hyX8_has rfl rfl rfl rfl ⟨Nat.zero_le _, Nat.zero_le _⟩ [] [0, 1, 2] (N := 3) (by decide +kernel) rfl rfl rfl rfl rfl dX1_mostOf_45 rfl ?_
        refine g_if_eq h hF dX1_mostOf_48 (np := 51) rfl (tg := 73) rfl (fun c1004 hF => ?_) (fun c1004 hF => ?_)
        · refine g_iinc (np := 76) (v := (x5 + (1 : Int32))) (lv' := [(5, .int (x5 + (1 : Int32))), (0, .ref q0), (2, .int x2), (3, .int x3), (4, .int x4)]) h 4 rfl rfl (by decide) rfl dX1_mostOf_73 rfl ?_
          refine g_goto h dX1_mostOf_76 (np := 26) rfl ?_
          refine g_lv [1, 2, 3, 4, 0] rfl ?_
          exact ih26 x2 x3 x4 (x5 + (1 : Int32)) hF
        · refine g_iload (np := 53) h 3 rfl dX1_mostOf_51 rfl ?_
          refine g_iconst (np := 54) (v := (1 : Int32)) h (by decide) dX1_mostOf_53 rfl ?_
          refine g_aload_n (np := 55) h 0 rfl rfl dX1_mostOf_54 rfl ?_
          refine g_get (np := 58) (T := TX1) h imX1_mostOf_u_X1 0 1 rfl rfl 1 (by decide) (imX1_mostOf_own _ (List.mem_of_getElem? (i := 0) rfl)) rfl dX1_mostOf_55 rfl ?_
          refine g_iload_n (np := 59) h 2 rfl rfl dX1_mostOf_58 rfl ?_
          refine g_iconst (np := 60) (v := (1 : Int32)) h (by decide) dX1_mostOf_59 rfl ?_
          refine g_iload (np := 62) h 4 rfl dX1_mostOf_60 rfl ?_
          refine g_ishl (np := 63) h dX1_mostOf_62 rfl ?_
          refine g_ixor (np := 64) h dX1_mostOf_63 rfl ?_
          obtain ⟨r1005, hr1005, hF⟩ := Option.bind_eq_some_iff.mp hF
          refine g_callN (np := 67) (Wd' := (wdX1_mostOf cI cZ q0 q1 q2 d3 v_might v_most v_count)) (As := [.ref q2, .int (x3 ^^^ (jshl (1 : Int32) x5))]) h (mX8_at l D cI cZ q2 256 v_most (x3 ^^^ (jshl (1 : Int32) x5)) r1005 hr1005) gcX1_mostOf_X8_at rfl ⟨rfl, rfl⟩ (List.mem_of_getElem? (i := 25) rfl) (imX1_mostOf_own _ (List.mem_of_getElem? (i := 2) rfl)) (imX1_mostOf_own _ (List.mem_of_getElem? (i := 1) rfl)) hyX8_at rfl rfl rfl rfl ⟨Nat.zero_le _, Nat.zero_le _⟩ [2] [0, 1] (N := 3) (by decide +kernel) rfl rfl rfl rfl rfl dX1_mostOf_64 rfl ?_
          refine g_iadd (np := 68) h dX1_mostOf_67 rfl ?_
          refine g_mmax (np := 71) h (imX1_mostOf_own _ (List.mem_of_getElem? (i := 5) rfl)) (imX1_mostOf_own _ (List.mem_of_getElem? (i := 6) rfl)) (imX1_mostOf_own _ (List.mem_of_getElem? (i := 7) rfl)) (imX1_mostOf_own _ (List.mem_of_getElem? (i := 8) rfl)) rfl rfl ⟨Nat.zero_le _, Nat.zero_le _⟩ dX1_mostOf_68 rfl ?_
          refine g_istore (np := 73) (lv' := [(4, .int (jmax x4 ((1 : Int32) + r1005))), (0, .ref q0), (2, .int x2), (3, .int x3), (5, .int x5)]) h (by decide) rfl dX1_mostOf_71 rfl ?_
          refine g_iinc (np := 76) (v := (x5 + (1 : Int32))) (lv' := [(5, .int (x5 + (1 : Int32))), (4, .int (jmax x4 ((1 : Int32) + r1005))), (0, .ref q0), (2, .int x2), (3, .int x3)]) h 4 rfl rfl (by decide) rfl dX1_mostOf_73 rfl ?_
          refine g_goto h dX1_mostOf_76 (np := 26) rfl ?_
          refine g_lv [2, 3, 4, 1, 0] rfl ?_
          exact ih26 x2 x3 (jmax x4 ((1 : Int32) + r1005)) (x5 + (1 : Int32)) hF
  unfold fX1_mostOf at hF
  refine g_iload_n (np := 1) h 1 rfl rfl dX1_mostOf_0 rfl ?_
  obtain ⟨r1, hr1, hF⟩ := Option.bind_eq_some_iff.mp hF
  refine g_callS (np := 4) (Wd' := (wdX1_mostOf cI cZ q0 q1 q2 d3 v_might v_most v_count)) (As := [.int x1]) h (mX1_lowest l D cI cZ x1 r1 hr1) gcX1_mostOf_X1_lowest rfl ⟨rfl, rfl⟩ hyX1_lowest rfl rfl rfl rfl ⟨Nat.zero_le _, Nat.zero_le _⟩ [] [0, 1, 2] (N := 3) (by decide +kernel) rfl rfl rfl rfl rfl dX1_mostOf_1 rfl ?_
  refine g_istore_n (np := 5) (lv' := [(2, .int r1), (0, .ref q0), (1, .int x1)]) h rfl (by decide) rfl dX1_mostOf_4 rfl ?_
  refine g_iload_n (np := 6) h 2 rfl rfl dX1_mostOf_5 rfl ?_
  refine g_iconst (np := 7) (v := (1 : Int32)) h (by decide) dX1_mostOf_6 rfl ?_
  refine g_iload_n (np := 8) h 0 rfl rfl dX1_mostOf_7 rfl ?_
  refine g_ishl (np := 9) h dX1_mostOf_8 rfl ?_
  refine g_iconst (np := 10) (v := (-1 : Int32)) h (by decide) dX1_mostOf_9 rfl ?_
  refine g_ixor (np := 11) h dX1_mostOf_10 rfl ?_
  refine g_iand (np := 12) h dX1_mostOf_11 rfl ?_
  refine g_istore_n (np := 13) (lv' := [(3, .int (x1 &&& ((jshl (1 : Int32) r1) ^^^ (-1 : Int32)))), (2, .int r1), (0, .ref q0), (1, .int x1)]) h rfl (by decide) rfl dX1_mostOf_12 rfl ?_
  refine g_aload_n (np := 14) h 2 rfl rfl dX1_mostOf_13 rfl ?_
  refine g_get (np := 17) (T := TX1) h imX1_mostOf_u_X1 0 1 rfl rfl 1 (by decide) (imX1_mostOf_own _ (List.mem_of_getElem? (i := 0) rfl)) rfl dX1_mostOf_14 rfl ?_
  refine g_iload_n (np := 18) h 0 rfl rfl dX1_mostOf_17 rfl ?_
  obtain ⟨r2, hr2, hF⟩ := Option.bind_eq_some_iff.mp hF
  refine g_callN (np := 21) (Wd' := (wdX1_mostOf cI cZ q0 q1 q2 d3 v_might v_most v_count)) (As := [.ref q2, .int (x1 &&& ((jshl (1 : Int32) r1) ^^^ (-1 : Int32)))]) h (mX8_at l D cI cZ q2 256 v_most (x1 &&& ((jshl (1 : Int32) r1) ^^^ (-1 : Int32))) r2 hr2) gcX1_mostOf_X8_at rfl ⟨rfl, rfl⟩ (List.mem_of_getElem? (i := 25) rfl) (imX1_mostOf_own _ (List.mem_of_getElem? (i := 2) rfl)) (imX1_mostOf_own _ (List.mem_of_getElem? (i := 1) rfl)) hyX8_at rfl rfl rfl rfl ⟨Nat.zero_le _, Nat.zero_le _⟩ [2] [0, 1] (N := 3) (by decide +kernel) rfl rfl rfl rfl rfl dX1_mostOf_18 rfl ?_
  refine g_istore (np := 23) (lv' := [(4, .int r2), (3, .int (x1 &&& ((jshl (1 : Int32) r1) ^^^ (-1 : Int32)))), (2, .int r1), (0, .ref q0), (1, .int x1)]) h (by decide) rfl dX1_mostOf_21 rfl ?_
  refine g_iconst (np := 24) (v := (0 : Int32)) h (by decide) dX1_mostOf_23 rfl ?_
  refine g_istore (np := 26) (lv' := [(5, .int (0 : Int32)), (4, .int r2), (3, .int (x1 &&& ((jshl (1 : Int32) r1) ^^^ (-1 : Int32)))), (2, .int r1), (0, .ref q0), (1, .int x1)]) h (by decide) rfl dX1_mostOf_24 rfl ?_
  refine g_lv [4, 3, 2, 1, 0] rfl ?_
  exact hL26 _ r1 (x1 &&& ((jshl (1 : Int32) r1) ^^^ (-1 : Int32))) r2 (0 : Int32) hF
theorem dX1_settle_0 : decode cX1_settle 0 = .ok (.iload_n 1, 1) := by decide +kernel
theorem dX1_settle_1 : decode cX1_settle 1 = .ok (.iconst 1, 1) := by decide +kernel
theorem dX1_settle_2 : decode cX1_settle 2 = .ok (.iload_n 2, 1) := by decide +kernel
theorem dX1_settle_3 : decode cX1_settle 3 = .ok (.ishl, 1) := by decide +kernel
theorem dX1_settle_4 : decode cX1_settle 4 = .ok (.ixor, 1) := by decide +kernel
theorem dX1_settle_5 : decode cX1_settle 5 = .ok (.istore_n 3, 1) := by decide +kernel
theorem dX1_settle_6 : decode cX1_settle 6 = .ok (.iconst 0, 1) := by decide +kernel
theorem dX1_settle_7 : decode cX1_settle 7 = .ok (.istore 4, 2) := by decide +kernel
theorem dX1_settle_9 : decode cX1_settle 9 = .ok (.iload 4, 2) := by decide +kernel
theorem dX1_settle_11 : decode cX1_settle 11 = .ok (.bipush 8, 2) := by decide +kernel
theorem dX1_settle_13 : decode cX1_settle 13 = .ok (.if_icmp .ge 86, 3) := by decide +kernel
theorem dX1_settle_16 : decode cX1_settle 16 = .ok (.iload_n 3, 1) := by decide +kernel
theorem dX1_settle_17 : decode cX1_settle 17 = .ok (.aload_n 0, 1) := by decide +kernel
theorem dX1_settle_18 : decode cX1_settle 18 = .ok (.getfield 9, 3) := by decide +kernel
theorem dX1_settle_21 : decode cX1_settle 21 = .ok (.iload_n 2, 1) := by decide +kernel
theorem dX1_settle_22 : decode cX1_settle 22 = .ok (.invokestatic 35, 3) := by decide +kernel
theorem dX1_settle_25 : decode cX1_settle 25 = .ok (.iand, 1) := by decide +kernel
theorem dX1_settle_26 : decode cX1_settle 26 = .ok (.iload 4, 2) := by decide +kernel
theorem dX1_settle_28 : decode cX1_settle 28 = .ok (.invokestatic 43, 3) := by decide +kernel
theorem dX1_settle_31 : decode cX1_settle 31 = .ok (.ifCond .ne 6, 3) := by decide +kernel
theorem dX1_settle_34 : decode cX1_settle 34 = .ok (.goto 59, 3) := by decide +kernel
theorem dX1_settle_37 : decode cX1_settle 37 = .ok (.iconst 1, 1) := by decide +kernel
theorem dX1_settle_38 : decode cX1_settle 38 = .ok (.aload_n 0, 1) := by decide +kernel
theorem dX1_settle_39 : decode cX1_settle 39 = .ok (.getfield 15, 3) := by decide +kernel
theorem dX1_settle_42 : decode cX1_settle 42 = .ok (.iload_n 3, 1) := by decide +kernel
theorem dX1_settle_43 : decode cX1_settle 43 = .ok (.iconst 1, 1) := by decide +kernel
theorem dX1_settle_44 : decode cX1_settle 44 = .ok (.iload 4, 2) := by decide +kernel
theorem dX1_settle_46 : decode cX1_settle 46 = .ok (.ishl, 1) := by decide +kernel
theorem dX1_settle_47 : decode cX1_settle 47 = .ok (.ixor, 1) := by decide +kernel
theorem dX1_settle_48 : decode cX1_settle 48 = .ok (.invokestatic 35, 3) := by decide +kernel
theorem dX1_settle_51 : decode cX1_settle 51 = .ok (.iadd, 1) := by decide +kernel
theorem dX1_settle_52 : decode cX1_settle 52 = .ok (.aload_n 0, 1) := by decide +kernel
theorem dX1_settle_53 : decode cX1_settle 53 = .ok (.getfield 15, 3) := by decide +kernel
theorem dX1_settle_56 : decode cX1_settle 56 = .ok (.iload_n 1, 1) := by decide +kernel
theorem dX1_settle_57 : decode cX1_settle 57 = .ok (.invokestatic 35, 3) := by decide +kernel
theorem dX1_settle_60 : decode cX1_settle 60 = .ok (.if_icmp .ge 6, 3) := by decide +kernel
theorem dX1_settle_63 : decode cX1_settle 63 = .ok (.goto 30, 3) := by decide +kernel
theorem dX1_settle_66 : decode cX1_settle 66 = .ok (.aload_n 0, 1) := by decide +kernel
theorem dX1_settle_67 : decode cX1_settle 67 = .ok (.getfield 18, 3) := by decide +kernel
theorem dX1_settle_70 : decode cX1_settle 70 = .ok (.iload_n 2, 1) := by decide +kernel
theorem dX1_settle_71 : decode cX1_settle 71 = .ok (.iload 4, 2) := by decide +kernel
theorem dX1_settle_73 : decode cX1_settle 73 = .ok (.invokestatic 58, 3) := by decide +kernel
theorem dX1_settle_76 : decode cX1_settle 76 = .ok (.aload_n 0, 1) := by decide +kernel
theorem dX1_settle_77 : decode cX1_settle 77 = .ok (.getfield 18, 3) := by decide +kernel
theorem dX1_settle_80 : decode cX1_settle 80 = .ok (.iload 4, 2) := by decide +kernel
theorem dX1_settle_82 : decode cX1_settle 82 = .ok (.iload_n 2, 1) := by decide +kernel
theorem dX1_settle_83 : decode cX1_settle 83 = .ok (.invokestatic 58, 3) := by decide +kernel
theorem dX1_settle_86 : decode cX1_settle 86 = .ok (.iload_n 3, 1) := by decide +kernel
theorem dX1_settle_87 : decode cX1_settle 87 = .ok (.iconst 1, 1) := by decide +kernel
theorem dX1_settle_88 : decode cX1_settle 88 = .ok (.iload 4, 2) := by decide +kernel
theorem dX1_settle_90 : decode cX1_settle 90 = .ok (.ishl, 1) := by decide +kernel
theorem dX1_settle_91 : decode cX1_settle 91 = .ok (.ixor, 1) := by decide +kernel
theorem dX1_settle_92 : decode cX1_settle 92 = .ok (.ireturn, 1) := by decide +kernel
theorem dX1_settle_93 : decode cX1_settle 93 = .ok (.iinc 4 1, 3) := by decide +kernel
theorem dX1_settle_96 : decode cX1_settle 96 = .ok (.goto (-87), 3) := by decide +kernel
theorem dX1_settle_99 : decode cX1_settle 99 = .ok (.iload_n 3, 1) := by decide +kernel
theorem dX1_settle_100 : decode cX1_settle 100 = .ok (.ireturn, 1) := by decide +kernel
def wtX1_settle : List Cond := .code yX1_settle cX1_settle 5 (some .int) :: (([.fieldLink RX1 9 "DriftKin$Matches" "might" "[I", .static yX8_at, .initialized RX8, .static yX8_has, .fieldLink RX1 15 "DriftKin$Matches" "most" "[I", .fieldLink RX1 18 "DriftKin$Matches" "mate" "[I", .static yX8_put]) ++ ((u_ws RX1 TX1 4) ++ ((wtX8_at) ++ ((wtX8_has) ++ ((wtX8_put) ++ [])))))
theorem imX1_settle_own : ∀ w ∈ ([.fieldLink RX1 9 "DriftKin$Matches" "might" "[I", .static yX8_at, .initialized RX8, .static yX8_has, .fieldLink RX1 15 "DriftKin$Matches" "most" "[I", .fieldLink RX1 18 "DriftKin$Matches" "mate" "[I", .static yX8_put] : List Cond), w ∈ wtX1_settle := fun w h => List.mem_cons_of_mem _ (inl h)
theorem imX1_settle_u_X1 : ∀ w ∈ (u_ws RX1 TX1 4 : List Cond), w ∈ wtX1_settle := fun w h => List.mem_cons_of_mem _ (inr (inl h))
theorem imX1_settle_c_X8_at : ∀ w ∈ (wtX8_at : List Cond), w ∈ wtX1_settle := fun w h => List.mem_cons_of_mem _ (inr (inr (inl h)))
theorem imX1_settle_c_X8_has : ∀ w ∈ (wtX8_has : List Cond), w ∈ wtX1_settle := fun w h => List.mem_cons_of_mem _ (inr (inr (inr (inl h))))
theorem imX1_settle_c_X8_put : ∀ w ∈ (wtX8_put : List Cond), w ∈ wtX1_settle := fun w h => List.mem_cons_of_mem _ (inr (inr (inr (inr (inl h)))))
theorem gdX1_settle : ∀ w ∈ wtX1_settle, Gd w := gdc rfl (gda (gdl (by decide +kernel)) (gda (gdu _ _ _) (gda gdX8_at (gda gdX8_has (gda gdX8_put gdn)))))
theorem gcX1_settle_X8_at : GoodIn wtX1_settle (wtX8_at) := fun w h => ⟨imX1_settle_c_X8_at w h, gdX8_at w h⟩
theorem gcX1_settle_X8_has : GoodIn wtX1_settle (wtX8_has) := fun w h => ⟨imX1_settle_c_X8_has w h, gdX8_has w h⟩
theorem gcX1_settle_X8_put : GoodIn wtX1_settle (wtX8_put) := fun w h => ⟨imX1_settle_c_X8_put w h, gdX8_put w h⟩
def fX1_settle_9 (v_might : Nat → Int32) (v_most : Nat → Int32) (v_mate : Nat → Int32) (x1 : Int32) (x2 : Int32) (x3 : Int32) : Nat → Int32 → Option (Int32 × (Nat → Int32))
  | 0, _ => none
  | n + 1, x4 =>
    if (8 : Int32) ≤ x4 then
      some (x3, v_mate)
    else
      (fX8_at 8 v_might x2).bind (fun r1002 =>
        (fX8_has (x3 &&& r1002) x4).bind (fun r1003 =>
          if r1003 = (0 : Int32) then
            fX1_settle_9 v_might v_most v_mate x1 x2 x3 n (x4 + (1 : Int32))
          else
            (fX8_at 256 v_most (x3 ^^^ (jshl (1 : Int32) x4))).bind (fun r1005 =>
              (fX8_at 256 v_most x1).bind (fun r1006 =>
                if r1006 ≤ ((1 : Int32) + r1005) then
                  (fX8_put 8 v_mate x2 x4).bind (fun r1008 =>
                    (fX8_put 8 r1008 x4 x2).bind (fun r1009 =>
                      some ((x3 ^^^ (jshl (1 : Int32) x4)), r1009)))
                else
                  fX1_settle_9 v_might v_most v_mate x1 x2 x3 n (x4 + (1 : Int32))))))
def fX1_settle (v_might : Nat → Int32) (v_most : Nat → Int32) (v_mate : Nat → Int32) (x1 : Int32) (x2 : Int32) : Option (Int32 × (Nat → Int32)) :=
  fX1_settle_9 v_might v_most v_mate x1 x2 (x1 ^^^ (jshl (1 : Int32) x2)) 2000 (0 : Int32)
def wdX1_settle (cI cZ : ClassId) (q0 : Nat) (q1 : Nat) (q2 : Nat) (q3 : Nat)  (v_might : Nat → Int32) (v_most : Nat → Int32) (v_mate : Nat → Int32) (v_count : Int32) : va_W := [(q0, .inr (1, [.ref q1, .ref q2, .ref q3, .int v_count])), (q1, .inl (cI, 8, .inl v_might)), (q2, .inl (cI, 256, .inl v_most)), (q3, .inl (cI, 8, .inl v_mate))]
abbrev rmX1_settle : Jvm.Room := { frames := 1, cells := 0, slots := 0, locals := 22 }
theorem hyX1_settle : yX1_settle.cls ≠ "java/lang/invoke/MethodHandle" ∧ yX1_settle.cls ≠ "java/lang/invoke/VarHandle" ∧ (parseMethodDescriptor yX1_settle.desc).map (fun d => d.parameters.length) = some 2 := by decide +kernel
set_option maxHeartbeats 4000000 in
set_option maxRecDepth 100000 in
theorem mX1_settle (l : Launch) (D : va_G) (cI cZ : ClassId) (q0 : Nat) (q1 : Nat) (q2 : Nat) (q3 : Nat) (v_might : Nat → Int32) (v_most : Nat → Int32) (v_mate : Nat → Int32) (v_count : Int32) (x1 : Int32) (x2 : Int32) (z : Int32 × (Nat → Int32)) (hF : fX1_settle v_might v_most v_mate x1 x2 = some z) : mp l yX1_settle wtX1_settle rmX1_settle D cI cZ [.ref q0, .int x1, .int x2] (wdX1_settle cI cZ q0 q1 q2 q3 v_might v_most v_mate v_count) (some (.int z.1)) (wdX1_settle cI cZ q0 q1 q2 q3 v_might v_most z.2 v_count) := by
  refine mp_i (lv0 := [(0, .ref q0), (1, .int x1), (2, .int x2)]) cX1_settle 5 z.1 (by decide) rfl (Nat.le_of_ble_eq_true rfl) rfl (fun E h hend0 => ?_)
  have hend : ∀ (z' : Int32 × (Nat → Int32)), some z' = some z → ∀ (pc : Nat) (lv : List (Nat × Value)), decode cX1_settle pc = .ok (.ireturn, 1) → G l D E 5 0 0 (wdX1_settle cI cZ q0 q1 q2 q3 v_might v_most (z'.2) v_count) pc lv [.int z'.1] := fun z' e => by cases e; exact hend0
  clear hend0
  have hL9 : ∀ (n9 : Nat) (v_mate : Nat → Int32) (x3 : Int32) (x4 : Int32), fX1_settle_9 v_might v_most v_mate x1 x2 x3 n9 x4 = some z → G l D E 5 0 0 (wdX1_settle cI cZ q0 q1 q2 q3 v_might v_most v_mate v_count) 9 [(0, .ref q0), (1, .int x1), (2, .int x2), (3, .int x3), (4, .int x4)] [] := by
    intro n9
    induction n9 with
    | zero =>
      intro v_mate x3 x4 hF
      rw [fX1_settle_9] at hF
      cases hF
    | succ n9 ih9 =>
      intro v_mate x3 x4 hF
      rw [fX1_settle_9] at hF
      refine g_iload (np := 11) h 4 rfl dX1_settle_9 rfl ?_
      refine g_bipush (np := 13) (v := (8 : Int32)) h (by decide) dX1_settle_11 rfl ?_
      refine g_icmp_ge h hF dX1_settle_13 (np := 16) rfl (tg := 99) rfl (fun c1001 hF => ?_) (fun c1001 hF => ?_)
      · refine g_iload_n (np := 100) h 3 rfl rfl dX1_settle_99 rfl ?_
        exact hend _ hF _ _ dX1_settle_100
      · refine g_iload_n (np := 17) h 3 rfl rfl dX1_settle_16 rfl ?_
        refine g_aload_n (np := 18) h 0 rfl rfl dX1_settle_17 rfl ?_
        refine g_get (np := 21) (T := TX1) h imX1_settle_u_X1 0 1 rfl rfl 0 (by decide) (imX1_settle_own _ (List.mem_of_getElem? (i := 0) rfl)) rfl dX1_settle_18 rfl ?_
        refine g_iload_n (np := 22) h 2 rfl rfl dX1_settle_21 rfl ?_
        obtain ⟨r1002, hr1002, hF⟩ := Option.bind_eq_some_iff.mp hF
        refine g_callN (np := 25) (Wd' := (wdX1_settle cI cZ q0 q1 q2 q3 v_might v_most v_mate v_count)) (As := [.ref q1, .int x2]) h (mX8_at l D cI cZ q1 8 v_might x2 r1002 hr1002) gcX1_settle_X8_at rfl ⟨rfl, rfl⟩ (List.mem_of_getElem? (i := 25) rfl) (imX1_settle_own _ (List.mem_of_getElem? (i := 2) rfl)) (imX1_settle_own _ (List.mem_of_getElem? (i := 1) rfl)) hyX8_at rfl rfl rfl rfl ⟨Nat.zero_le _, Nat.zero_le _⟩ [1] [0, 2, 3] (N := 4) (by decide +kernel) rfl rfl rfl rfl rfl dX1_settle_22 rfl ?_
        refine g_iand (np := 26) h dX1_settle_25 rfl ?_
        refine g_iload (np := 28) h 4 rfl dX1_settle_26 rfl ?_
        obtain ⟨r1003, hr1003, hF⟩ := Option.bind_eq_some_iff.mp hF
        refine g_callN (np := 31) (Wd' := (wdX1_settle cI cZ q0 q1 q2 q3 v_might v_most v_mate v_count)) (As := [.int (x3 &&& r1002), .int x4]) h (mX8_has l D cI cZ (x3 &&& r1002) x4 r1003 hr1003) gcX1_settle_X8_has rfl ⟨rfl, rfl⟩ (List.mem_of_getElem? (i := 24) rfl) (imX1_settle_own _ (List.mem_of_getElem? (i := 2) rfl)) (imX1_settle_own _ (List.mem_of_getElem? (i := 3) rfl)) hyX8_has rfl rfl rfl rfl ⟨Nat.zero_le _, Nat.zero_le _⟩ [] [0, 1, 2, 3] (N := 4) (by decide +kernel) rfl rfl rfl rfl rfl dX1_settle_28 rfl ?_
        refine g_if_ne h hF dX1_settle_31 (np := 34) rfl (tg := 37) rfl (fun c1004 hF => ?_) (fun c1004 hF => ?_)
        · refine g_iconst (np := 38) (v := (1 : Int32)) h (by decide) dX1_settle_37 rfl ?_
          refine g_aload_n (np := 39) h 0 rfl rfl dX1_settle_38 rfl ?_
          refine g_get (np := 42) (T := TX1) h imX1_settle_u_X1 0 1 rfl rfl 1 (by decide) (imX1_settle_own _ (List.mem_of_getElem? (i := 4) rfl)) rfl dX1_settle_39 rfl ?_
          refine g_iload_n (np := 43) h 3 rfl rfl dX1_settle_42 rfl ?_
          refine g_iconst (np := 44) (v := (1 : Int32)) h (by decide) dX1_settle_43 rfl ?_
          refine g_iload (np := 46) h 4 rfl dX1_settle_44 rfl ?_
          refine g_ishl (np := 47) h dX1_settle_46 rfl ?_
          refine g_ixor (np := 48) h dX1_settle_47 rfl ?_
          obtain ⟨r1005, hr1005, hF⟩ := Option.bind_eq_some_iff.mp hF
          refine g_callN (np := 51) (Wd' := (wdX1_settle cI cZ q0 q1 q2 q3 v_might v_most v_mate v_count)) (As := [.ref q2, .int (x3 ^^^ (jshl (1 : Int32) x4))]) h (mX8_at l D cI cZ q2 256 v_most (x3 ^^^ (jshl (1 : Int32) x4)) r1005 hr1005) gcX1_settle_X8_at rfl ⟨rfl, rfl⟩ (List.mem_of_getElem? (i := 25) rfl) (imX1_settle_own _ (List.mem_of_getElem? (i := 2) rfl)) (imX1_settle_own _ (List.mem_of_getElem? (i := 1) rfl)) hyX8_at rfl rfl rfl rfl ⟨Nat.zero_le _, Nat.zero_le _⟩ [2] [0, 1, 3] (N := 4) (by decide +kernel) rfl rfl rfl rfl rfl dX1_settle_48 rfl ?_
          refine g_iadd (np := 52) h dX1_settle_51 rfl ?_
          refine g_aload_n (np := 53) h 0 rfl rfl dX1_settle_52 rfl ?_
          refine g_get (np := 56) (T := TX1) h imX1_settle_u_X1 0 1 rfl rfl 1 (by decide) (imX1_settle_own _ (List.mem_of_getElem? (i := 4) rfl)) rfl dX1_settle_53 rfl ?_
          refine g_iload_n (np := 57) h 1 rfl rfl dX1_settle_56 rfl ?_
          obtain ⟨r1006, hr1006, hF⟩ := Option.bind_eq_some_iff.mp hF
          refine g_callN (np := 60) (Wd' := (wdX1_settle cI cZ q0 q1 q2 q3 v_might v_most v_mate v_count)) (As := [.ref q2, .int x1]) h (mX8_at l D cI cZ q2 256 v_most x1 r1006 hr1006) gcX1_settle_X8_at rfl ⟨rfl, rfl⟩ (List.mem_of_getElem? (i := 25) rfl) (imX1_settle_own _ (List.mem_of_getElem? (i := 2) rfl)) (imX1_settle_own _ (List.mem_of_getElem? (i := 1) rfl)) hyX8_at rfl rfl rfl rfl ⟨Nat.zero_le _, Nat.zero_le _⟩ [2] [0, 1, 3] (N := 4) (by decide +kernel) rfl rfl rfl rfl rfl dX1_settle_57 rfl ?_
          refine g_icmp_ge h hF dX1_settle_60 (np := 63) rfl (tg := 66) rfl (fun c1007 hF => ?_) (fun c1007 hF => ?_)
          · refine g_aload_n (np := 67) h 0 rfl rfl dX1_settle_66 rfl ?_
            refine g_get (np := 70) (T := TX1) h imX1_settle_u_X1 0 1 rfl rfl 2 (by decide) (imX1_settle_own _ (List.mem_of_getElem? (i := 5) rfl)) rfl dX1_settle_67 rfl ?_
            refine g_iload_n (np := 71) h 2 rfl rfl dX1_settle_70 rfl ?_
            refine g_iload (np := 73) h 4 rfl dX1_settle_71 rfl ?_
            obtain ⟨r1008, hr1008, hF⟩ := Option.bind_eq_some_iff.mp hF
            refine g_callN (np := 76) (Wd' := (wdX1_settle cI cZ q0 q1 q2 q3 v_might v_most r1008 v_count)) (As := [.ref q3, .int x2, .int x4]) h (mX8_put l D cI cZ q3 8 v_mate x2 x4 r1008 hr1008) gcX1_settle_X8_put rfl ⟨rfl, rfl⟩ (List.mem_of_getElem? (i := 27) rfl) (imX1_settle_own _ (List.mem_of_getElem? (i := 2) rfl)) (imX1_settle_own _ (List.mem_of_getElem? (i := 6) rfl)) hyX8_put rfl rfl rfl rfl ⟨Nat.zero_le _, Nat.zero_le _⟩ [3] [0, 1, 2] (N := 4) (by decide +kernel) rfl rfl rfl rfl rfl dX1_settle_73 rfl ?_
            refine g_aload_n (np := 77) h 0 rfl rfl dX1_settle_76 rfl ?_
            refine g_get (np := 80) (T := TX1) h imX1_settle_u_X1 0 1 rfl rfl 2 (by decide) (imX1_settle_own _ (List.mem_of_getElem? (i := 5) rfl)) rfl dX1_settle_77 rfl ?_
            refine g_iload (np := 82) h 4 rfl dX1_settle_80 rfl ?_
            refine g_iload_n (np := 83) h 2 rfl rfl dX1_settle_82 rfl ?_
            obtain ⟨r1009, hr1009, hF⟩ := Option.bind_eq_some_iff.mp hF
            refine g_callN (np := 86) (Wd' := (wdX1_settle cI cZ q0 q1 q2 q3 v_might v_most r1009 v_count)) (As := [.ref q3, .int x4, .int x2]) h (mX8_put l D cI cZ q3 8 r1008 x4 x2 r1009 hr1009) gcX1_settle_X8_put rfl ⟨rfl, rfl⟩ (List.mem_of_getElem? (i := 27) rfl) (imX1_settle_own _ (List.mem_of_getElem? (i := 2) rfl)) (imX1_settle_own _ (List.mem_of_getElem? (i := 6) rfl)) hyX8_put rfl rfl rfl rfl ⟨Nat.zero_le _, Nat.zero_le _⟩ [3] [0, 1, 2] (N := 4) (by decide +kernel) rfl rfl rfl rfl rfl dX1_settle_83 rfl ?_
            refine g_iload_n (np := 87) h 3 rfl rfl dX1_settle_86 rfl ?_
            refine g_iconst (np := 88) (v := (1 : Int32)) h (by decide) dX1_settle_87 rfl ?_
            refine g_iload (np := 90) h 4 rfl dX1_settle_88 rfl ?_
            refine g_ishl (np := 91) h dX1_settle_90 rfl ?_
            refine g_ixor (np := 92) h dX1_settle_91 rfl ?_
            exact hend _ hF _ _ dX1_settle_92
          · refine g_goto h dX1_settle_63 (np := 93) rfl ?_
            refine g_iinc (np := 96) (v := (x4 + (1 : Int32))) (lv' := [(4, .int (x4 + (1 : Int32))), (0, .ref q0), (1, .int x1), (2, .int x2), (3, .int x3)]) h 4 rfl rfl (by decide) rfl dX1_settle_93 rfl ?_
            refine g_goto h dX1_settle_96 (np := 9) rfl ?_
            refine g_lv [1, 2, 3, 4, 0] rfl ?_
            exact ih9 v_mate x3 (x4 + (1 : Int32)) hF
        · refine g_goto h dX1_settle_34 (np := 93) rfl ?_
          refine g_iinc (np := 96) (v := (x4 + (1 : Int32))) (lv' := [(4, .int (x4 + (1 : Int32))), (0, .ref q0), (1, .int x1), (2, .int x2), (3, .int x3)]) h 4 rfl rfl (by decide) rfl dX1_settle_93 rfl ?_
          refine g_goto h dX1_settle_96 (np := 9) rfl ?_
          refine g_lv [1, 2, 3, 4, 0] rfl ?_
          exact ih9 v_mate x3 (x4 + (1 : Int32)) hF
  unfold fX1_settle at hF
  refine g_iload_n (np := 1) h 1 rfl rfl dX1_settle_0 rfl ?_
  refine g_iconst (np := 2) (v := (1 : Int32)) h (by decide) dX1_settle_1 rfl ?_
  refine g_iload_n (np := 3) h 2 rfl rfl dX1_settle_2 rfl ?_
  refine g_ishl (np := 4) h dX1_settle_3 rfl ?_
  refine g_ixor (np := 5) h dX1_settle_4 rfl ?_
  refine g_istore_n (np := 6) (lv' := [(3, .int (x1 ^^^ (jshl (1 : Int32) x2))), (0, .ref q0), (1, .int x1), (2, .int x2)]) h rfl (by decide) rfl dX1_settle_5 rfl ?_
  refine g_iconst (np := 7) (v := (0 : Int32)) h (by decide) dX1_settle_6 rfl ?_
  refine g_istore (np := 9) (lv' := [(4, .int (0 : Int32)), (3, .int (x1 ^^^ (jshl (1 : Int32) x2))), (0, .ref q0), (1, .int x1), (2, .int x2)]) h (by decide) rfl dX1_settle_7 rfl ?_
  refine g_lv [2, 3, 4, 1, 0] rfl ?_
  exact hL9 _ v_mate (x1 ^^^ (jshl (1 : Int32) x2)) (0 : Int32) hF
theorem dX1_find_0 : decode cX1_find 0 = .ok (.iconst 0, 1) := by decide +kernel
theorem dX1_find_1 : decode cX1_find 1 = .ok (.istore_n 2, 1) := by decide +kernel
theorem dX1_find_2 : decode cX1_find 2 = .ok (.iload_n 2, 1) := by decide +kernel
theorem dX1_find_3 : decode cX1_find 3 = .ok (.aload_n 0, 1) := by decide +kernel
theorem dX1_find_4 : decode cX1_find 4 = .ok (.getfield 9, 3) := by decide +kernel
theorem dX1_find_7 : decode cX1_find 7 = .ok (.arraylength, 1) := by decide +kernel
theorem dX1_find_8 : decode cX1_find 8 = .ok (.if_icmp .ge 51, 3) := by decide +kernel
theorem dX1_find_11 : decode cX1_find 11 = .ok (.iconst 0, 1) := by decide +kernel
theorem dX1_find_12 : decode cX1_find 12 = .ok (.istore_n 3, 1) := by decide +kernel
theorem dX1_find_13 : decode cX1_find 13 = .ok (.iconst 0, 1) := by decide +kernel
theorem dX1_find_14 : decode cX1_find 14 = .ok (.istore 4, 2) := by decide +kernel
theorem dX1_find_16 : decode cX1_find 16 = .ok (.iload 4, 2) := by decide +kernel
theorem dX1_find_18 : decode cX1_find 18 = .ok (.bipush 8, 2) := by decide +kernel
theorem dX1_find_20 : decode cX1_find 20 = .ok (.if_icmp .ge 26, 3) := by decide +kernel
theorem dX1_find_23 : decode cX1_find 23 = .ok (.aload_n 1, 1) := by decide +kernel
theorem dX1_find_24 : decode cX1_find 24 = .ok (.iload_n 2, 1) := by decide +kernel
theorem dX1_find_25 : decode cX1_find 25 = .ok (.iload 4, 2) := by decide +kernel
theorem dX1_find_27 : decode cX1_find 27 = .ok (.invokevirtual 25, 3) := by decide +kernel
theorem dX1_find_30 : decode cX1_find 30 = .ok (.ifCond .eq 10, 3) := by decide +kernel
theorem dX1_find_33 : decode cX1_find 33 = .ok (.iload_n 3, 1) := by decide +kernel
theorem dX1_find_34 : decode cX1_find 34 = .ok (.iconst 1, 1) := by decide +kernel
theorem dX1_find_35 : decode cX1_find 35 = .ok (.iload 4, 2) := by decide +kernel
theorem dX1_find_37 : decode cX1_find 37 = .ok (.ishl, 1) := by decide +kernel
theorem dX1_find_38 : decode cX1_find 38 = .ok (.ior, 1) := by decide +kernel
theorem dX1_find_39 : decode cX1_find 39 = .ok (.istore_n 3, 1) := by decide +kernel
theorem dX1_find_40 : decode cX1_find 40 = .ok (.iinc 4 1, 3) := by decide +kernel
theorem dX1_find_43 : decode cX1_find 43 = .ok (.goto (-27), 3) := by decide +kernel
theorem dX1_find_46 : decode cX1_find 46 = .ok (.aload_n 0, 1) := by decide +kernel
theorem dX1_find_47 : decode cX1_find 47 = .ok (.getfield 9, 3) := by decide +kernel
theorem dX1_find_50 : decode cX1_find 50 = .ok (.iload_n 2, 1) := by decide +kernel
theorem dX1_find_51 : decode cX1_find 51 = .ok (.iload_n 3, 1) := by decide +kernel
theorem dX1_find_52 : decode cX1_find 52 = .ok (.iastore, 1) := by decide +kernel
theorem dX1_find_53 : decode cX1_find 53 = .ok (.iinc 2 1, 3) := by decide +kernel
theorem dX1_find_56 : decode cX1_find 56 = .ok (.goto (-54), 3) := by decide +kernel
theorem dX1_find_59 : decode cX1_find 59 = .ok (.iconst 1, 1) := by decide +kernel
theorem dX1_find_60 : decode cX1_find 60 = .ok (.istore_n 2, 1) := by decide +kernel
theorem dX1_find_61 : decode cX1_find 61 = .ok (.iload_n 2, 1) := by decide +kernel
theorem dX1_find_62 : decode cX1_find 62 = .ok (.aload_n 0, 1) := by decide +kernel
theorem dX1_find_63 : decode cX1_find 63 = .ok (.getfield 15, 3) := by decide +kernel
theorem dX1_find_66 : decode cX1_find 66 = .ok (.arraylength, 1) := by decide +kernel
theorem dX1_find_67 : decode cX1_find 67 = .ok (.if_icmp .ge 20, 3) := by decide +kernel
theorem dX1_find_70 : decode cX1_find 70 = .ok (.aload_n 0, 1) := by decide +kernel
theorem dX1_find_71 : decode cX1_find 71 = .ok (.getfield 15, 3) := by decide +kernel
theorem dX1_find_74 : decode cX1_find 74 = .ok (.iload_n 2, 1) := by decide +kernel
theorem dX1_find_75 : decode cX1_find 75 = .ok (.aload_n 0, 1) := by decide +kernel
theorem dX1_find_76 : decode cX1_find 76 = .ok (.iload_n 2, 1) := by decide +kernel
theorem dX1_find_77 : decode cX1_find 77 = .ok (.invokevirtual 31, 3) := by decide +kernel
theorem dX1_find_80 : decode cX1_find 80 = .ok (.iastore, 1) := by decide +kernel
theorem dX1_find_81 : decode cX1_find 81 = .ok (.iinc 2 1, 3) := by decide +kernel
theorem dX1_find_84 : decode cX1_find 84 = .ok (.goto (-23), 3) := by decide +kernel
theorem dX1_find_87 : decode cX1_find 87 = .ok (.aload_n 0, 1) := by decide +kernel
theorem dX1_find_88 : decode cX1_find 88 = .ok (.getfield 15, 3) := by decide +kernel
theorem dX1_find_91 : decode cX1_find 91 = .ok (.arraylength, 1) := by decide +kernel
theorem dX1_find_92 : decode cX1_find 92 = .ok (.iconst 1, 1) := by decide +kernel
theorem dX1_find_93 : decode cX1_find 93 = .ok (.isub, 1) := by decide +kernel
theorem dX1_find_94 : decode cX1_find 94 = .ok (.istore_n 2, 1) := by decide +kernel
theorem dX1_find_95 : decode cX1_find 95 = .ok (.aload_n 0, 1) := by decide +kernel
theorem dX1_find_96 : decode cX1_find 96 = .ok (.aload_n 0, 1) := by decide +kernel
theorem dX1_find_97 : decode cX1_find 97 = .ok (.getfield 15, 3) := by decide +kernel
theorem dX1_find_100 : decode cX1_find 100 = .ok (.iload_n 2, 1) := by decide +kernel
theorem dX1_find_101 : decode cX1_find 101 = .ok (.invokestatic 35, 3) := by decide +kernel
theorem dX1_find_104 : decode cX1_find 104 = .ok (.putfield 21, 3) := by decide +kernel
theorem dX1_find_107 : decode cX1_find 107 = .ok (.aload_n 0, 1) := by decide +kernel
theorem dX1_find_108 : decode cX1_find 108 = .ok (.getfield 18, 3) := by decide +kernel
theorem dX1_find_111 : decode cX1_find 111 = .ok (.bipush (-6), 2) := by decide +kernel
theorem dX1_find_113 : decode cX1_find 113 = .ok (.invokestatic 39, 3) := by decide +kernel
theorem dX1_find_116 : decode cX1_find 116 = .ok (.iconst 0, 1) := by decide +kernel
theorem dX1_find_117 : decode cX1_find 117 = .ok (.istore_n 3, 1) := by decide +kernel
theorem dX1_find_118 : decode cX1_find 118 = .ok (.iload_n 3, 1) := by decide +kernel
theorem dX1_find_119 : decode cX1_find 119 = .ok (.bipush 8, 2) := by decide +kernel
theorem dX1_find_121 : decode cX1_find 121 = .ok (.if_icmp .ge 24, 3) := by decide +kernel
theorem dX1_find_124 : decode cX1_find 124 = .ok (.iload_n 2, 1) := by decide +kernel
theorem dX1_find_125 : decode cX1_find 125 = .ok (.iload_n 3, 1) := by decide +kernel
theorem dX1_find_126 : decode cX1_find 126 = .ok (.invokestatic 43, 3) := by decide +kernel
theorem dX1_find_129 : decode cX1_find 129 = .ok (.ifCond .eq 10, 3) := by decide +kernel
theorem dX1_find_132 : decode cX1_find 132 = .ok (.aload_n 0, 1) := by decide +kernel
theorem dX1_find_133 : decode cX1_find 133 = .ok (.iload_n 2, 1) := by decide +kernel
theorem dX1_find_134 : decode cX1_find 134 = .ok (.iload_n 3, 1) := by decide +kernel
theorem dX1_find_135 : decode cX1_find 135 = .ok (.invokevirtual 46, 3) := by decide +kernel
theorem dX1_find_138 : decode cX1_find 138 = .ok (.istore_n 2, 1) := by decide +kernel
theorem dX1_find_139 : decode cX1_find 139 = .ok (.iinc 3 1, 3) := by decide +kernel
theorem dX1_find_142 : decode cX1_find 142 = .ok (.goto (-24), 3) := by decide +kernel
theorem dX1_find_145 : decode cX1_find 145 = .ok (.return_, 1) := by decide +kernel
def wtX1_find : List Cond := .code yX1_find cX1_find 5 none :: (([.fieldLink RX1 9 "DriftKin$Matches" "might" "[I", .fieldLink RX1 15 "DriftKin$Matches" "most" "[I", .static yX8_at, .initialized RX8, .fieldLink RX1 21 "DriftKin$Matches" "count" "I", .fieldLink RX1 18 "DriftKin$Matches" "mate" "[I", .static yX8_fill, .static yX8_has]) ++ ((u_ws RX1 TX1 4) ++ ((wsV RX1 25 RX5 yX5_mightWed wtX5_mightWed) ++ ((wsV RX1 31 RX1 yX1_mostOf wtX1_mostOf) ++ ((wtX8_at) ++ ((wtX8_fill) ++ ((wtX8_has) ++ ((wsV RX1 46 RX1 yX1_settle wtX1_settle) ++ []))))))))
theorem imX1_find_own : ∀ w ∈ ([.fieldLink RX1 9 "DriftKin$Matches" "might" "[I", .fieldLink RX1 15 "DriftKin$Matches" "most" "[I", .static yX8_at, .initialized RX8, .fieldLink RX1 21 "DriftKin$Matches" "count" "I", .fieldLink RX1 18 "DriftKin$Matches" "mate" "[I", .static yX8_fill, .static yX8_has] : List Cond), w ∈ wtX1_find := fun w h => List.mem_cons_of_mem _ (inl h)
theorem imX1_find_u_X1 : ∀ w ∈ (u_ws RX1 TX1 4 : List Cond), w ∈ wtX1_find := fun w h => List.mem_cons_of_mem _ (inr (inl h))
theorem imX1_find_c_X5_mightWed : ∀ w ∈ (wsV RX1 25 RX5 yX5_mightWed wtX5_mightWed : List Cond), w ∈ wtX1_find := fun w h => List.mem_cons_of_mem _ (inr (inr (inl h)))
theorem imX1_find_c_X1_mostOf : ∀ w ∈ (wsV RX1 31 RX1 yX1_mostOf wtX1_mostOf : List Cond), w ∈ wtX1_find := fun w h => List.mem_cons_of_mem _ (inr (inr (inr (inl h))))
theorem imX1_find_c_X8_at : ∀ w ∈ (wtX8_at : List Cond), w ∈ wtX1_find := fun w h => List.mem_cons_of_mem _ (inr (inr (inr (inr (inl h)))))
theorem imX1_find_c_X8_fill : ∀ w ∈ (wtX8_fill : List Cond), w ∈ wtX1_find := fun w h => List.mem_cons_of_mem _ (inr (inr (inr (inr (inr (inl h))))))
theorem imX1_find_c_X8_has : ∀ w ∈ (wtX8_has : List Cond), w ∈ wtX1_find := fun w h => List.mem_cons_of_mem _ (inr (inr (inr (inr (inr (inr (inl h)))))))
theorem imX1_find_c_X1_settle : ∀ w ∈ (wsV RX1 46 RX1 yX1_settle wtX1_settle : List Cond), w ∈ wtX1_find := fun w h => List.mem_cons_of_mem _ (inr (inr (inr (inr (inr (inr (inr (inl h))))))))
theorem gdX1_find : ∀ w ∈ wtX1_find, Gd w := gdc rfl (gda (gdl (by decide +kernel)) (gda (gdu _ _ _) (gda (gda (gdl (by decide +kernel)) gdX5_mightWed) (gda (gda (gdl (by decide +kernel)) gdX1_mostOf) (gda gdX8_at (gda gdX8_fill (gda gdX8_has (gda (gda (gdl (by decide +kernel)) gdX1_settle) gdn))))))))
theorem gcX1_find_X5_mightWed : GoodIn wtX1_find (wsV RX1 25 RX5 yX5_mightWed wtX5_mightWed) := fun w h => ⟨imX1_find_c_X5_mightWed w h, (gda (gdl (by decide +kernel)) gdX5_mightWed) w h⟩
theorem gcX1_find_X1_mostOf : GoodIn wtX1_find (wsV RX1 31 RX1 yX1_mostOf wtX1_mostOf) := fun w h => ⟨imX1_find_c_X1_mostOf w h, (gda (gdl (by decide +kernel)) gdX1_mostOf) w h⟩
theorem gcX1_find_X8_at : GoodIn wtX1_find (wtX8_at) := fun w h => ⟨imX1_find_c_X8_at w h, gdX8_at w h⟩
theorem gcX1_find_X8_fill : GoodIn wtX1_find (wtX8_fill) := fun w h => ⟨imX1_find_c_X8_fill w h, gdX8_fill w h⟩
theorem gcX1_find_X8_has : GoodIn wtX1_find (wtX8_has) := fun w h => ⟨imX1_find_c_X8_has w h, gdX8_has w h⟩
theorem gcX1_find_X1_settle : GoodIn wtX1_find (wsV RX1 46 RX1 yX1_settle wtX1_settle) := fun w h => ⟨imX1_find_c_X1_settle w h, (gda (gdl (by decide +kernel)) gdX1_settle) w h⟩
def fX1_find_118 (v_count : Int32) (v_might : Nat → Int32) (v_most : Nat → Int32) : Nat → (Nat → Int32) → Int32 → Int32 → Option (Int32 × (Nat → Int32) × (Nat → Int32) × (Nat → Int32))
  | 0, _, _, _ => none
  | n + 1, v_mate, x2, x3 =>
    if (8 : Int32) ≤ x3 then
      some (v_count, v_might, v_most, v_mate)
    else
      (fX8_has x2 x3).bind (fun r1002 =>
        if r1002 = (0 : Int32) then
          fX1_find_118 v_count v_might v_most n v_mate x2 (x3 + (1 : Int32))
        else
          (fX1_settle v_might v_most v_mate x2 x3).bind (fun r1004 =>
            fX1_find_118 v_count v_might v_most n r1004.2 r1004.1 (x3 + (1 : Int32))))
def fX1_find_61 (v_count : Int32) (v_might : Nat → Int32) (v_mate : Nat → Int32) : Nat → (Nat → Int32) → Int32 → Option (Int32 × (Nat → Int32) × (Nat → Int32) × (Nat → Int32))
  | 0, _, _ => none
  | n + 1, v_most, x2 =>
    if (256 : Int32) ≤ x2 then
      (fX8_at 256 v_most ((256 : Int32) - (1 : Int32))).bind (fun r2002 =>
        (fX8_fill 8 v_mate (-6 : Int32)).bind (fun r2003 =>
          fX1_find_118 r2002 v_might v_most 2000 r2003 ((256 : Int32) - (1 : Int32)) (0 : Int32)))
    else
      (fX1_mostOf v_might v_most x2).bind (fun r2004 =>
        chk x2 256 (
          fX1_find_61 v_count v_might v_mate n (wr v_most x2 r2004) (x2 + (1 : Int32))))
def fX1_find_16 (k2 : (Nat → Int32) → Int32 → Option (Int32 × (Nat → Int32) × (Nat → Int32) × (Nat → Int32))) (v_count : Int32) (v_might : Nat → Int32) (v_most : Nat → Int32) (v_mate : Nat → Int32) (v_wreck : Nat → Int32) (v_piece : Nat → Int32) (v_partner : Nat → Int32) (x2 : Int32) : Nat → Int32 → Int32 → Option (Int32 × (Nat → Int32) × (Nat → Int32) × (Nat → Int32))
  | 0, _, _ => none
  | n + 1, x3, x4 =>
    if (8 : Int32) ≤ x4 then
      chk x2 8 (
        k2 (wr v_might x2 x3) (x2 + (1 : Int32)))
    else
      (fX5_mightWed v_wreck v_piece v_partner x2 x4).bind (fun r3003 =>
        if r3003 = (0 : Int32) then
          fX1_find_16 k2 v_count v_might v_most v_mate v_wreck v_piece v_partner x2 n x3 (x4 + (1 : Int32))
        else
          fX1_find_16 k2 v_count v_might v_most v_mate v_wreck v_piece v_partner x2 n (x3 ||| (jshl (1 : Int32) x4)) (x4 + (1 : Int32)))
def fX1_find_2 (v_count : Int32) (v_most : Nat → Int32) (v_mate : Nat → Int32) (v_wreck : Nat → Int32) (v_piece : Nat → Int32) (v_partner : Nat → Int32) : Nat → (Nat → Int32) → Int32 → Option (Int32 × (Nat → Int32) × (Nat → Int32) × (Nat → Int32))
  | 0, _, _ => none
  | n + 1, v_might, x2 =>
    if (8 : Int32) ≤ x2 then
      fX1_find_61 v_count v_might v_mate 2000 v_most (1 : Int32)
    else
      fX1_find_16 (fun y0 y1 => fX1_find_2 v_count v_most v_mate v_wreck v_piece v_partner n y0 y1) v_count v_might v_most v_mate v_wreck v_piece v_partner x2 2000 (0 : Int32) (0 : Int32)
def fX1_find (v_count : Int32) (v_might : Nat → Int32) (v_most : Nat → Int32) (v_mate : Nat → Int32) (v_wreck : Nat → Int32) (v_piece : Nat → Int32) (v_partner : Nat → Int32) : Option (Int32 × (Nat → Int32) × (Nat → Int32) × (Nat → Int32)) :=
  fX1_find_2 v_count v_most v_mate v_wreck v_piece v_partner 2000 v_might (0 : Int32)
def wdX1_find (cI cZ : ClassId) (q0 : Nat) (q1 : Nat) (q2 : Nat) (q3 : Nat) (q4 : Nat) (q5 : Nat) (q6 : Nat) (q7 : Nat) (q8 : Nat) (q9 : Nat) (d10 : Nat) (d11 : Nat) (d12 : Nat) (d13 : Nat) (d14 : Nat) (d15 : Nat) (d16 : Nat) (d17 : Nat)  (v_count : Int32) (v_might : Nat → Int32) (v_most : Nat → Int32) (v_mate : Nat → Int32) (v_wreck : Nat → Int32) (v_piece : Nat → Int32) (v_partner : Nat → Int32) (v_year : Int32) : va_W := [(q0, .inr (1, [.ref q1, .ref q2, .ref q3, .int v_count])), (q1, .inl (cI, 8, .inl v_might)), (q2, .inl (cI, 256, .inl v_most)), (q3, .inl (cI, 8, .inl v_mate)), (q4, .inr (5, [.ref q5, .ref q7, .ref d10, .int v_year])), (q5, .inr (3, [.ref q6, .ref d11, .ref d12, .ref d13, .ref d14, .ref d15, .ref d16])), (q6, .inl (cI, 10, .inl v_wreck)), (q7, .inr (0, [.ref q8, .ref q9, .ref d17])), (q8, .inl (cI, 8, .inl v_piece)), (q9, .inl (cI, 8, .inl v_partner))]
abbrev rmX1_find : Jvm.Room := { frames := 4, cells := 0, slots := 0, locals := 85 }
theorem hyX1_find : yX1_find.cls ≠ "java/lang/invoke/MethodHandle" ∧ yX1_find.cls ≠ "java/lang/invoke/VarHandle" ∧ (parseMethodDescriptor yX1_find.desc).map (fun d => d.parameters.length) = some 1 := by decide +kernel
set_option maxHeartbeats 4000000 in
set_option maxRecDepth 100000 in
theorem mX1_find (l : Launch) (D : va_G) (cI cZ : ClassId) (q0 : Nat) (q1 : Nat) (q2 : Nat) (q3 : Nat) (q4 : Nat) (q5 : Nat) (q6 : Nat) (q7 : Nat) (q8 : Nat) (q9 : Nat) (d10 : Nat) (d11 : Nat) (d12 : Nat) (d13 : Nat) (d14 : Nat) (d15 : Nat) (d16 : Nat) (d17 : Nat) (v_count : Int32) (v_might : Nat → Int32) (v_most : Nat → Int32) (v_mate : Nat → Int32) (v_wreck : Nat → Int32) (v_piece : Nat → Int32) (v_partner : Nat → Int32) (v_year : Int32) (z : Int32 × (Nat → Int32) × (Nat → Int32) × (Nat → Int32)) (hF : fX1_find v_count v_might v_most v_mate v_wreck v_piece v_partner = some z) : mp l yX1_find wtX1_find rmX1_find D cI cZ [.ref q0, .ref q4] (wdX1_find cI cZ q0 q1 q2 q3 q4 q5 q6 q7 q8 q9 d10 d11 d12 d13 d14 d15 d16 d17 v_count v_might v_most v_mate v_wreck v_piece v_partner v_year) none (wdX1_find cI cZ q0 q1 q2 q3 q4 q5 q6 q7 q8 q9 d10 d11 d12 d13 d14 d15 d16 d17 z.1 z.2.1 z.2.2.1 z.2.2.2 v_wreck v_piece v_partner v_year) := by
  refine mp_v (lv0 := [(0, .ref q0), (1, .ref q4)]) cX1_find 5 (by decide) rfl (Nat.le_of_ble_eq_true rfl) rfl (fun E h hend0 => ?_)
  have hend : ∀ (z' : Int32 × (Nat → Int32) × (Nat → Int32) × (Nat → Int32)), some z' = some z → ∀ (pc : Nat) (lv : List (Nat × Value)), decode cX1_find pc = .ok (.return_, 1) → G l D E 5 0 0 (wdX1_find cI cZ q0 q1 q2 q3 q4 q5 q6 q7 q8 q9 d10 d11 d12 d13 d14 d15 d16 d17 (z'.1) (z'.2.1) (z'.2.2.1) (z'.2.2.2) v_wreck v_piece v_partner v_year) pc lv [] := fun z' e => by cases e; exact hend0
  clear hend0
  have hL118 : ∀ (n118 : Nat) (v_count : Int32) (v_might : Nat → Int32) (v_most : Nat → Int32) (v_mate : Nat → Int32) (x2 : Int32) (x3 : Int32), fX1_find_118 v_count v_might v_most n118 v_mate x2 x3 = some z → G l D E 5 0 0 (wdX1_find cI cZ q0 q1 q2 q3 q4 q5 q6 q7 q8 q9 d10 d11 d12 d13 d14 d15 d16 d17 v_count v_might v_most v_mate v_wreck v_piece v_partner v_year) 118 [(0, .ref q0), (1, .ref q4), (2, .int x2), (3, .int x3)] [] := by
    intro n118
    induction n118 with
    | zero =>
      intro v_count v_might v_most v_mate x2 x3 hF
      rw [fX1_find_118] at hF
      cases hF
    | succ n118 ih118 =>
      intro v_count v_might v_most v_mate x2 x3 hF
      rw [fX1_find_118] at hF
      refine g_iload_n (np := 119) h 3 rfl rfl dX1_find_118 rfl ?_
      refine g_bipush (np := 121) (v := (8 : Int32)) h (by decide) dX1_find_119 rfl ?_
      refine g_icmp_ge h hF dX1_find_121 (np := 124) rfl (tg := 145) rfl (fun c1001 hF => ?_) (fun c1001 hF => ?_)
      · exact hend _ hF _ _ dX1_find_145
      · refine g_iload_n (np := 125) h 2 rfl rfl dX1_find_124 rfl ?_
        refine g_iload_n (np := 126) h 3 rfl rfl dX1_find_125 rfl ?_
        obtain ⟨r1002, hr1002, hF⟩ := Option.bind_eq_some_iff.mp hF
        refine g_callN (np := 129) (Wd' := (wdX1_find cI cZ q0 q1 q2 q3 q4 q5 q6 q7 q8 q9 d10 d11 d12 d13 d14 d15 d16 d17 v_count v_might v_most v_mate v_wreck v_piece v_partner v_year)) (As := [.int x2, .int x3]) h (mX8_has l D cI cZ x2 x3 r1002 hr1002) gcX1_find_X8_has rfl ⟨rfl, rfl⟩ (List.mem_of_getElem? (i := 24) rfl) (imX1_find_own _ (List.mem_of_getElem? (i := 3) rfl)) (imX1_find_own _ (List.mem_of_getElem? (i := 7) rfl)) hyX8_has rfl rfl rfl rfl ⟨Nat.zero_le _, Nat.zero_le _⟩ [] [0, 1, 2, 3, 4, 5, 6, 7, 8, 9] (N := 10) (by decide +kernel) rfl rfl rfl rfl rfl dX1_find_126 rfl ?_
        refine g_if_eq h hF dX1_find_129 (np := 132) rfl (tg := 139) rfl (fun c1003 hF => ?_) (fun c1003 hF => ?_)
        · refine g_iinc (np := 142) (v := (x3 + (1 : Int32))) (lv' := [(3, .int (x3 + (1 : Int32))), (0, .ref q0), (1, .ref q4), (2, .int x2)]) h 3 rfl rfl (by decide) rfl dX1_find_139 rfl ?_
          refine g_goto h dX1_find_142 (np := 118) rfl ?_
          refine g_lv [1, 2, 3, 0] rfl ?_
          exact ih118 v_count v_might v_most v_mate x2 (x3 + (1 : Int32)) hF
        · refine g_aload_n (np := 133) h 0 rfl rfl dX1_find_132 rfl ?_
          refine g_iload_n (np := 134) h 2 rfl rfl dX1_find_133 rfl ?_
          refine g_iload_n (np := 135) h 3 rfl rfl dX1_find_134 rfl ?_
          obtain ⟨r1004, hr1004, hF⟩ := Option.bind_eq_some_iff.mp hF
          refine g_callV (np := 138) (Wd' := (wdX1_find cI cZ q0 q1 q2 q3 q4 q5 q6 q7 q8 q9 d10 d11 d12 d13 d14 d15 d16 d17 v_count v_might v_most r1004.2 v_wreck v_piece v_partner v_year)) (As := [.int x2, .int x3]) h (mX1_settle l D cI cZ q0 q1 q2 q3 v_might v_most v_mate v_count x2 x3 r1004 hr1004) gcX1_find_X1_settle rfl ⟨rfl, rfl⟩ ⟨rfl, hyX1_settle⟩ rfl 1 0 rfl rfl rfl rfl rfl rfl ⟨Nat.zero_le _, Nat.zero_le _⟩ [0, 1, 2, 3] [4, 5, 6, 7, 8, 9] (N := 10) (by decide +kernel) rfl rfl rfl rfl rfl dX1_find_135 rfl ?_
          refine g_istore_n (np := 139) (lv' := [(2, .int r1004.1), (0, .ref q0), (1, .ref q4), (3, .int x3)]) h rfl (by decide) rfl dX1_find_138 rfl ?_
          refine g_iinc (np := 142) (v := (x3 + (1 : Int32))) (lv' := [(3, .int (x3 + (1 : Int32))), (2, .int r1004.1), (0, .ref q0), (1, .ref q4)]) h 3 rfl rfl (by decide) rfl dX1_find_139 rfl ?_
          refine g_goto h dX1_find_142 (np := 118) rfl ?_
          refine g_lv [2, 3, 1, 0] rfl ?_
          exact ih118 v_count v_might v_most r1004.2 r1004.1 (x3 + (1 : Int32)) hF
  have hL61 : ∀ (n61 : Nat) (v_count : Int32) (v_might : Nat → Int32) (v_most : Nat → Int32) (v_mate : Nat → Int32) (x2 : Int32), fX1_find_61 v_count v_might v_mate n61 v_most x2 = some z → G l D E 5 0 0 (wdX1_find cI cZ q0 q1 q2 q3 q4 q5 q6 q7 q8 q9 d10 d11 d12 d13 d14 d15 d16 d17 v_count v_might v_most v_mate v_wreck v_piece v_partner v_year) 61 [(0, .ref q0), (1, .ref q4), (2, .int x2)] [] := by
    intro n61
    induction n61 with
    | zero =>
      intro v_count v_might v_most v_mate x2 hF
      rw [fX1_find_61] at hF
      cases hF
    | succ n61 ih61 =>
      intro v_count v_might v_most v_mate x2 hF
      rw [fX1_find_61] at hF
      refine g_iload_n (np := 62) h 2 rfl rfl dX1_find_61 rfl ?_
      refine g_aload_n (np := 63) h 0 rfl rfl dX1_find_62 rfl ?_
      refine g_get (np := 66) (T := TX1) h imX1_find_u_X1 0 1 rfl rfl 1 (by decide) (imX1_find_own _ (List.mem_of_getElem? (i := 1) rfl)) rfl dX1_find_63 rfl ?_
      refine g_alen (np := 67) (v := (256 : Int32)) h 2 rfl (by decide) dX1_find_66 rfl ?_
      refine g_icmp_ge h hF dX1_find_67 (np := 70) rfl (tg := 87) rfl (fun c2001 hF => ?_) (fun c2001 hF => ?_)
      · refine g_aload_n (np := 88) h 0 rfl rfl dX1_find_87 rfl ?_
        refine g_get (np := 91) (T := TX1) h imX1_find_u_X1 0 1 rfl rfl 1 (by decide) (imX1_find_own _ (List.mem_of_getElem? (i := 1) rfl)) rfl dX1_find_88 rfl ?_
        refine g_alen (np := 92) (v := (256 : Int32)) h 2 rfl (by decide) dX1_find_91 rfl ?_
        refine g_iconst (np := 93) (v := (1 : Int32)) h (by decide) dX1_find_92 rfl ?_
        refine g_isub (np := 94) h dX1_find_93 rfl ?_
        refine g_istore_n (np := 95) (lv' := [(2, .int ((256 : Int32) - (1 : Int32))), (0, .ref q0), (1, .ref q4)]) h rfl (by decide) rfl dX1_find_94 rfl ?_
        refine g_aload_n (np := 96) h 1 rfl rfl dX1_find_95 rfl ?_
        refine g_aload_n (np := 97) h 1 rfl rfl dX1_find_96 rfl ?_
        refine g_get (np := 100) (T := TX1) h imX1_find_u_X1 0 1 rfl rfl 1 (by decide) (imX1_find_own _ (List.mem_of_getElem? (i := 1) rfl)) rfl dX1_find_97 rfl ?_
        refine g_iload_n (np := 101) h 0 rfl rfl dX1_find_100 rfl ?_
        obtain ⟨r2002, hr2002, hF⟩ := Option.bind_eq_some_iff.mp hF
        refine g_callN (np := 104) (Wd' := (wdX1_find cI cZ q0 q1 q2 q3 q4 q5 q6 q7 q8 q9 d10 d11 d12 d13 d14 d15 d16 d17 v_count v_might v_most v_mate v_wreck v_piece v_partner v_year)) (As := [.ref q2, .int ((256 : Int32) - (1 : Int32))]) h (mX8_at l D cI cZ q2 256 v_most ((256 : Int32) - (1 : Int32)) r2002 hr2002) gcX1_find_X8_at rfl ⟨rfl, rfl⟩ (List.mem_of_getElem? (i := 25) rfl) (imX1_find_own _ (List.mem_of_getElem? (i := 3) rfl)) (imX1_find_own _ (List.mem_of_getElem? (i := 2) rfl)) hyX8_at rfl rfl rfl rfl ⟨Nat.zero_le _, Nat.zero_le _⟩ [2] [0, 1, 3, 4, 5, 6, 7, 8, 9] (N := 10) (by decide +kernel) rfl rfl rfl rfl rfl dX1_find_101 rfl ?_
        refine g_put (np := 107) (T := TX1) (Wd' := (wdX1_find cI cZ q0 q1 q2 q3 q4 q5 q6 q7 q8 q9 d10 d11 d12 d13 d14 d15 d16 d17 r2002 v_might v_most v_mate v_wreck v_piece v_partner v_year)) h imX1_find_u_X1 tyX1_ok nmX1 0 1 rfl rfl 3 (by decide) (imX1_find_own _ (List.mem_of_getElem? (i := 4) rfl)) rfl rfl rfl (Nat.le_of_ble_eq_true rfl) rfl dX1_find_104 rfl ?_
        refine g_aload_n (np := 108) h 1 rfl rfl dX1_find_107 rfl ?_
        refine g_get (np := 111) (T := TX1) h imX1_find_u_X1 0 1 rfl rfl 2 (by decide) (imX1_find_own _ (List.mem_of_getElem? (i := 5) rfl)) rfl dX1_find_108 rfl ?_
        refine g_bipush (np := 113) (v := (-6 : Int32)) h (by decide) dX1_find_111 rfl ?_
        obtain ⟨r2003, hr2003, hF⟩ := Option.bind_eq_some_iff.mp hF
        refine g_callN (np := 116) (Wd' := (wdX1_find cI cZ q0 q1 q2 q3 q4 q5 q6 q7 q8 q9 d10 d11 d12 d13 d14 d15 d16 d17 r2002 v_might v_most r2003 v_wreck v_piece v_partner v_year)) (As := [.ref q3, .int (-6 : Int32)]) h (mX8_fill l D cI cZ q3 8 v_mate (-6 : Int32) r2003 hr2003) gcX1_find_X8_fill rfl ⟨rfl, rfl⟩ (List.mem_of_getElem? (i := 26) rfl) (imX1_find_own _ (List.mem_of_getElem? (i := 3) rfl)) (imX1_find_own _ (List.mem_of_getElem? (i := 6) rfl)) hyX8_fill rfl rfl rfl rfl ⟨Nat.zero_le _, Nat.zero_le _⟩ [3] [0, 1, 2, 4, 5, 6, 7, 8, 9] (N := 10) (by decide +kernel) rfl rfl rfl rfl rfl dX1_find_113 rfl ?_
        refine g_iconst (np := 117) (v := (0 : Int32)) h (by decide) dX1_find_116 rfl ?_
        refine g_istore_n (np := 118) (lv' := [(3, .int (0 : Int32)), (2, .int ((256 : Int32) - (1 : Int32))), (0, .ref q0), (1, .ref q4)]) h rfl (by decide) rfl dX1_find_117 rfl ?_
        refine g_lv [2, 3, 1, 0] rfl ?_
        exact hL118 _ r2002 v_might v_most r2003 ((256 : Int32) - (1 : Int32)) (0 : Int32) hF
      · refine g_aload_n (np := 71) h 0 rfl rfl dX1_find_70 rfl ?_
        refine g_get (np := 74) (T := TX1) h imX1_find_u_X1 0 1 rfl rfl 1 (by decide) (imX1_find_own _ (List.mem_of_getElem? (i := 1) rfl)) rfl dX1_find_71 rfl ?_
        refine g_iload_n (np := 75) h 2 rfl rfl dX1_find_74 rfl ?_
        refine g_aload_n (np := 76) h 0 rfl rfl dX1_find_75 rfl ?_
        refine g_iload_n (np := 77) h 2 rfl rfl dX1_find_76 rfl ?_
        obtain ⟨r2004, hr2004, hF⟩ := Option.bind_eq_some_iff.mp hF
        refine g_callV (np := 80) (Wd' := (wdX1_find cI cZ q0 q1 q2 q3 q4 q5 q6 q7 q8 q9 d10 d11 d12 d13 d14 d15 d16 d17 v_count v_might v_most v_mate v_wreck v_piece v_partner v_year)) (As := [.int x2]) h (mX1_mostOf l D cI cZ q0 q1 q2 q3 v_might v_most v_count x2 r2004 hr2004) gcX1_find_X1_mostOf rfl ⟨rfl, rfl⟩ ⟨rfl, hyX1_mostOf⟩ rfl 1 0 rfl rfl rfl rfl rfl rfl ⟨Nat.zero_le _, Nat.zero_le _⟩ [0, 1, 2] [3, 4, 5, 6, 7, 8, 9] (N := 10) (by decide +kernel) rfl rfl rfl rfl rfl dX1_find_77 rfl ?_
        refine g_iast (np := 81) (Wd' := (wdX1_find cI cZ q0 q1 q2 q3 q4 q5 q6 q7 q8 q9 d10 d11 d12 d13 d14 d15 d16 d17 v_count v_might (wr v_most x2 r2004) v_mate v_wreck v_piece v_partner v_year)) h 2 rfl hF rfl dX1_find_80 rfl (fun hi2005 hF => ?_)
        refine g_iinc (np := 84) (v := (x2 + (1 : Int32))) (lv' := [(2, .int (x2 + (1 : Int32))), (0, .ref q0), (1, .ref q4)]) h 2 rfl rfl (by decide) rfl dX1_find_81 rfl ?_
        refine g_goto h dX1_find_84 (np := 61) rfl ?_
        refine g_lv [1, 2, 0] rfl ?_
        exact ih61 v_count v_might (wr v_most x2 r2004) v_mate (x2 + (1 : Int32)) hF
  have hL2 : ∀ (n2 : Nat) (v_count : Int32) (v_might : Nat → Int32) (v_most : Nat → Int32) (v_mate : Nat → Int32) (x2 : Int32), fX1_find_2 v_count v_most v_mate v_wreck v_piece v_partner n2 v_might x2 = some z → G l D E 5 0 0 (wdX1_find cI cZ q0 q1 q2 q3 q4 q5 q6 q7 q8 q9 d10 d11 d12 d13 d14 d15 d16 d17 v_count v_might v_most v_mate v_wreck v_piece v_partner v_year) 2 [(0, .ref q0), (1, .ref q4), (2, .int x2)] [] := by
    intro n2
    induction n2 with
    | zero =>
      intro v_count v_might v_most v_mate x2 hF
      rw [fX1_find_2] at hF
      cases hF
    | succ n2 ih2 =>
      have hL16 : ∀ (n16 : Nat) (v_count : Int32) (v_might : Nat → Int32) (v_most : Nat → Int32) (v_mate : Nat → Int32) (x2 : Int32) (x3 : Int32) (x4 : Int32), fX1_find_16 (fun y0 y1 => fX1_find_2 v_count v_most v_mate v_wreck v_piece v_partner n2 y0 y1) v_count v_might v_most v_mate v_wreck v_piece v_partner x2 n16 x3 x4 = some z → G l D E 5 0 0 (wdX1_find cI cZ q0 q1 q2 q3 q4 q5 q6 q7 q8 q9 d10 d11 d12 d13 d14 d15 d16 d17 v_count v_might v_most v_mate v_wreck v_piece v_partner v_year) 16 [(0, .ref q0), (1, .ref q4), (2, .int x2), (3, .int x3), (4, .int x4)] [] := by
        intro n16
        induction n16 with
        | zero =>
          intro v_count v_might v_most v_mate x2 x3 x4 hF
          rw [fX1_find_16] at hF
          cases hF
        | succ n16 ih16 =>
          intro v_count v_might v_most v_mate x2 x3 x4 hF
          rw [fX1_find_16] at hF
          refine g_iload (np := 18) h 4 rfl dX1_find_16 rfl ?_
          refine g_bipush (np := 20) (v := (8 : Int32)) h (by decide) dX1_find_18 rfl ?_
          refine g_icmp_ge h hF dX1_find_20 (np := 23) rfl (tg := 46) rfl (fun c3001 hF => ?_) (fun c3001 hF => ?_)
          · refine g_aload_n (np := 47) h 0 rfl rfl dX1_find_46 rfl ?_
            refine g_get (np := 50) (T := TX1) h imX1_find_u_X1 0 1 rfl rfl 0 (by decide) (imX1_find_own _ (List.mem_of_getElem? (i := 0) rfl)) rfl dX1_find_47 rfl ?_
            refine g_iload_n (np := 51) h 2 rfl rfl dX1_find_50 rfl ?_
            refine g_iload_n (np := 52) h 3 rfl rfl dX1_find_51 rfl ?_
            refine g_iast (np := 53) (Wd' := (wdX1_find cI cZ q0 q1 q2 q3 q4 q5 q6 q7 q8 q9 d10 d11 d12 d13 d14 d15 d16 d17 v_count (wr v_might x2 x3) v_most v_mate v_wreck v_piece v_partner v_year)) h 1 rfl hF rfl dX1_find_52 rfl (fun hi3002 hF => ?_)
            refine g_iinc (np := 56) (v := (x2 + (1 : Int32))) (lv' := [(2, .int (x2 + (1 : Int32))), (0, .ref q0), (1, .ref q4), (3, .int x3), (4, .int x4)]) h 2 rfl rfl (by decide) rfl dX1_find_53 rfl ?_
            refine g_goto h dX1_find_56 (np := 2) rfl ?_
            refine g_lv [1, 2, 0] rfl ?_
            exact ih2 v_count (wr v_might x2 x3) v_most v_mate (x2 + (1 : Int32)) hF
          · refine g_aload_n (np := 24) h 1 rfl rfl dX1_find_23 rfl ?_
            refine g_iload_n (np := 25) h 2 rfl rfl dX1_find_24 rfl ?_
            refine g_iload (np := 27) h 4 rfl dX1_find_25 rfl ?_
            obtain ⟨r3003, hr3003, hF⟩ := Option.bind_eq_some_iff.mp hF
            refine g_callV (np := 30) (Wd' := (wdX1_find cI cZ q0 q1 q2 q3 q4 q5 q6 q7 q8 q9 d10 d11 d12 d13 d14 d15 d16 d17 v_count v_might v_most v_mate v_wreck v_piece v_partner v_year)) (As := [.int x2, .int x4]) h (mX5_mightWed l D cI cZ q4 q5 q6 q7 q8 q9 d10 d11 d12 d13 d14 d15 d16 d17 v_wreck v_piece v_partner v_year x2 x4 r3003 hr3003) gcX1_find_X5_mightWed rfl ⟨rfl, rfl⟩ ⟨rfl, hyX5_mightWed⟩ rfl 5 4 rfl rfl rfl rfl rfl rfl ⟨Nat.zero_le _, Nat.zero_le _⟩ [4, 5, 6, 7, 8, 9] [0, 1, 2, 3] (N := 10) (by decide +kernel) rfl rfl rfl rfl rfl dX1_find_27 rfl ?_
            refine g_if_eq h hF dX1_find_30 (np := 33) rfl (tg := 40) rfl (fun c3004 hF => ?_) (fun c3004 hF => ?_)
            · refine g_iinc (np := 43) (v := (x4 + (1 : Int32))) (lv' := [(4, .int (x4 + (1 : Int32))), (0, .ref q0), (1, .ref q4), (2, .int x2), (3, .int x3)]) h 4 rfl rfl (by decide) rfl dX1_find_40 rfl ?_
              refine g_goto h dX1_find_43 (np := 16) rfl ?_
              refine g_lv [1, 2, 3, 4, 0] rfl ?_
              exact ih16 v_count v_might v_most v_mate x2 x3 (x4 + (1 : Int32)) hF
            · refine g_iload_n (np := 34) h 3 rfl rfl dX1_find_33 rfl ?_
              refine g_iconst (np := 35) (v := (1 : Int32)) h (by decide) dX1_find_34 rfl ?_
              refine g_iload (np := 37) h 4 rfl dX1_find_35 rfl ?_
              refine g_ishl (np := 38) h dX1_find_37 rfl ?_
              refine g_ior (np := 39) h dX1_find_38 rfl ?_
              refine g_istore_n (np := 40) (lv' := [(3, .int (x3 ||| (jshl (1 : Int32) x4))), (0, .ref q0), (1, .ref q4), (2, .int x2), (4, .int x4)]) h rfl (by decide) rfl dX1_find_39 rfl ?_
              refine g_iinc (np := 43) (v := (x4 + (1 : Int32))) (lv' := [(4, .int (x4 + (1 : Int32))), (3, .int (x3 ||| (jshl (1 : Int32) x4))), (0, .ref q0), (1, .ref q4), (2, .int x2)]) h 4 rfl rfl (by decide) rfl dX1_find_40 rfl ?_
              refine g_goto h dX1_find_43 (np := 16) rfl ?_
              refine g_lv [2, 3, 4, 1, 0] rfl ?_
              exact ih16 v_count v_might v_most v_mate x2 (x3 ||| (jshl (1 : Int32) x4)) (x4 + (1 : Int32)) hF
      intro v_count v_might v_most v_mate x2 hF
      rw [fX1_find_2] at hF
      refine g_iload_n (np := 3) h 2 rfl rfl dX1_find_2 rfl ?_
      refine g_aload_n (np := 4) h 0 rfl rfl dX1_find_3 rfl ?_
      refine g_get (np := 7) (T := TX1) h imX1_find_u_X1 0 1 rfl rfl 0 (by decide) (imX1_find_own _ (List.mem_of_getElem? (i := 0) rfl)) rfl dX1_find_4 rfl ?_
      refine g_alen (np := 8) (v := (8 : Int32)) h 1 rfl (by decide) dX1_find_7 rfl ?_
      refine g_icmp_ge h hF dX1_find_8 (np := 11) rfl (tg := 59) rfl (fun c4001 hF => ?_) (fun c4001 hF => ?_)
      · refine g_iconst (np := 60) (v := (1 : Int32)) h (by decide) dX1_find_59 rfl ?_
        refine g_istore_n (np := 61) (lv' := [(2, .int (1 : Int32)), (0, .ref q0), (1, .ref q4)]) h rfl (by decide) rfl dX1_find_60 rfl ?_
        refine g_lv [1, 2, 0] rfl ?_
        exact hL61 _ v_count v_might v_most v_mate (1 : Int32) hF
      · refine g_iconst (np := 12) (v := (0 : Int32)) h (by decide) dX1_find_11 rfl ?_
        refine g_istore_n (np := 13) (lv' := [(3, .int (0 : Int32)), (0, .ref q0), (1, .ref q4), (2, .int x2)]) h rfl (by decide) rfl dX1_find_12 rfl ?_
        refine g_iconst (np := 14) (v := (0 : Int32)) h (by decide) dX1_find_13 rfl ?_
        refine g_istore (np := 16) (lv' := [(4, .int (0 : Int32)), (3, .int (0 : Int32)), (0, .ref q0), (1, .ref q4), (2, .int x2)]) h (by decide) rfl dX1_find_14 rfl ?_
        refine g_lv [2, 3, 4, 1, 0] rfl ?_
        exact hL16 _ v_count v_might v_most v_mate x2 (0 : Int32) (0 : Int32) hF
  unfold fX1_find at hF
  refine g_iconst (np := 1) (v := (0 : Int32)) h (by decide) dX1_find_0 rfl ?_
  refine g_istore_n (np := 2) (lv' := [(2, .int (0 : Int32)), (0, .ref q0), (1, .ref q4)]) h rfl (by decide) rfl dX1_find_1 rfl ?_
  refine g_lv [1, 2, 0] rfl ?_
  exact hL2 _ v_count v_might v_most v_mate (0 : Int32) hF
