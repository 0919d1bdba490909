theorem dX9_heard_0 : decode cX9_heard 0 = .ok (.iload_n 1, 1) := by decide +kernel
theorem dX9_heard_1 : decode cX9_heard 1 = .ok (.invokestatic 106, 3) := by decide +kernel
theorem dX9_heard_4 : decode cX9_heard 4 = .ok (.ifCond .ne 5, 3) := by decide +kernel
theorem dX9_heard_7 : decode cX9_heard 7 = .ok (.iconst (-1), 1) := by decide +kernel
theorem dX9_heard_8 : decode cX9_heard 8 = .ok (.ireturn, 1) := by decide +kernel
theorem dX9_heard_9 : decode cX9_heard 9 = .ok (.iload_n 2, 1) := by decide +kernel
theorem dX9_heard_10 : decode cX9_heard 10 = .ok (.iconst 0, 1) := by decide +kernel
theorem dX9_heard_11 : decode cX9_heard 11 = .ok (.bipush 7, 2) := by decide +kernel
theorem dX9_heard_13 : decode cX9_heard 13 = .ok (.invokestatic 41, 3) := by decide +kernel
theorem dX9_heard_16 : decode cX9_heard 16 = .ok (.ifCond .ne 6, 3) := by decide +kernel
theorem dX9_heard_19 : decode cX9_heard 19 = .ok (.bipush (-2), 2) := by decide +kernel
theorem dX9_heard_21 : decode cX9_heard 21 = .ok (.ireturn, 1) := by decide +kernel
theorem dX9_heard_22 : decode cX9_heard 22 = .ok (.aload_n 0, 1) := by decide +kernel
theorem dX9_heard_23 : decode cX9_heard 23 = .ok (.getfield 132, 3) := by decide +kernel
theorem dX9_heard_26 : decode cX9_heard 26 = .ok (.bipush 8, 2) := by decide +kernel
theorem dX9_heard_28 : decode cX9_heard 28 = .ok (.if_icmp .ne 6, 3) := by decide +kernel
theorem dX9_heard_31 : decode cX9_heard 31 = .ok (.bipush (-4), 2) := by decide +kernel
theorem dX9_heard_33 : decode cX9_heard 33 = .ok (.ireturn, 1) := by decide +kernel
theorem dX9_heard_34 : decode cX9_heard 34 = .ok (.aload_n 0, 1) := by decide +kernel
theorem dX9_heard_35 : decode cX9_heard 35 = .ok (.getfield 19, 3) := by decide +kernel
theorem dX9_heard_38 : decode cX9_heard 38 = .ok (.iconst 3, 1) := by decide +kernel
theorem dX9_heard_39 : decode cX9_heard 39 = .ok (.aload_n 0, 1) := by decide +kernel
theorem dX9_heard_40 : decode cX9_heard 40 = .ok (.getfield 132, 3) := by decide +kernel
theorem dX9_heard_43 : decode cX9_heard 43 = .ok (.imul, 1) := by decide +kernel
theorem dX9_heard_44 : decode cX9_heard 44 = .ok (.iload_n 1, 1) := by decide +kernel
theorem dX9_heard_45 : decode cX9_heard 45 = .ok (.iastore, 1) := by decide +kernel
theorem dX9_heard_46 : decode cX9_heard 46 = .ok (.aload_n 0, 1) := by decide +kernel
theorem dX9_heard_47 : decode cX9_heard 47 = .ok (.getfield 19, 3) := by decide +kernel
theorem dX9_heard_50 : decode cX9_heard 50 = .ok (.iconst 3, 1) := by decide +kernel
theorem dX9_heard_51 : decode cX9_heard 51 = .ok (.aload_n 0, 1) := by decide +kernel
theorem dX9_heard_52 : decode cX9_heard 52 = .ok (.getfield 132, 3) := by decide +kernel
theorem dX9_heard_55 : decode cX9_heard 55 = .ok (.imul, 1) := by decide +kernel
theorem dX9_heard_56 : decode cX9_heard 56 = .ok (.iconst 1, 1) := by decide +kernel
theorem dX9_heard_57 : decode cX9_heard 57 = .ok (.iadd, 1) := by decide +kernel
theorem dX9_heard_58 : decode cX9_heard 58 = .ok (.iload_n 2, 1) := by decide +kernel
theorem dX9_heard_59 : decode cX9_heard 59 = .ok (.iastore, 1) := by decide +kernel
theorem dX9_heard_60 : decode cX9_heard 60 = .ok (.aload_n 0, 1) := by decide +kernel
theorem dX9_heard_61 : decode cX9_heard 61 = .ok (.getfield 19, 3) := by decide +kernel
theorem dX9_heard_64 : decode cX9_heard 64 = .ok (.iconst 3, 1) := by decide +kernel
theorem dX9_heard_65 : decode cX9_heard 65 = .ok (.aload_n 0, 1) := by decide +kernel
theorem dX9_heard_66 : decode cX9_heard 66 = .ok (.getfield 132, 3) := by decide +kernel
theorem dX9_heard_69 : decode cX9_heard 69 = .ok (.imul, 1) := by decide +kernel
theorem dX9_heard_70 : decode cX9_heard 70 = .ok (.iconst 2, 1) := by decide +kernel
theorem dX9_heard_71 : decode cX9_heard 71 = .ok (.iadd, 1) := by decide +kernel
theorem dX9_heard_72 : decode cX9_heard 72 = .ok (.iload_n 3, 1) := by decide +kernel
theorem dX9_heard_73 : decode cX9_heard 73 = .ok (.ifCond .eq 7, 3) := by decide +kernel
theorem dX9_heard_76 : decode cX9_heard 76 = .ok (.iconst 1, 1) := by decide +kernel
theorem dX9_heard_77 : decode cX9_heard 77 = .ok (.goto 4, 3) := by decide +kernel
theorem dX9_heard_80 : decode cX9_heard 80 = .ok (.iconst 0, 1) := by decide +kernel
theorem dX9_heard_81 : decode cX9_heard 81 = .ok (.iastore, 1) := by decide +kernel
theorem dX9_heard_82 : decode cX9_heard 82 = .ok (.aload_n 0, 1) := by decide +kernel
theorem dX9_heard_83 : decode cX9_heard 83 = .ok (.dup, 1) := by decide +kernel
theorem dX9_heard_84 : decode cX9_heard 84 = .ok (.getfield 132, 3) := by decide +kernel
theorem dX9_heard_87 : decode cX9_heard 87 = .ok (.iconst 1, 1) := by decide +kernel
theorem dX9_heard_88 : decode cX9_heard 88 = .ok (.iadd, 1) := by decide +kernel
theorem dX9_heard_89 : decode cX9_heard 89 = .ok (.putfield 132, 3) := by decide +kernel
theorem dX9_heard_92 : decode cX9_heard 92 = .ok (.aload_n 0, 1) := by decide +kernel
theorem dX9_heard_93 : decode cX9_heard 93 = .ok (.getfield 132, 3) := by decide +kernel
theorem dX9_heard_96 : decode cX9_heard 96 = .ok (.ireturn, 1) := by decide +kernel
def wtX9_heard : List Cond := .code yX9_heard cX9_heard 4 (some .int) :: (([.fieldLink RX9 132 "DriftKinModel" "sights" "I", .fieldLink RX9 19 "DriftKinModel" "sight" "[I"]) ++ ((u_ws RX9 TX9 15) ++ ((va_wsS RX9 106 yX9_isHouse wtX9_isHouse) ++ ((va_wsS RX9 41 yX9_in wtX9_in) ++ []))))
theorem imX9_heard_own : ∀ w ∈ ([.fieldLink RX9 132 "DriftKinModel" "sights" "I", .fieldLink RX9 19 "DriftKinModel" "sight" "[I"] : List Cond), w ∈ wtX9_heard := fun w h => List.mem_cons_of_mem _ (inl h)
theorem imX9_heard_u_X9 : ∀ w ∈ (u_ws RX9 TX9 15 : List Cond), w ∈ wtX9_heard := fun w h => List.mem_cons_of_mem _ (inr (inl h))
theorem imX9_heard_c_X9_isHouse : ∀ w ∈ (va_wsS RX9 106 yX9_isHouse wtX9_isHouse : List Cond), w ∈ wtX9_heard := fun w h => List.mem_cons_of_mem _ (inr (inr (inl h)))
theorem imX9_heard_c_X9_in : ∀ w ∈ (va_wsS RX9 41 yX9_in wtX9_in : List Cond), w ∈ wtX9_heard := fun w h => List.mem_cons_of_mem _ (inr (inr (inr (inl h))))
theorem gdX9_heard : ∀ w ∈ wtX9_heard, Gd w := gdc rfl (gda (gdl (by decide +kernel)) (gda (gdu _ _ _) (gda (gda (gdl (by decide +kernel)) gdX9_isHouse) (gda (gda (gdl (by decide +kernel)) gdX9_in) gdn))))
theorem gcX9_heard_X9_isHouse : GoodIn wtX9_heard (va_wsS RX9 106 yX9_isHouse wtX9_isHouse) := fun w h => ⟨imX9_heard_c_X9_isHouse w h, (gda (gdl (by decide +kernel)) gdX9_isHouse) w h⟩
theorem gcX9_heard_X9_in : GoodIn wtX9_heard (va_wsS RX9 41 yX9_in wtX9_in) := fun w h => ⟨imX9_heard_c_X9_in w h, (gda (gdl (by decide +kernel)) gdX9_in) w h⟩
def fX9_heard_81 (v_sights : Int32) (v_sight : Nat → Int32) (s0 : Int32) (s1 : Int32) : Option (Int32 × Int32 × (Nat → Int32)) :=
  chk s1 24 (
    some ((v_sights + (1 : Int32)), (v_sights + (1 : Int32)), (wr v_sight s1 s0)))
def fX9_heard (v_sights : Int32) (v_sight : Nat → Int32) (x1 : Int32) (x2 : Int32) (x3 : Int32) : Option (Int32 × Int32 × (Nat → Int32)) :=
  (fX9_isHouse x1).bind (fun r1 =>
    if r1 = (0 : Int32) then
      some ((-1 : Int32), v_sights, v_sight)
    else
      (fX9_in x2 (0 : Int32) (7 : Int32)).bind (fun r3 =>
        if r3 = (0 : Int32) then
          some ((-2 : Int32), v_sights, v_sight)
        else
          if v_sights = (8 : Int32) then
            some ((-4 : Int32), v_sights, v_sight)
          else
            chk ((3 : Int32) * v_sights) 24 (
              chk (((3 : Int32) * v_sights) + (1 : Int32)) 24 (
                if x3 = (0 : Int32) then
                  fX9_heard_81 v_sights (wr (wr v_sight ((3 : Int32) * v_sights) x1) (((3 : Int32) * v_sights) + (1 : Int32)) x2) (0 : Int32) (((3 : Int32) * v_sights) + (2 : Int32))
                else
                  fX9_heard_81 v_sights (wr (wr v_sight ((3 : Int32) * v_sights) x1) (((3 : Int32) * v_sights) + (1 : Int32)) x2) (1 : Int32) (((3 : Int32) * v_sights) + (2 : Int32))))))
def wdX9_heard (cI cZ : ClassId) (q0 : Nat) (q1 : Nat) (d2 : Nat) (d3 : Nat) (d4 : Nat) (d5 : Nat) (d6 : Nat) (d7 : Nat) (d8 : Nat) (d9 : Nat) (d10 : Nat)  (v_sights : Int32) (v_sight : Nat → Int32) (v_signs : Int32) (v_weddings : Int32) (v_reason : Int32) (v_acts : Int32) : va_W := [(q0, .inr (9, [.ref d2, .ref d3, .ref d4, .int v_sights, .ref q1, .int v_signs, .ref d5, .int v_weddings, .int v_reason, .int v_acts, .ref d6, .ref d7, .ref d8, .ref d9, .ref d10])), (q1, .inl (cI, 24, .inl v_sight))]
abbrev rmX9_heard : Jvm.Room := { frames := 2, cells := 0, slots := 0, locals := 42 }
theorem hyX9_heard : yX9_heard.cls ≠ "java/lang/invoke/MethodHandle" ∧ yX9_heard.cls ≠ "java/lang/invoke/VarHandle" ∧ (parseMethodDescriptor yX9_heard.desc).map (fun d => d.parameters.length) = some 3 := by decide +kernel
set_option maxHeartbeats 4000000 in
set_option maxRecDepth 100000 in
theorem mX9_heard (l : Launch) (D : va_G) (cI cZ : ClassId) (q0 : Nat) (q1 : Nat) (d2 : Nat) (d3 : Nat) (d4 : Nat) (d5 : Nat) (d6 : Nat) (d7 : Nat) (d8 : Nat) (d9 : Nat) (d10 : Nat) (v_sights : Int32) (v_sight : Nat → Int32) (v_signs : Int32) (v_weddings : Int32) (v_reason : Int32) (v_acts : Int32) (x1 : Int32) (x2 : Int32) (x3 : Int32) (z : Int32 × Int32 × (Nat → Int32)) (hF : fX9_heard v_sights v_sight x1 x2 x3 = some z) : mp l yX9_heard wtX9_heard rmX9_heard D cI cZ [.ref q0, .int x1, .int x2, .int x3] (wdX9_heard cI cZ q0 q1 d2 d3 d4 d5 d6 d7 d8 d9 d10 v_sights v_sight v_signs v_weddings v_reason v_acts) (some (.int z.1)) (wdX9_heard cI cZ q0 q1 d2 d3 d4 d5 d6 d7 d8 d9 d10 z.2.1 z.2.2 v_signs v_weddings v_reason v_acts) := by
  refine mp_i (lv0 := [(0, .ref q0), (1, .int x1), (2, .int x2), (3, .int x3)]) cX9_heard 4 z.1 (by decide) rfl (Nat.le_of_ble_eq_true rfl) rfl (fun E h hend0 => ?_)
  have hend : ∀ (z' : Int32 × Int32 × (Nat → Int32)), some z' = some z → ∀ (pc : Nat) (lv : List (Nat × Value)), decode cX9_heard pc = .ok (.ireturn, 1) → G l D E 4 0 0 (wdX9_heard cI cZ q0 q1 d2 d3 d4 d5 d6 d7 d8 d9 d10 (z'.2.1) (z'.2.2) v_signs v_weddings v_reason v_acts) pc lv [.int z'.1] := fun z' e => by cases e; exact hend0
  clear hend0
  have hL81 : ∀ (v_sights : Int32) (v_sight : Nat → Int32) (s0 : Int32) (s1 : Int32), fX9_heard_81 v_sights v_sight s0 s1 = some z → G l D E 4 0 0 (wdX9_heard cI cZ q0 q1 d2 d3 d4 d5 d6 d7 d8 d9 d10 v_sights v_sight v_signs v_weddings v_reason v_acts) 81 [(0, .ref q0)] [.int s0, .int s1, .ref q1] := by
    intro v_sights v_sight s0 s1 hF
    rw [fX9_heard_81] at hF
    refine g_iast (np := 82) (Wd' := (wdX9_heard cI cZ q0 q1 d2 d3 d4 d5 d6 d7 d8 d9 d10 v_sights (wr v_sight s1 s0) v_signs v_weddings v_reason v_acts)) h 1 rfl hF rfl dX9_heard_81 rfl (fun hi1001 hF => ?_)
    refine g_aload_n (np := 83) h 0 rfl rfl dX9_heard_82 rfl ?_
    refine g_dup (np := 84) h rfl dX9_heard_83 rfl ?_
    refine g_get (np := 87) (T := TX9) h imX9_heard_u_X9 0 9 rfl rfl 3 (by decide) (imX9_heard_own _ (List.mem_of_getElem? (i := 0) rfl)) rfl dX9_heard_84 rfl ?_
    refine g_iconst (np := 88) (v := (1 : Int32)) h (by decide) dX9_heard_87 rfl ?_
    refine g_iadd (np := 89) h dX9_heard_88 rfl ?_
    refine g_put (np := 92) (T := TX9) (Wd' := (wdX9_heard cI cZ q0 q1 d2 d3 d4 d5 d6 d7 d8 d9 d10 (v_sights + (1 : Int32)) (wr v_sight s1 s0) v_signs v_weddings v_reason v_acts)) h imX9_heard_u_X9 tyX9_ok nmX9 0 9 rfl rfl 3 (by decide) (imX9_heard_own _ (List.mem_of_getElem? (i := 0) rfl)) rfl rfl rfl (Nat.le_of_ble_eq_true rfl) rfl dX9_heard_89 rfl ?_
    refine g_aload_n (np := 93) h 0 rfl rfl dX9_heard_92 rfl ?_
    refine g_get (np := 96) (T := TX9) h imX9_heard_u_X9 0 9 rfl rfl 3 (by decide) (imX9_heard_own _ (List.mem_of_getElem? (i := 0) rfl)) rfl dX9_heard_93 rfl ?_
    exact hend _ hF _ _ dX9_heard_96
  unfold fX9_heard at hF
  refine g_iload_n (np := 1) h 1 rfl rfl dX9_heard_0 rfl ?_
  obtain ⟨r1, hr1, hF⟩ := Option.bind_eq_some_iff.mp hF
  refine g_callS (np := 4) (Wd' := (wdX9_heard cI cZ q0 q1 d2 d3 d4 d5 d6 d7 d8 d9 d10 v_sights v_sight v_signs v_weddings v_reason v_acts)) (As := [.int x1]) h (mX9_isHouse l D cI cZ x1 r1 hr1) gcX9_heard_X9_isHouse rfl ⟨rfl, rfl⟩ hyX9_isHouse rfl rfl rfl rfl ⟨Nat.zero_le _, Nat.zero_le _⟩ [] [0, 1] (N := 2) (by decide +kernel) rfl rfl rfl rfl rfl dX9_heard_1 rfl ?_
  refine g_if_ne h hF dX9_heard_4 (np := 7) rfl (tg := 9) rfl (fun c2 hF => ?_) (fun c2 hF => ?_)
  · refine g_iload_n (np := 10) h 2 rfl rfl dX9_heard_9 rfl ?_
    refine g_iconst (np := 11) (v := (0 : Int32)) h (by decide) dX9_heard_10 rfl ?_
    refine g_bipush (np := 13) (v := (7 : Int32)) h (by decide) dX9_heard_11 rfl ?_
    obtain ⟨r3, hr3, hF⟩ := Option.bind_eq_some_iff.mp hF
    refine g_callS (np := 16) (Wd' := (wdX9_heard cI cZ q0 q1 d2 d3 d4 d5 d6 d7 d8 d9 d10 v_sights v_sight v_signs v_weddings v_reason v_acts)) (As := [.int x2, .int (0 : Int32), .int (7 : Int32)]) h (mX9_in l D cI cZ x2 (0 : Int32) (7 : Int32) r3 hr3) gcX9_heard_X9_in rfl ⟨rfl, rfl⟩ hyX9_in rfl rfl rfl rfl ⟨Nat.zero_le _, Nat.zero_le _⟩ [] [0, 1] (N := 2) (by decide +kernel) rfl rfl rfl rfl rfl dX9_heard_13 rfl ?_
    refine g_if_ne h hF dX9_heard_16 (np := 19) rfl (tg := 22) rfl (fun c4 hF => ?_) (fun c4 hF => ?_)
    · refine g_aload_n (np := 23) h 0 rfl rfl dX9_heard_22 rfl ?_
      refine g_get (np := 26) (T := TX9) h imX9_heard_u_X9 0 9 rfl rfl 3 (by decide) (imX9_heard_own _ (List.mem_of_getElem? (i := 0) rfl)) rfl dX9_heard_23 rfl ?_
      refine g_bipush (np := 28) (v := (8 : Int32)) h (by decide) dX9_heard_26 rfl ?_
      refine g_icmp_ne h hF dX9_heard_28 (np := 31) rfl (tg := 34) rfl (fun c5 hF => ?_) (fun c5 hF => ?_)
      · refine g_aload_n (np := 35) h 0 rfl rfl dX9_heard_34 rfl ?_
        refine g_get (np := 38) (T := TX9) h imX9_heard_u_X9 0 9 rfl rfl 4 (by decide) (imX9_heard_own _ (List.mem_of_getElem? (i := 1) rfl)) rfl dX9_heard_35 rfl ?_
        refine g_iconst (np := 39) (v := (3 : Int32)) h (by decide) dX9_heard_38 rfl ?_
        refine g_aload_n (np := 40) h 0 rfl rfl dX9_heard_39 rfl ?_
        refine g_get (np := 43) (T := TX9) h imX9_heard_u_X9 0 9 rfl rfl 3 (by decide) (imX9_heard_own _ (List.mem_of_getElem? (i := 0) rfl)) rfl dX9_heard_40 rfl ?_
        refine g_imul (np := 44) h dX9_heard_43 rfl ?_
        refine g_iload_n (np := 45) h 1 rfl rfl dX9_heard_44 rfl ?_
        refine g_iast (np := 46) (Wd' := (wdX9_heard cI cZ q0 q1 d2 d3 d4 d5 d6 d7 d8 d9 d10 v_sights (wr v_sight ((3 : Int32) * v_sights) x1) v_signs v_weddings v_reason v_acts)) h 1 rfl hF rfl dX9_heard_45 rfl (fun hi6 hF => ?_)
        refine g_aload_n (np := 47) h 0 rfl rfl dX9_heard_46 rfl ?_
        refine g_get (np := 50) (T := TX9) h imX9_heard_u_X9 0 9 rfl rfl 4 (by decide) (imX9_heard_own _ (List.mem_of_getElem? (i := 1) rfl)) rfl dX9_heard_47 rfl ?_
        refine g_iconst (np := 51) (v := (3 : Int32)) h (by decide) dX9_heard_50 rfl ?_
        refine g_aload_n (np := 52) h 0 rfl rfl dX9_heard_51 rfl ?_
        refine g_get (np := 55) (T := TX9) h imX9_heard_u_X9 0 9 rfl rfl 3 (by decide) (imX9_heard_own _ (List.mem_of_getElem? (i := 0) rfl)) rfl dX9_heard_52 rfl ?_
        refine g_imul (np := 56) h dX9_heard_55 rfl ?_
        refine g_iconst (np := 57) (v := (1 : Int32)) h (by decide) dX9_heard_56 rfl ?_
        refine g_iadd (np := 58) h dX9_heard_57 rfl ?_
        refine g_iload_n (np := 59) h 2 rfl rfl dX9_heard_58 rfl ?_
        refine g_iast (np := 60) (Wd' := (wdX9_heard cI cZ q0 q1 d2 d3 d4 d5 d6 d7 d8 d9 d10 v_sights (wr (wr v_sight ((3 : Int32) * v_sights) x1) (((3 : Int32) * v_sights) + (1 : Int32)) x2) v_signs v_weddings v_reason v_acts)) h 1 rfl hF rfl dX9_heard_59 rfl (fun hi7 hF => ?_)
        refine g_aload_n (np := 61) h 0 rfl rfl dX9_heard_60 rfl ?_
        refine g_get (np := 64) (T := TX9) h imX9_heard_u_X9 0 9 rfl rfl 4 (by decide) (imX9_heard_own _ (List.mem_of_getElem? (i := 1) rfl)) rfl dX9_heard_61 rfl ?_
        refine g_iconst (np := 65) (v := (3 : Int32)) h (by decide) dX9_heard_64 rfl ?_
        refine g_aload_n (np := 66) h 0 rfl rfl dX9_heard_65 rfl ?_
        refine g_get (np := 69) (T := TX9) h imX9_heard_u_X9 0 9 rfl rfl 3 (by decide) (imX9_heard_own _ (List.mem_of_getElem? (i := 0) rfl)) rfl dX9_heard_66 rfl ?_
        refine g_imul (np := 70) h dX9_heard_69 rfl ?_
        refine g_iconst (np := 71) (v := (2 : Int32)) h (by decide) dX9_heard_70 rfl ?_
        refine g_iadd (np := 72) h dX9_heard_71 rfl ?_
        refine g_iload_n (np := 73) h 3 rfl rfl dX9_heard_72 rfl ?_
        refine g_if_eq h hF dX9_heard_73 (np := 76) rfl (tg := 80) rfl (fun c8 hF => ?_) (fun c8 hF => ?_)
        · refine g_iconst (np := 81) (v := (0 : Int32)) h (by decide) dX9_heard_80 rfl ?_
          refine g_lv [0] rfl ?_
          exact hL81 v_sights (wr (wr v_sight ((3 : Int32) * v_sights) x1) (((3 : Int32) * v_sights) + (1 : Int32)) x2) (0 : Int32) (((3 : Int32) * v_sights) + (2 : Int32)) hF
        · refine g_iconst (np := 77) (v := (1 : Int32)) h (by decide) dX9_heard_76 rfl ?_
          refine g_goto h dX9_heard_77 (np := 81) rfl ?_
          refine g_lv [0] rfl ?_
          exact hL81 v_sights (wr (wr v_sight ((3 : Int32) * v_sights) x1) (((3 : Int32) * v_sights) + (1 : Int32)) x2) (1 : Int32) (((3 : Int32) * v_sights) + (2 : Int32)) hF
      · refine g_bipush (np := 33) (v := (-4 : Int32)) h (by decide) dX9_heard_31 rfl ?_
        exact hend _ hF _ _ dX9_heard_33
    · refine g_bipush (np := 21) (v := (-2 : Int32)) h (by decide) dX9_heard_19 rfl ?_
      exact hend _ hF _ _ dX9_heard_21
  · refine g_iconst (np := 8) (v := (-1 : Int32)) h (by decide) dX9_heard_7 rfl ?_
    exact hend _ hF _ _ dX9_heard_8
theorem dX9_forget_0 : decode cX9_forget 0 = .ok (.aload_n 0, 1) := by decide +kernel
theorem dX9_forget_1 : decode cX9_forget 1 = .ok (.getfield 132, 3) := by decide +kernel
theorem dX9_forget_4 : decode cX9_forget 4 = .ok (.istore_n 1, 1) := by decide +kernel
theorem dX9_forget_5 : decode cX9_forget 5 = .ok (.aload_n 0, 1) := by decide +kernel
theorem dX9_forget_6 : decode cX9_forget 6 = .ok (.iconst 0, 1) := by decide +kernel
theorem dX9_forget_7 : decode cX9_forget 7 = .ok (.putfield 132, 3) := by decide +kernel
theorem dX9_forget_10 : decode cX9_forget 10 = .ok (.iload_n 1, 1) := by decide +kernel
theorem dX9_forget_11 : decode cX9_forget 11 = .ok (.ireturn, 1) := by decide +kernel
def wtX9_forget : List Cond := .code yX9_forget cX9_forget 2 (some .int) :: (([.fieldLink RX9 132 "DriftKinModel" "sights" "I"]) ++ ((u_ws RX9 TX9 15) ++ []))
theorem imX9_forget_own : ∀ w ∈ ([.fieldLink RX9 132 "DriftKinModel" "sights" "I"] : List Cond), w ∈ wtX9_forget := fun w h => List.mem_cons_of_mem _ (inl h)
theorem imX9_forget_u_X9 : ∀ w ∈ (u_ws RX9 TX9 15 : List Cond), w ∈ wtX9_forget := fun w h => List.mem_cons_of_mem _ (inr (inl h))
theorem gdX9_forget : ∀ w ∈ wtX9_forget, Gd w := gdc rfl (gda (gdl (by decide +kernel)) (gda (gdu _ _ _) gdn))
def fX9_forget (v_sights : Int32) : Option (Int32 × Int32) :=
  some (v_sights, (0 : Int32))
def wdX9_forget (cI cZ : ClassId) (q0 : Nat) (d1 : Nat) (d2 : Nat) (d3 : Nat) (d4 : Nat) (d5 : Nat) (d6 : Nat) (d7 : Nat) (d8 : Nat) (d9 : Nat) (d10 : Nat)  (v_sights : Int32) (v_signs : Int32) (v_weddings : Int32) (v_reason : Int32) (v_acts : Int32) : va_W := [(q0, .inr (9, [.ref d1, .ref d2, .ref d3, .int v_sights, .ref d4, .int v_signs, .ref d5, .int v_weddings, .int v_reason, .int v_acts, .ref d6, .ref d7, .ref d8, .ref d9, .ref d10]))]
abbrev rmX9_forget : Jvm.Room := { frames := 0, cells := 0, slots := 0, locals := 0 }
theorem hyX9_forget : yX9_forget.cls ≠ "java/lang/invoke/MethodHandle" ∧ yX9_forget.cls ≠ "java/lang/invoke/VarHandle" ∧ (parseMethodDescriptor yX9_forget.desc).map (fun d => d.parameters.length) = some 0 := by decide +kernel
set_option maxHeartbeats 4000000 in
set_option maxRecDepth 100000 in
theorem mX9_forget (l : Launch) (D : va_G) (cI cZ : ClassId) (q0 : Nat) (d1 : Nat) (d2 : Nat) (d3 : Nat) (d4 : Nat) (d5 : Nat) (d6 : Nat) (d7 : Nat) (d8 : Nat) (d9 : Nat) (d10 : Nat) (v_sights : Int32) (v_signs : Int32) (v_weddings : Int32) (v_reason : Int32) (v_acts : Int32) (z : Int32 × Int32) (hF : fX9_forget v_sights = some z) : mp l yX9_forget wtX9_forget rmX9_forget D cI cZ [.ref q0] (wdX9_forget cI cZ q0 d1 d2 d3 d4 d5 d6 d7 d8 d9 d10 v_sights v_signs v_weddings v_reason v_acts) (some (.int z.1)) (wdX9_forget cI cZ q0 d1 d2 d3 d4 d5 d6 d7 d8 d9 d10 z.2 v_signs v_weddings v_reason v_acts) := by
  refine mp_i (lv0 := [(0, .ref q0)]) cX9_forget 2 z.1 (by decide) rfl (Nat.le_of_ble_eq_true rfl) rfl (fun E h hend0 => ?_)
  have hend : ∀ (z' : Int32 × Int32), some z' = some z → ∀ (pc : Nat) (lv : List (Nat × Value)), decode cX9_forget pc = .ok (.ireturn, 1) → G l D E 2 0 0 (wdX9_forget cI cZ q0 d1 d2 d3 d4 d5 d6 d7 d8 d9 d10 (z'.2) v_signs v_weddings v_reason v_acts) pc lv [.int z'.1] := fun z' e => by cases e; exact hend0
  clear hend0
  unfold fX9_forget at hF
  refine g_aload_n (np := 1) h 0 rfl rfl dX9_forget_0 rfl ?_
  refine g_get (np := 4) (T := TX9) h imX9_forget_u_X9 0 9 rfl rfl 3 (by decide) (imX9_forget_own _ (List.mem_of_getElem? (i := 0) rfl)) rfl dX9_forget_1 rfl ?_
  refine g_istore_n (np := 5) (lv' := [(1, .int v_sights), (0, .ref q0)]) h rfl (by decide) rfl dX9_forget_4 rfl ?_
  refine g_aload_n (np := 6) h 1 rfl rfl dX9_forget_5 rfl ?_
  refine g_iconst (np := 7) (v := (0 : Int32)) h (by decide) dX9_forget_6 rfl ?_
  refine g_put (np := 10) (T := TX9) (Wd' := (wdX9_forget cI cZ q0 d1 d2 d3 d4 d5 d6 d7 d8 d9 d10 (0 : Int32) v_signs v_weddings v_reason v_acts)) h imX9_forget_u_X9 tyX9_ok nmX9 0 9 rfl rfl 3 (by decide) (imX9_forget_own _ (List.mem_of_getElem? (i := 0) rfl)) rfl rfl rfl (Nat.le_of_ble_eq_true rfl) rfl dX9_forget_7 rfl ?_
  refine g_iload_n (np := 11) h 0 rfl rfl dX9_forget_10 rfl ?_
  exact hend _ hF _ _ dX9_forget_11
theorem dX9_wheelSet_0 : decode cX9_wheelSet 0 = .ok (.iconst 0, 1) := by decide +kernel
theorem dX9_wheelSet_1 : decode cX9_wheelSet 1 = .ok (.istore_n 1, 1) := by decide +kernel
theorem dX9_wheelSet_2 : decode cX9_wheelSet 2 = .ok (.iconst 0, 1) := by decide +kernel
theorem dX9_wheelSet_3 : decode cX9_wheelSet 3 = .ok (.istore_n 2, 1) := by decide +kernel
theorem dX9_wheelSet_4 : decode cX9_wheelSet 4 = .ok (.iload_n 2, 1) := by decide +kernel
theorem dX9_wheelSet_5 : decode cX9_wheelSet 5 = .ok (.bipush 8, 2) := by decide +kernel
theorem dX9_wheelSet_7 : decode cX9_wheelSet 7 = .ok (.if_icmp .ge 108, 3) := by decide +kernel
theorem dX9_wheelSet_10 : decode cX9_wheelSet 10 = .ok (.iconst 1, 1) := by decide +kernel
theorem dX9_wheelSet_11 : decode cX9_wheelSet 11 = .ok (.istore_n 3, 1) := by decide +kernel
theorem dX9_wheelSet_12 : decode cX9_wheelSet 12 = .ok (.iconst 0, 1) := by decide +kernel
theorem dX9_wheelSet_13 : decode cX9_wheelSet 13 = .ok (.istore 4, 2) := by decide +kernel
theorem dX9_wheelSet_15 : decode cX9_wheelSet 15 = .ok (.iload 4, 2) := by decide +kernel
theorem dX9_wheelSet_17 : decode cX9_wheelSet 17 = .ok (.aload_n 0, 1) := by decide +kernel
theorem dX9_wheelSet_18 : decode cX9_wheelSet 18 = .ok (.getfield 132, 3) := by decide +kernel
theorem dX9_wheelSet_21 : decode cX9_wheelSet 21 = .ok (.if_icmp .ge 74, 3) := by decide +kernel
theorem dX9_wheelSet_24 : decode cX9_wheelSet 24 = .ok (.aload_n 0, 1) := by decide +kernel
theorem dX9_wheelSet_25 : decode cX9_wheelSet 25 = .ok (.getfield 19, 3) := by decide +kernel
theorem dX9_wheelSet_28 : decode cX9_wheelSet 28 = .ok (.iconst 3, 1) := by decide +kernel
theorem dX9_wheelSet_29 : decode cX9_wheelSet 29 = .ok (.iload 4, 2) := by decide +kernel
theorem dX9_wheelSet_31 : decode cX9_wheelSet 31 = .ok (.imul, 1) := by decide +kernel
theorem dX9_wheelSet_32 : decode cX9_wheelSet 32 = .ok (.iconst 1, 1) := by decide +kernel
theorem dX9_wheelSet_33 : decode cX9_wheelSet 33 = .ok (.iadd, 1) := by decide +kernel
theorem dX9_wheelSet_34 : decode cX9_wheelSet 34 = .ok (.iaload, 1) := by decide +kernel
theorem dX9_wheelSet_35 : decode cX9_wheelSet 35 = .ok (.istore 5, 2) := by decide +kernel
theorem dX9_wheelSet_37 : decode cX9_wheelSet 37 = .ok (.iload_n 3, 1) := by decide +kernel
theorem dX9_wheelSet_38 : decode cX9_wheelSet 38 = .ok (.ifCond .eq 49, 3) := by decide +kernel
theorem dX9_wheelSet_41 : decode cX9_wheelSet 41 = .ok (.iload_n 2, 1) := by decide +kernel
theorem dX9_wheelSet_42 : decode cX9_wheelSet 42 = .ok (.aload_n 0, 1) := by decide +kernel
theorem dX9_wheelSet_43 : decode cX9_wheelSet 43 = .ok (.getfield 19, 3) := by decide +kernel
theorem dX9_wheelSet_46 : decode cX9_wheelSet 46 = .ok (.iconst 3, 1) := by decide +kernel
theorem dX9_wheelSet_47 : decode cX9_wheelSet 47 = .ok (.iload 4, 2) := by decide +kernel
theorem dX9_wheelSet_49 : decode cX9_wheelSet 49 = .ok (.imul, 1) := by decide +kernel
theorem dX9_wheelSet_50 : decode cX9_wheelSet 50 = .ok (.iaload, 1) := by decide +kernel
theorem dX9_wheelSet_51 : decode cX9_wheelSet 51 = .ok (.isub, 1) := by decide +kernel
theorem dX9_wheelSet_52 : decode cX9_wheelSet 52 = .ok (.iload 5, 2) := by decide +kernel
theorem dX9_wheelSet_54 : decode cX9_wheelSet 54 = .ok (.ineg, 1) := by decide +kernel
theorem dX9_wheelSet_55 : decode cX9_wheelSet 55 = .ok (.iload 5, 2) := by decide +kernel
theorem dX9_wheelSet_57 : decode cX9_wheelSet 57 = .ok (.invokestatic 41, 3) := by decide +kernel
theorem dX9_wheelSet_60 : decode cX9_wheelSet 60 = .ok (.aload_n 0, 1) := by decide +kernel
theorem dX9_wheelSet_61 : decode cX9_wheelSet 61 = .ok (.getfield 19, 3) := by decide +kernel
theorem dX9_wheelSet_64 : decode cX9_wheelSet 64 = .ok (.iconst 3, 1) := by decide +kernel
theorem dX9_wheelSet_65 : decode cX9_wheelSet 65 = .ok (.iload 4, 2) := by decide +kernel
theorem dX9_wheelSet_67 : decode cX9_wheelSet 67 = .ok (.imul, 1) := by decide +kernel
theorem dX9_wheelSet_68 : decode cX9_wheelSet 68 = .ok (.iconst 2, 1) := by decide +kernel
theorem dX9_wheelSet_69 : decode cX9_wheelSet 69 = .ok (.iadd, 1) := by decide +kernel
theorem dX9_wheelSet_70 : decode cX9_wheelSet 70 = .ok (.iaload, 1) := by decide +kernel
theorem dX9_wheelSet_71 : decode cX9_wheelSet 71 = .ok (.iconst 1, 1) := by decide +kernel
theorem dX9_wheelSet_72 : decode cX9_wheelSet 72 = .ok (.if_icmp .ne 7, 3) := by decide +kernel
theorem dX9_wheelSet_75 : decode cX9_wheelSet 75 = .ok (.iconst 1, 1) := by decide +kernel
theorem dX9_wheelSet_76 : decode cX9_wheelSet 76 = .ok (.goto 4, 3) := by decide +kernel
theorem dX9_wheelSet_79 : decode cX9_wheelSet 79 = .ok (.iconst 0, 1) := by decide +kernel
theorem dX9_wheelSet_80 : decode cX9_wheelSet 80 = .ok (.if_icmp .ne 7, 3) := by decide +kernel
theorem dX9_wheelSet_83 : decode cX9_wheelSet 83 = .ok (.iconst 1, 1) := by decide +kernel
theorem dX9_wheelSet_84 : decode cX9_wheelSet 84 = .ok (.goto 4, 3) := by decide +kernel
theorem dX9_wheelSet_87 : decode cX9_wheelSet 87 = .ok (.iconst 0, 1) := by decide +kernel
theorem dX9_wheelSet_88 : decode cX9_wheelSet 88 = .ok (.istore_n 3, 1) := by decide +kernel
theorem dX9_wheelSet_89 : decode cX9_wheelSet 89 = .ok (.iinc 4 1, 3) := by decide +kernel
theorem dX9_wheelSet_92 : decode cX9_wheelSet 92 = .ok (.goto (-77), 3) := by decide +kernel
theorem dX9_wheelSet_95 : decode cX9_wheelSet 95 = .ok (.iload_n 1, 1) := by decide +kernel
theorem dX9_wheelSet_96 : decode cX9_wheelSet 96 = .ok (.iload_n 3, 1) := by decide +kernel
theorem dX9_wheelSet_97 : decode cX9_wheelSet 97 = .ok (.ifCond .eq 9, 3) := by decide +kernel
theorem dX9_wheelSet_100 : decode cX9_wheelSet 100 = .ok (.iconst 1, 1) := by decide +kernel
theorem dX9_wheelSet_101 : decode cX9_wheelSet 101 = .ok (.iload_n 2, 1) := by decide +kernel
theorem dX9_wheelSet_102 : decode cX9_wheelSet 102 = .ok (.ishl, 1) := by decide +kernel
theorem dX9_wheelSet_103 : decode cX9_wheelSet 103 = .ok (.goto 4, 3) := by decide +kernel
theorem dX9_wheelSet_106 : decode cX9_wheelSet 106 = .ok (.iconst 0, 1) := by decide +kernel
theorem dX9_wheelSet_107 : decode cX9_wheelSet 107 = .ok (.ior, 1) := by decide +kernel
theorem dX9_wheelSet_108 : decode cX9_wheelSet 108 = .ok (.istore_n 1, 1) := by decide +kernel
theorem dX9_wheelSet_109 : decode cX9_wheelSet 109 = .ok (.iinc 2 1, 3) := by decide +kernel
theorem dX9_wheelSet_112 : decode cX9_wheelSet 112 = .ok (.goto (-108), 3) := by decide +kernel
theorem dX9_wheelSet_115 : decode cX9_wheelSet 115 = .ok (.iload_n 1, 1) := by decide +kernel
theorem dX9_wheelSet_116 : decode cX9_wheelSet 116 = .ok (.ireturn, 1) := by decide +kernel
def wtX9_wheelSet : List Cond := .code yX9_wheelSet cX9_wheelSet 6 (some .int) :: (([.fieldLink RX9 132 "DriftKinModel" "sights" "I", .fieldLink RX9 19 "DriftKinModel" "sight" "[I"]) ++ ((u_ws RX9 TX9 15) ++ ((va_wsS RX9 41 yX9_in wtX9_in) ++ [])))
theorem imX9_wheelSet_own : ∀ w ∈ ([.fieldLink RX9 132 "DriftKinModel" "sights" "I", .fieldLink RX9 19 "DriftKinModel" "sight" "[I"] : List Cond), w ∈ wtX9_wheelSet := fun w h => List.mem_cons_of_mem _ (inl h)
theorem imX9_wheelSet_u_X9 : ∀ w ∈ (u_ws RX9 TX9 15 : List Cond), w ∈ wtX9_wheelSet := fun w h => List.mem_cons_of_mem _ (inr (inl h))
theorem imX9_wheelSet_c_X9_in : ∀ w ∈ (va_wsS RX9 41 yX9_in wtX9_in : List Cond), w ∈ wtX9_wheelSet := fun w h => List.mem_cons_of_mem _ (inr (inr (inl h)))
theorem gdX9_wheelSet : ∀ w ∈ wtX9_wheelSet, Gd w := gdc rfl (gda (gdl (by decide +kernel)) (gda (gdu _ _ _) (gda (gda (gdl (by decide +kernel)) gdX9_in) gdn)))
theorem gcX9_wheelSet_X9_in : GoodIn wtX9_wheelSet (va_wsS RX9 41 yX9_in wtX9_in) := fun w h => ⟨imX9_wheelSet_c_X9_in w h, (gda (gdl (by decide +kernel)) gdX9_in) w h⟩
def fX9_wheelSet_80 (k4 : Int32 → Int32 → Option (Int32)) (k15 : Int32 → Int32 → Option (Int32)) (v_sights : Int32) (v_sight : Nat → Int32) (x1 : Int32) (x2 : Int32) (x4 : Int32) (s0 : Int32) (s1 : Int32) : Option (Int32) :=
  if s1 = s0 then
    k15 (1 : Int32) (x4 + (1 : Int32))
  else
    k15 (0 : Int32) (x4 + (1 : Int32))
def fX9_wheelSet_15 (k4 : Int32 → Int32 → Option (Int32)) (v_sights : Int32) (v_sight : Nat → Int32) (x1 : Int32) (x2 : Int32) : Nat → Int32 → Int32 → Option (Int32)
  | 0, _, _ => none
  | n + 1, x3, x4 =>
    if v_sights ≤ x4 then
      if x3 = (0 : Int32) then
        k4 (x1 ||| (0 : Int32)) (x2 + (1 : Int32))
      else
        k4 (x1 ||| (jshl (1 : Int32) x2)) (x2 + (1 : Int32))
    else
      chk (((3 : Int32) * x4) + (1 : Int32)) 24 (
        if x3 = (0 : Int32) then
          fX9_wheelSet_15 k4 v_sights v_sight x1 x2 n (0 : Int32) (x4 + (1 : Int32))
        else
          chk ((3 : Int32) * x4) 24 (
            (fX9_in (x2 - (rd v_sight ((3 : Int32) * x4))) (-(rd v_sight (((3 : Int32) * x4) + (1 : Int32)))) (rd v_sight (((3 : Int32) * x4) + (1 : Int32)))).bind (fun r2006 =>
              chk (((3 : Int32) * x4) + (2 : Int32)) 24 (
                if (rd v_sight (((3 : Int32) * x4) + (2 : Int32))) = (1 : Int32) then
                  fX9_wheelSet_80 k4 (fun y0 y1 => fX9_wheelSet_15 k4 v_sights v_sight x1 x2 n y0 y1) v_sights v_sight x1 x2 x4 (1 : Int32) r2006
                else
                  fX9_wheelSet_80 k4 (fun y0 y1 => fX9_wheelSet_15 k4 v_sights v_sight x1 x2 n y0 y1) v_sights v_sight x1 x2 x4 (0 : Int32) r2006))))
def fX9_wheelSet_4 (v_sights : Int32) (v_sight : Nat → Int32) : Nat → Int32 → Int32 → Option (Int32)
  | 0, _, _ => none
  | n + 1, x1, x2 =>
    if (8 : Int32) ≤ x2 then
      some x1
    else
      fX9_wheelSet_15 (fun y0 y1 => fX9_wheelSet_4 v_sights v_sight n y0 y1) v_sights v_sight x1 x2 2000 (1 : Int32) (0 : Int32)
def fX9_wheelSet (v_sights : Int32) (v_sight : Nat → Int32) : Option (Int32) :=
  fX9_wheelSet_4 v_sights v_sight 2000 (0 : Int32) (0 : Int32)
def wdX9_wheelSet (cI cZ : ClassId) (q0 : Nat) (q1 : Nat) (d2 : Nat) (d3 : Nat) (d4 : Nat) (d5 : Nat) (d6 : Nat) (d7 : Nat) (d8 : Nat) (d9 : Nat) (d10 : Nat)  (v_sights : Int32) (v_sight : Nat → Int32) (v_signs : Int32) (v_weddings : Int32) (v_reason : Int32) (v_acts : Int32) : va_W := [(q0, .inr (9, [.ref d2, .ref d3, .ref d4, .int v_sights, .ref q1, .int v_signs, .ref d5, .int v_weddings, .int v_reason, .int v_acts, .ref d6, .ref d7, .ref d8, .ref d9, .ref d10])), (q1, .inl (cI, 24, .inl v_sight))]
abbrev rmX9_wheelSet : Jvm.Room := { frames := 1, cells := 0, slots := 0, locals := 22 }
theorem hyX9_wheelSet : yX9_wheelSet.cls ≠ "java/lang/invoke/MethodHandle" ∧ yX9_wheelSet.cls ≠ "java/lang/invoke/VarHandle" ∧ (parseMethodDescriptor yX9_wheelSet.desc).map (fun d => d.parameters.length) = some 0 := by decide +kernel
set_option maxHeartbeats 4000000 in
set_option maxRecDepth 100000 in
theorem mX9_wheelSet (l : Launch) (D : va_G) (cI cZ : ClassId) (q0 : Nat) (q1 : Nat) (d2 : Nat) (d3 : Nat) (d4 : Nat) (d5 : Nat) (d6 : Nat) (d7 : Nat) (d8 : Nat) (d9 : Nat) (d10 : Nat) (v_sights : Int32) (v_sight : Nat → Int32) (v_signs : Int32) (v_weddings : Int32) (v_reason : Int32) (v_acts : Int32) (z : Int32) (hF : fX9_wheelSet v_sights v_sight = some z) : mp l yX9_wheelSet wtX9_wheelSet rmX9_wheelSet D cI cZ [.ref q0] (wdX9_wheelSet cI cZ q0 q1 d2 d3 d4 d5 d6 d7 d8 d9 d10 v_sights v_sight v_signs v_weddings v_reason v_acts) (some (.int z)) (wdX9_wheelSet cI cZ q0 q1 d2 d3 d4 d5 d6 d7 d8 d9 d10 v_sights v_sight v_signs v_weddings v_reason v_acts) := by
  refine mp_i (lv0 := [(0, .ref q0)]) cX9_wheelSet 6 z (by decide) rfl (Nat.le_of_ble_eq_true rfl) rfl (fun E h hend0 => ?_)
  have hend : ∀ (z' : Int32), some z' = some z → ∀ (pc : Nat) (lv : List (Nat × Value)), decode cX9_wheelSet pc = .ok (.ireturn, 1) → G l D E 6 0 0 (wdX9_wheelSet cI cZ q0 q1 d2 d3 d4 d5 d6 d7 d8 d9 d10 v_sights v_sight v_signs v_weddings v_reason v_acts) pc lv [.int z'] := fun z' e => by cases e; exact hend0
  clear hend0
  have hL4 : ∀ (n4 : Nat) (x1 : Int32) (x2 : Int32), fX9_wheelSet_4 v_sights v_sight n4 x1 x2 = some z → G l D E 6 0 0 (wdX9_wheelSet cI cZ q0 q1 d2 d3 d4 d5 d6 d7 d8 d9 d10 v_sights v_sight v_signs v_weddings v_reason v_acts) 4 [(0, .ref q0), (1, .int x1), (2, .int x2)] [] := by
    intro n4
    induction n4 with
    | zero =>
      intro x1 x2 hF
      rw [fX9_wheelSet_4] at hF
      cases hF
    | succ n4 ih4 =>
      have hL15 : ∀ (n15 : Nat) (x1 : Int32) (x2 : Int32) (x3 : Int32) (x4 : Int32), fX9_wheelSet_15 (fun y0 y1 => fX9_wheelSet_4 v_sights v_sight n4 y0 y1) v_sights v_sight x1 x2 n15 x3 x4 = some z → G l D E 6 0 0 (wdX9_wheelSet cI cZ q0 q1 d2 d3 d4 d5 d6 d7 d8 d9 d10 v_sights v_sight v_signs v_weddings v_reason v_acts) 15 [(0, .ref q0), (1, .int x1), (2, .int x2), (3, .int x3), (4, .int x4)] [] := by
        intro n15
        induction n15 with
        | zero =>
          intro x1 x2 x3 x4 hF
          rw [fX9_wheelSet_15] at hF
          cases hF
        | succ n15 ih15 =>
          have hL80 : ∀ (x1 : Int32) (x2 : Int32) (x4 : Int32) (s0 : Int32) (s1 : Int32), fX9_wheelSet_80 (fun y0 y1 => fX9_wheelSet_4 v_sights v_sight n4 y0 y1) (fun y0 y1 => fX9_wheelSet_15 (fun y0 y1 => fX9_wheelSet_4 v_sights v_sight n4 y0 y1) v_sights v_sight x1 x2 n15 y0 y1) v_sights v_sight x1 x2 x4 s0 s1 = some z → G l D E 6 0 0 (wdX9_wheelSet cI cZ q0 q1 d2 d3 d4 d5 d6 d7 d8 d9 d10 v_sights v_sight v_signs v_weddings v_reason v_acts) 80 [(0, .ref q0), (1, .int x1), (2, .int x2), (4, .int x4)] [.int s0, .int s1] := by
            intro x1 x2 x4 s0 s1 hF
            rw [fX9_wheelSet_80] at hF
            refine g_icmp_ne h hF dX9_wheelSet_80 (np := 83) rfl (tg := 87) rfl (fun c1001 hF => ?_) (fun c1001 hF => ?_)
            · refine g_iconst (np := 88) (v := (0 : Int32)) h (by decide) dX9_wheelSet_87 rfl ?_
              refine g_istore_n (np := 89) (lv' := [(3, .int (0 : Int32)), (0, .ref q0), (1, .int x1), (2, .int x2), (4, .int x4)]) h rfl (by decide) rfl dX9_wheelSet_88 rfl ?_
              refine g_iinc (np := 92) (v := (x4 + (1 : Int32))) (lv' := [(4, .int (x4 + (1 : Int32))), (3, .int (0 : Int32)), (0, .ref q0), (1, .int x1), (2, .int x2)]) h 4 rfl rfl (by decide) rfl dX9_wheelSet_89 rfl ?_
              refine g_goto h dX9_wheelSet_92 (np := 15) rfl ?_
              refine g_lv [2, 3, 4, 1, 0] rfl ?_
              exact ih15 x1 x2 (0 : Int32) (x4 + (1 : Int32)) hF
            · refine g_iconst (np := 84) (v := (1 : Int32)) h (by decide) dX9_wheelSet_83 rfl ?_
              refine g_goto h dX9_wheelSet_84 (np := 88) rfl ?_
              refine g_istore_n (np := 89) (lv' := [(3, .int (1 : Int32)), (0, .ref q0), (1, .int x1), (2, .int x2), (4, .int x4)]) h rfl (by decide) rfl dX9_wheelSet_88 rfl ?_
              refine g_iinc (np := 92) (v := (x4 + (1 : Int32))) (lv' := [(4, .int (x4 + (1 : Int32))), (3, .int (1 : Int32)), (0, .ref q0), (1, .int x1), (2, .int x2)]) h 4 rfl rfl (by decide) rfl dX9_wheelSet_89 rfl ?_
              refine g_goto h dX9_wheelSet_92 (np := 15) rfl ?_
              refine g_lv [2, 3, 4, 1, 0] rfl ?_
              exact ih15 x1 x2 (1 : Int32) (x4 + (1 : Int32)) hF
          intro x1 x2 x3 x4 hF
          rw [fX9_wheelSet_15] at hF
          refine g_iload (np := 17) h 4 rfl dX9_wheelSet_15 rfl ?_
          refine g_aload_n (np := 18) h 0 rfl rfl dX9_wheelSet_17 rfl ?_
          refine g_get (np := 21) (T := TX9) h imX9_wheelSet_u_X9 0 9 rfl rfl 3 (by decide) (imX9_wheelSet_own _ (List.mem_of_getElem? (i := 0) rfl)) rfl dX9_wheelSet_18 rfl ?_
          refine g_icmp_ge h hF dX9_wheelSet_21 (np := 24) rfl (tg := 95) rfl (fun c2001 hF => ?_) (fun c2001 hF => ?_)
          · refine g_iload_n (np := 96) h 1 rfl rfl dX9_wheelSet_95 rfl ?_
            refine g_iload_n (np := 97) h 3 rfl rfl dX9_wheelSet_96 rfl ?_
            refine g_if_eq h hF dX9_wheelSet_97 (np := 100) rfl (tg := 106) rfl (fun c2002 hF => ?_) (fun c2002 hF => ?_)
            · refine g_iconst (np := 107) (v := (0 : Int32)) h (by decide) dX9_wheelSet_106 rfl ?_
              refine g_ior (np := 108) h dX9_wheelSet_107 rfl ?_
              refine g_istore_n (np := 109) (lv' := [(1, .int (x1 ||| (0 : Int32))), (0, .ref q0), (2, .int x2), (3, .int x3), (4, .int x4)]) h rfl (by decide) rfl dX9_wheelSet_108 rfl ?_
              refine g_iinc (np := 112) (v := (x2 + (1 : Int32))) (lv' := [(2, .int (x2 + (1 : Int32))), (1, .int (x1 ||| (0 : Int32))), (0, .ref q0), (3, .int x3), (4, .int x4)]) h 2 rfl rfl (by decide) rfl dX9_wheelSet_109 rfl ?_
              refine g_goto h dX9_wheelSet_112 (np := 4) rfl ?_
              refine g_lv [2, 1, 0] rfl ?_
              exact ih4 (x1 ||| (0 : Int32)) (x2 + (1 : Int32)) hF
            · refine g_iconst (np := 101) (v := (1 : Int32)) h (by decide) dX9_wheelSet_100 rfl ?_
              refine g_iload_n (np := 102) h 2 rfl rfl dX9_wheelSet_101 rfl ?_
              refine g_ishl (np := 103) h dX9_wheelSet_102 rfl ?_
              refine g_goto h dX9_wheelSet_103 (np := 107) rfl ?_
              refine g_ior (np := 108) h dX9_wheelSet_107 rfl ?_
              refine g_istore_n (np := 109) (lv' := [(1, .int (x1 ||| (jshl (1 : Int32) x2))), (0, .ref q0), (2, .int x2), (3, .int x3), (4, .int x4)]) h rfl (by decide) rfl dX9_wheelSet_108 rfl ?_
              refine g_iinc (np := 112) (v := (x2 + (1 : Int32))) (lv' := [(2, .int (x2 + (1 : Int32))), (1, .int (x1 ||| (jshl (1 : Int32) x2))), (0, .ref q0), (3, .int x3), (4, .int x4)]) h 2 rfl rfl (by decide) rfl dX9_wheelSet_109 rfl ?_
              refine g_goto h dX9_wheelSet_112 (np := 4) rfl ?_
              refine g_lv [2, 1, 0] rfl ?_
              exact ih4 (x1 ||| (jshl (1 : Int32) x2)) (x2 + (1 : Int32)) hF
          · refine g_aload_n (np := 25) h 0 rfl rfl dX9_wheelSet_24 rfl ?_
            refine g_get (np := 28) (T := TX9) h imX9_wheelSet_u_X9 0 9 rfl rfl 4 (by decide) (imX9_wheelSet_own _ (List.mem_of_getElem? (i := 1) rfl)) rfl dX9_wheelSet_25 rfl ?_
            refine g_iconst (np := 29) (v := (3 : Int32)) h (by decide) dX9_wheelSet_28 rfl ?_
            refine g_iload (np := 31) h 4 rfl dX9_wheelSet_29 rfl ?_
            refine g_imul (np := 32) h dX9_wheelSet_31 rfl ?_
            refine g_iconst (np := 33) (v := (1 : Int32)) h (by decide) dX9_wheelSet_32 rfl ?_
            refine g_iadd (np := 34) h dX9_wheelSet_33 rfl ?_
            refine g_iald (np := 35) h 1 rfl hF dX9_wheelSet_34 rfl (fun hi2003 hF => ?_)
            refine g_istore (np := 37) (lv' := [(5, .int (rd v_sight (((3 : Int32) * x4) + (1 : Int32)))), (0, .ref q0), (1, .int x1), (2, .int x2), (3, .int x3), (4, .int x4)]) h (by decide) rfl dX9_wheelSet_35 rfl ?_
            refine g_iload_n (np := 38) h 4 rfl rfl dX9_wheelSet_37 rfl ?_
            refine g_if_eq h hF dX9_wheelSet_38 (np := 41) rfl (tg := 87) rfl (fun c2004 hF => ?_) (fun c2004 hF => ?_)
            · refine g_iconst (np := 88) (v := (0 : Int32)) h (by decide) dX9_wheelSet_87 rfl ?_
              refine g_istore_n (np := 89) (lv' := [(3, .int (0 : Int32)), (5, .int (rd v_sight (((3 : Int32) * x4) + (1 : Int32)))), (0, .ref q0), (1, .int x1), (2, .int x2), (4, .int x4)]) h rfl (by decide) rfl dX9_wheelSet_88 rfl ?_
              refine g_iinc (np := 92) (v := (x4 + (1 : Int32))) (lv' := [(4, .int (x4 + (1 : Int32))), (3, .int (0 : Int32)), (5, .int (rd v_sight (((3 : Int32) * x4) + (1 : Int32)))), (0, .ref q0), (1, .int x1), (2, .int x2)]) h 5 rfl rfl (by decide) rfl dX9_wheelSet_89 rfl ?_
              refine g_goto h dX9_wheelSet_92 (np := 15) rfl ?_
              refine g_lv [3, 4, 5, 1, 0] rfl ?_
              exact ih15 x1 x2 (0 : Int32) (x4 + (1 : Int32)) hF
            · refine g_iload_n (np := 42) h 3 rfl rfl dX9_wheelSet_41 rfl ?_
              refine g_aload_n (np := 43) h 1 rfl rfl dX9_wheelSet_42 rfl ?_
              refine g_get (np := 46) (T := TX9) h imX9_wheelSet_u_X9 0 9 rfl rfl 4 (by decide) (imX9_wheelSet_own _ (List.mem_of_getElem? (i := 1) rfl)) rfl dX9_wheelSet_43 rfl ?_
              refine g_iconst (np := 47) (v := (3 : Int32)) h (by decide) dX9_wheelSet_46 rfl ?_
              refine g_iload (np := 49) h 5 rfl dX9_wheelSet_47 rfl ?_
              refine g_imul (np := 50) h dX9_wheelSet_49 rfl ?_
              refine g_iald (np := 51) h 1 rfl hF dX9_wheelSet_50 rfl (fun hi2005 hF => ?_)
              refine g_isub (np := 52) h dX9_wheelSet_51 rfl ?_
              refine g_iload (np := 54) h 0 rfl dX9_wheelSet_52 rfl ?_
              refine g_ineg (np := 55) h dX9_wheelSet_54 rfl ?_
              refine g_iload (np := 57) h 0 rfl dX9_wheelSet_55 rfl ?_
              obtain ⟨r2006, hr2006, hF⟩ := Option.bind_eq_some_iff.mp hF
              refine g_callS (np := 60) (Wd' := (wdX9_wheelSet cI cZ q0 q1 d2 d3 d4 d5 d6 d7 d8 d9 d10 v_sights v_sight v_signs v_weddings v_reason v_acts)) (As := [.int (x2 - (rd v_sight ((3 : Int32) * x4))), .int (-(rd v_sight (((3 : Int32) * x4) + (1 : Int32)))), .int (rd v_sight (((3 : Int32) * x4) + (1 : Int32)))]) h (mX9_in l D cI cZ (x2 - (rd v_sight ((3 : Int32) * x4))) (-(rd v_sight (((3 : Int32) * x4) + (1 : Int32)))) (rd v_sight (((3 : Int32) * x4) + (1 : Int32))) r2006 hr2006) gcX9_wheelSet_X9_in rfl ⟨rfl, rfl⟩ hyX9_in rfl rfl rfl rfl ⟨Nat.zero_le _, Nat.zero_le _⟩ [] [0, 1] (N := 2) (by decide +kernel) rfl rfl rfl rfl rfl dX9_wheelSet_57 rfl ?_
              refine g_aload_n (np := 61) h 1 rfl rfl dX9_wheelSet_60 rfl ?_
              refine g_get (np := 64) (T := TX9) h imX9_wheelSet_u_X9 0 9 rfl rfl 4 (by decide) (imX9_wheelSet_own _ (List.mem_of_getElem? (i := 1) rfl)) rfl dX9_wheelSet_61 rfl ?_
              refine g_iconst (np := 65) (v := (3 : Int32)) h (by decide) dX9_wheelSet_64 rfl ?_
              refine g_iload (np := 67) h 5 rfl dX9_wheelSet_65 rfl ?_
              refine g_imul (np := 68) h dX9_wheelSet_67 rfl ?_
              refine g_iconst (np := 69) (v := (2 : Int32)) h (by decide) dX9_wheelSet_68 rfl ?_
              refine g_iadd (np := 70) h dX9_wheelSet_69 rfl ?_
              refine g_iald (np := 71) h 1 rfl hF dX9_wheelSet_70 rfl (fun hi2007 hF => ?_)
              refine g_iconst (np := 72) (v := (1 : Int32)) h (by decide) dX9_wheelSet_71 rfl ?_
              refine g_icmp_ne h hF dX9_wheelSet_72 (np := 75) rfl (tg := 79) rfl (fun c2008 hF => ?_) (fun c2008 hF => ?_)
              · refine g_iconst (np := 80) (v := (0 : Int32)) h (by decide) dX9_wheelSet_79 rfl ?_
                refine g_lv [1, 2, 3, 5] rfl ?_
                exact hL80 x1 x2 x4 (0 : Int32) r2006 hF
              · refine g_iconst (np := 76) (v := (1 : Int32)) h (by decide) dX9_wheelSet_75 rfl ?_
                refine g_goto h dX9_wheelSet_76 (np := 80) rfl ?_
                refine g_lv [1, 2, 3, 5] rfl ?_
                exact hL80 x1 x2 x4 (1 : Int32) r2006 hF
      intro x1 x2 hF
      rw [fX9_wheelSet_4] at hF
      refine g_iload_n (np := 5) h 2 rfl rfl dX9_wheelSet_4 rfl ?_
      refine g_bipush (np := 7) (v := (8 : Int32)) h (by decide) dX9_wheelSet_5 rfl ?_
      refine g_icmp_ge h hF dX9_wheelSet_7 (np := 10) rfl (tg := 115) rfl (fun c3001 hF => ?_) (fun c3001 hF => ?_)
      · refine g_iload_n (np := 116) h 1 rfl rfl dX9_wheelSet_115 rfl ?_
        exact hend _ hF _ _ dX9_wheelSet_116
      · refine g_iconst (np := 11) (v := (1 : Int32)) h (by decide) dX9_wheelSet_10 rfl ?_
        refine g_istore_n (np := 12) (lv' := [(3, .int (1 : Int32)), (0, .ref q0), (1, .int x1), (2, .int x2)]) h rfl (by decide) rfl dX9_wheelSet_11 rfl ?_
        refine g_iconst (np := 13) (v := (0 : Int32)) h (by decide) dX9_wheelSet_12 rfl ?_
        refine g_istore (np := 15) (lv' := [(4, .int (0 : Int32)), (3, .int (1 : Int32)), (0, .ref q0), (1, .int x1), (2, .int x2)]) h (by decide) rfl dX9_wheelSet_13 rfl ?_
        refine g_lv [2, 3, 4, 1, 0] rfl ?_
        exact hL15 _ x1 x2 (1 : Int32) (0 : Int32) hF
  unfold fX9_wheelSet at hF
  refine g_iconst (np := 1) (v := (0 : Int32)) h (by decide) dX9_wheelSet_0 rfl ?_
  refine g_istore_n (np := 2) (lv' := [(1, .int (0 : Int32)), (0, .ref q0)]) h rfl (by decide) rfl dX9_wheelSet_1 rfl ?_
  refine g_iconst (np := 3) (v := (0 : Int32)) h (by decide) dX9_wheelSet_2 rfl ?_
  refine g_istore_n (np := 4) (lv' := [(2, .int (0 : Int32)), (1, .int (0 : Int32)), (0, .ref q0)]) h rfl (by decide) rfl dX9_wheelSet_3 rfl ?_
  refine g_lv [2, 1, 0] rfl ?_
  exact hL4 _ (0 : Int32) (0 : Int32) hF
theorem dX9_wheel_0 : decode cX9_wheel 0 = .ok (.aload_n 0, 1) := by decide +kernel
theorem dX9_wheel_1 : decode cX9_wheel 1 = .ok (.invokevirtual 135, 3) := by decide +kernel
theorem dX9_wheel_4 : decode cX9_wheel 4 = .ok (.ireturn, 1) := by decide +kernel
def wtX9_wheel : List Cond := .code yX9_wheel cX9_wheel 1 (some .int) :: (([]) ++ ((wsV RX9 135 RX9 yX9_wheelSet wtX9_wheelSet) ++ []))
theorem imX9_wheel_own : ∀ w ∈ ([] : List Cond), w ∈ wtX9_wheel := fun w h => List.mem_cons_of_mem _ (inl h)
theorem imX9_wheel_c_X9_wheelSet : ∀ w ∈ (wsV RX9 135 RX9 yX9_wheelSet wtX9_wheelSet : List Cond), w ∈ wtX9_wheel := fun w h => List.mem_cons_of_mem _ (inr (inl h))
theorem gdX9_wheel : ∀ w ∈ wtX9_wheel, Gd w := gdc rfl (gda (gdl (by decide +kernel)) (gda (gda (gdl (by decide +kernel)) gdX9_wheelSet) gdn))
theorem gcX9_wheel_X9_wheelSet : GoodIn wtX9_wheel (wsV RX9 135 RX9 yX9_wheelSet wtX9_wheelSet) := fun w h => ⟨imX9_wheel_c_X9_wheelSet w h, (gda (gdl (by decide +kernel)) gdX9_wheelSet) w h⟩
def fX9_wheel (v_sights : Int32) (v_sight : Nat → Int32) : Option (Int32) :=
  (fX9_wheelSet v_sights v_sight).bind (fun r1 =>
    some r1)
def wdX9_wheel (cI cZ : ClassId) (q0 : Nat) (q1 : Nat) (d2 : Nat) (d3 : Nat) (d4 : Nat) (d5 : Nat) (d6 : Nat) (d7 : Nat) (d8 : Nat) (d9 : Nat) (d10 : Nat)  (v_sights : Int32) (v_sight : Nat → Int32) (v_signs : Int32) (v_weddings : Int32) (v_reason : Int32) (v_acts : Int32) : va_W := [(q0, .inr (9, [.ref d2, .ref d3, .ref d4, .int v_sights, .ref q1, .int v_signs, .ref d5, .int v_weddings, .int v_reason, .int v_acts, .ref d6, .ref d7, .ref d8, .ref d9, .ref d10])), (q1, .inl (cI, 24, .inl v_sight))]
abbrev rmX9_wheel : Jvm.Room := { frames := 2, cells := 0, slots := 0, locals := 47 }
theorem hyX9_wheel : yX9_wheel.cls ≠ "java/lang/invoke/MethodHandle" ∧ yX9_wheel.cls ≠ "java/lang/invoke/VarHandle" ∧ (parseMethodDescriptor yX9_wheel.desc).map (fun d => d.parameters.length) = some 0 := by decide +kernel
set_option maxHeartbeats 4000000 in
set_option maxRecDepth 100000 in
theorem mX9_wheel (l : Launch) (D : va_G) (cI cZ : ClassId) (q0 : Nat) (q1 : Nat) (d2 : Nat) (d3 : Nat) (d4 : Nat) (d5 : Nat) (d6 : Nat) (d7 : Nat) (d8 : Nat) (d9 : Nat) (d10 : Nat) (v_sights : Int32) (v_sight : Nat → Int32) (v_signs : Int32) (v_weddings : Int32) (v_reason : Int32) (v_acts : Int32) (z : Int32) (hF : fX9_wheel v_sights v_sight = some z) : mp l yX9_wheel wtX9_wheel rmX9_wheel D cI cZ [.ref q0] (wdX9_wheel cI cZ q0 q1 d2 d3 d4 d5 d6 d7 d8 d9 d10 v_sights v_sight v_signs v_weddings v_reason v_acts) (some (.int z)) (wdX9_wheel cI cZ q0 q1 d2 d3 d4 d5 d6 d7 d8 d9 d10 v_sights v_sight v_signs v_weddings v_reason v_acts) := by
  refine mp_i (lv0 := [(0, .ref q0)]) cX9_wheel 1 z (by decide) rfl (Nat.le_of_ble_eq_true rfl) rfl (fun E h hend0 => ?_)
  have hend : ∀ (z' : Int32), some z' = some z → ∀ (pc : Nat) (lv : List (Nat × Value)), decode cX9_wheel pc = .ok (.ireturn, 1) → G l D E 1 0 0 (wdX9_wheel cI cZ q0 q1 d2 d3 d4 d5 d6 d7 d8 d9 d10 v_sights v_sight v_signs v_weddings v_reason v_acts) pc lv [.int z'] := fun z' e => by cases e; exact hend0
  clear hend0
  unfold fX9_wheel at hF
  refine g_aload_n (np := 1) h 0 rfl rfl dX9_wheel_0 rfl ?_
  obtain ⟨r1, hr1, hF⟩ := Option.bind_eq_some_iff.mp hF
  refine g_callV (np := 4) (Wd' := (wdX9_wheel cI cZ q0 q1 d2 d3 d4 d5 d6 d7 d8 d9 d10 v_sights v_sight v_signs v_weddings v_reason v_acts)) (As := []) h (mX9_wheelSet l D cI cZ q0 q1 d2 d3 d4 d5 d6 d7 d8 d9 d10 v_sights v_sight v_signs v_weddings v_reason v_acts r1 hr1) gcX9_wheel_X9_wheelSet rfl ⟨rfl, rfl⟩ ⟨rfl, hyX9_wheelSet⟩ rfl 9 0 rfl rfl rfl rfl rfl rfl ⟨Nat.zero_le _, Nat.zero_le _⟩ [0, 1] [] (N := 2) (by decide +kernel) rfl rfl rfl rfl rfl dX9_wheel_1 rfl ?_
  exact hend _ hF _ _ dX9_wheel_4
theorem dX9_ask_0 : decode cX9_ask 0 = .ok (.iload_n 1, 1) := by decide +kernel
theorem dX9_ask_1 : decode cX9_ask 1 = .ok (.iconst 0, 1) := by decide +kernel
theorem dX9_ask_2 : decode cX9_ask 2 = .ok (.iconst 1, 1) := by decide +kernel
theorem dX9_ask_3 : decode cX9_ask 3 = .ok (.invokestatic 41, 3) := by decide +kernel
theorem dX9_ask_6 : decode cX9_ask 6 = .ok (.ifCond .ne 6, 3) := by decide +kernel
theorem dX9_ask_9 : decode cX9_ask 9 = .ok (.bipush (-2), 2) := by decide +kernel
theorem dX9_ask_11 : decode cX9_ask 11 = .ok (.ireturn, 1) := by decide +kernel
theorem dX9_ask_12 : decode cX9_ask 12 = .ok (.aload_n 0, 1) := by decide +kernel
theorem dX9_ask_13 : decode cX9_ask 13 = .ok (.invokevirtual 135, 3) := by decide +kernel
theorem dX9_ask_16 : decode cX9_ask 16 = .ok (.istore_n 2, 1) := by decide +kernel
theorem dX9_ask_17 : decode cX9_ask 17 = .ok (.bipush (-6), 2) := by decide +kernel
theorem dX9_ask_19 : decode cX9_ask 19 = .ok (.istore_n 3, 1) := by decide +kernel
theorem dX9_ask_20 : decode cX9_ask 20 = .ok (.ldc 119, 2) := by decide +kernel
theorem dX9_ask_22 : decode cX9_ask 22 = .ok (.istore 4, 2) := by decide +kernel
theorem dX9_ask_24 : decode cX9_ask 24 = .ok (.iconst 0, 1) := by decide +kernel
theorem dX9_ask_25 : decode cX9_ask 25 = .ok (.istore 5, 2) := by decide +kernel
theorem dX9_ask_27 : decode cX9_ask 27 = .ok (.iload 5, 2) := by decide +kernel
theorem dX9_ask_29 : decode cX9_ask 29 = .ok (.bipush 78, 2) := by decide +kernel
theorem dX9_ask_31 : decode cX9_ask 31 = .ok (.if_icmp .ge 150, 3) := by decide +kernel
theorem dX9_ask_34 : decode cX9_ask 34 = .ok (.iload_n 2, 1) := by decide +kernel
theorem dX9_ask_35 : decode cX9_ask 35 = .ok (.ifCond .eq 146, 3) := by decide +kernel
theorem dX9_ask_38 : decode cX9_ask 38 = .ok (.iload 5, 2) := by decide +kernel
theorem dX9_ask_40 : decode cX9_ask 40 = .ok (.bipush 10, 2) := by decide +kernel
theorem dX9_ask_42 : decode cX9_ask 42 = .ok (.irem, 1) := by decide +kernel
theorem dX9_ask_43 : decode cX9_ask 43 = .ok (.istore 6, 2) := by decide +kernel
theorem dX9_ask_45 : decode cX9_ask 45 = .ok (.iconst 0, 1) := by decide +kernel
theorem dX9_ask_46 : decode cX9_ask 46 = .ok (.istore 7, 2) := by decide +kernel
theorem dX9_ask_48 : decode cX9_ask 48 = .ok (.iconst 0, 1) := by decide +kernel
theorem dX9_ask_49 : decode cX9_ask 49 = .ok (.istore 8, 2) := by decide +kernel
theorem dX9_ask_51 : decode cX9_ask 51 = .ok (.iload 8, 2) := by decide +kernel
theorem dX9_ask_53 : decode cX9_ask 53 = .ok (.bipush 8, 2) := by decide +kernel
theorem dX9_ask_55 : decode cX9_ask 55 = .ok (.if_icmp .ge 47, 3) := by decide +kernel
theorem dX9_ask_58 : decode cX9_ask 58 = .ok (.iload 7, 2) := by decide +kernel
theorem dX9_ask_60 : decode cX9_ask 60 = .ok (.iload_n 2, 1) := by decide +kernel
theorem dX9_ask_61 : decode cX9_ask 61 = .ok (.iload 8, 2) := by decide +kernel
theorem dX9_ask_63 : decode cX9_ask 63 = .ok (.invokestatic 109, 3) := by decide +kernel
theorem dX9_ask_66 : decode cX9_ask 66 = .ok (.ifCond .eq 26, 3) := by decide +kernel
theorem dX9_ask_69 : decode cX9_ask 69 = .ok (.iload 8, 2) := by decide +kernel
theorem dX9_ask_71 : decode cX9_ask 71 = .ok (.iload 5, 2) := by decide +kernel
theorem dX9_ask_73 : decode cX9_ask 73 = .ok (.bipush 10, 2) := by decide +kernel
theorem dX9_ask_75 : decode cX9_ask 75 = .ok (.idiv, 1) := by decide +kernel
theorem dX9_ask_76 : decode cX9_ask 76 = .ok (.isub, 1) := by decide +kernel
theorem dX9_ask_77 : decode cX9_ask 77 = .ok (.iload 6, 2) := by decide +kernel
theorem dX9_ask_79 : decode cX9_ask 79 = .ok (.ineg, 1) := by decide +kernel
theorem dX9_ask_80 : decode cX9_ask 80 = .ok (.iload 6, 2) := by decide +kernel
theorem dX9_ask_82 : decode cX9_ask 82 = .ok (.invokestatic 41, 3) := by decide +kernel
theorem dX9_ask_85 : decode cX9_ask 85 = .ok (.ifCond .eq 7, 3) := by decide +kernel
theorem dX9_ask_88 : decode cX9_ask 88 = .ok (.iconst 1, 1) := by decide +kernel
theorem dX9_ask_89 : decode cX9_ask 89 = .ok (.goto 4, 3) := by decide +kernel
theorem dX9_ask_92 : decode cX9_ask 92 = .ok (.iconst 0, 1) := by decide +kernel
theorem dX9_ask_93 : decode cX9_ask 93 = .ok (.iadd, 1) := by decide +kernel
theorem dX9_ask_94 : decode cX9_ask 94 = .ok (.istore 7, 2) := by decide +kernel
theorem dX9_ask_96 : decode cX9_ask 96 = .ok (.iinc 8 1, 3) := by decide +kernel
theorem dX9_ask_99 : decode cX9_ask 99 = .ok (.goto (-48), 3) := by decide +kernel
theorem dX9_ask_102 : decode cX9_ask 102 = .ok (.iload 7, 2) := by decide +kernel
theorem dX9_ask_104 : decode cX9_ask 104 = .ok (.iload_n 2, 1) := by decide +kernel
theorem dX9_ask_105 : decode cX9_ask 105 = .ok (.invokestatic 138, 3) := by decide +kernel
theorem dX9_ask_108 : decode cX9_ask 108 = .ok (.iload 7, 2) := by decide +kernel
theorem dX9_ask_110 : decode cX9_ask 110 = .ok (.isub, 1) := by decide +kernel
theorem dX9_ask_111 : decode cX9_ask 111 = .ok (.if_icmp .le 8, 3) := by decide +kernel
theorem dX9_ask_114 : decode cX9_ask 114 = .ok (.iload 7, 2) := by decide +kernel
theorem dX9_ask_116 : decode cX9_ask 116 = .ok (.goto 10, 3) := by decide +kernel
theorem dX9_ask_119 : decode cX9_ask 119 = .ok (.iload_n 2, 1) := by decide +kernel
theorem dX9_ask_120 : decode cX9_ask 120 = .ok (.invokestatic 138, 3) := by decide +kernel
theorem dX9_ask_123 : decode cX9_ask 123 = .ok (.iload 7, 2) := by decide +kernel
theorem dX9_ask_125 : decode cX9_ask 125 = .ok (.isub, 1) := by decide +kernel
theorem dX9_ask_126 : decode cX9_ask 126 = .ok (.istore 8, 2) := by decide +kernel
theorem dX9_ask_128 : decode cX9_ask 128 = .ok (.iload 6, 2) := by decide +kernel
theorem dX9_ask_130 : decode cX9_ask 130 = .ok (.bipush 8, 2) := by decide +kernel
theorem dX9_ask_132 : decode cX9_ask 132 = .ok (.if_icmp .ge 14, 3) := by decide +kernel
theorem dX9_ask_135 : decode cX9_ask 135 = .ok (.iload 8, 2) := by decide +kernel
theorem dX9_ask_137 : decode cX9_ask 137 = .ok (.iload 4, 2) := by decide +kernel
theorem dX9_ask_139 : decode cX9_ask 139 = .ok (.if_icmp .ge 7, 3) := by decide +kernel
theorem dX9_ask_142 : decode cX9_ask 142 = .ok (.iconst 1, 1) := by decide +kernel
theorem dX9_ask_143 : decode cX9_ask 143 = .ok (.goto 4, 3) := by decide +kernel
theorem dX9_ask_146 : decode cX9_ask 146 = .ok (.iconst 0, 1) := by decide +kernel
theorem dX9_ask_147 : decode cX9_ask 147 = .ok (.istore 9, 2) := by decide +kernel
theorem dX9_ask_149 : decode cX9_ask 149 = .ok (.iload 9, 2) := by decide +kernel
theorem dX9_ask_151 : decode cX9_ask 151 = .ok (.ifCond .eq 8, 3) := by decide +kernel
theorem dX9_ask_154 : decode cX9_ask 154 = .ok (.iload 5, 2) := by decide +kernel
theorem dX9_ask_156 : decode cX9_ask 156 = .ok (.goto 4, 3) := by decide +kernel
theorem dX9_ask_159 : decode cX9_ask 159 = .ok (.iload_n 3, 1) := by decide +kernel
theorem dX9_ask_160 : decode cX9_ask 160 = .ok (.istore_n 3, 1) := by decide +kernel
theorem dX9_ask_161 : decode cX9_ask 161 = .ok (.iload 9, 2) := by decide +kernel
theorem dX9_ask_163 : decode cX9_ask 163 = .ok (.ifCond .eq 8, 3) := by decide +kernel
theorem dX9_ask_166 : decode cX9_ask 166 = .ok (.iload 8, 2) := by decide +kernel
theorem dX9_ask_168 : decode cX9_ask 168 = .ok (.goto 5, 3) := by decide +kernel
theorem dX9_ask_171 : decode cX9_ask 171 = .ok (.iload 4, 2) := by decide +kernel
theorem dX9_ask_173 : decode cX9_ask 173 = .ok (.istore 4, 2) := by decide +kernel
theorem dX9_ask_175 : decode cX9_ask 175 = .ok (.iinc 5 1, 3) := by decide +kernel
theorem dX9_ask_178 : decode cX9_ask 178 = .ok (.goto (-151), 3) := by decide +kernel
theorem dX9_ask_181 : decode cX9_ask 181 = .ok (.iload_n 3, 1) := by decide +kernel
theorem dX9_ask_182 : decode cX9_ask 182 = .ok (.ifCond .lt 7, 3) := by decide +kernel
theorem dX9_ask_185 : decode cX9_ask 185 = .ok (.iload_n 1, 1) := by decide +kernel
theorem dX9_ask_186 : decode cX9_ask 186 = .ok (.ifCond .ne 7, 3) := by decide +kernel
theorem dX9_ask_189 : decode cX9_ask 189 = .ok (.iload_n 3, 1) := by decide +kernel
theorem dX9_ask_190 : decode cX9_ask 190 = .ok (.goto 5, 3) := by decide +kernel
theorem dX9_ask_193 : decode cX9_ask 193 = .ok (.iload 4, 2) := by decide +kernel
theorem dX9_ask_195 : decode cX9_ask 195 = .ok (.ireturn, 1) := by decide +kernel
def wtX9_ask : List Cond := .code yX9_ask cX9_ask 10 (some .int) :: (([.constant RX9 119 (1000000)]) ++ ((va_wsS RX9 41 yX9_in wtX9_in) ++ ((wsV RX9 135 RX9 yX9_wheelSet wtX9_wheelSet) ++ ((va_wsS RX9 109 yX9_has wtX9_has) ++ ((va_wsS RX9 138 yX9_bits wtX9_bits) ++ [])))))
theorem imX9_ask_own : ∀ w ∈ ([.constant RX9 119 (1000000)] : List Cond), w ∈ wtX9_ask := fun w h => List.mem_cons_of_mem _ (inl h)
theorem imX9_ask_c_X9_in : ∀ w ∈ (va_wsS RX9 41 yX9_in wtX9_in : List Cond), w ∈ wtX9_ask := fun w h => List.mem_cons_of_mem _ (inr (inl h))
theorem imX9_ask_c_X9_wheelSet : ∀ w ∈ (wsV RX9 135 RX9 yX9_wheelSet wtX9_wheelSet : List Cond), w ∈ wtX9_ask := fun w h => List.mem_cons_of_mem _ (inr (inr (inl h)))
theorem imX9_ask_c_X9_has : ∀ w ∈ (va_wsS RX9 109 yX9_has wtX9_has : List Cond), w ∈ wtX9_ask := fun w h => List.mem_cons_of_mem _ (inr (inr (inr (inl h))))
theorem imX9_ask_c_X9_bits : ∀ w ∈ (va_wsS RX9 138 yX9_bits wtX9_bits : List Cond), w ∈ wtX9_ask := fun w h => List.mem_cons_of_mem _ (inr (inr (inr (inr (inl h)))))
theorem gdX9_ask : ∀ w ∈ wtX9_ask, Gd w := gdc rfl (gda (gdl (by decide +kernel)) (gda (gda (gdl (by decide +kernel)) gdX9_in) (gda (gda (gdl (by decide +kernel)) gdX9_wheelSet) (gda (gda (gdl (by decide +kernel)) gdX9_has) (gda (gda (gdl (by decide +kernel)) gdX9_bits) gdn)))))
theorem gcX9_ask_X9_in : GoodIn wtX9_ask (va_wsS RX9 41 yX9_in wtX9_in) := fun w h => ⟨imX9_ask_c_X9_in w h, (gda (gdl (by decide +kernel)) gdX9_in) w h⟩
theorem gcX9_ask_X9_wheelSet : GoodIn wtX9_ask (wsV RX9 135 RX9 yX9_wheelSet wtX9_wheelSet) := fun w h => ⟨imX9_ask_c_X9_wheelSet w h, (gda (gdl (by decide +kernel)) gdX9_wheelSet) w h⟩
theorem gcX9_ask_X9_has : GoodIn wtX9_ask (va_wsS RX9 109 yX9_has wtX9_has) := fun w h => ⟨imX9_ask_c_X9_has w h, (gda (gdl (by decide +kernel)) gdX9_has) w h⟩
theorem gcX9_ask_X9_bits : GoodIn wtX9_ask (va_wsS RX9 138 yX9_bits wtX9_bits) := fun w h => ⟨imX9_ask_c_X9_bits w h, (gda (gdl (by decide +kernel)) gdX9_bits) w h⟩
def fX9_ask_181 (x1 : Int32) (x3 : Int32) (x4 : Int32) : Option (Int32) :=
  if x3 < (0 : Int32) then
    some x3
  else
    if x1 = (0 : Int32) then
      some x3
    else
      some x4
def fX9_ask_160 (k27 : Int32 → Int32 → Int32 → Option (Int32)) (x1 : Int32) (x2 : Int32) (x4 : Int32) (x5 : Int32) (x8 : Int32) (x9 : Int32) (s0 : Int32) : Option (Int32) :=
  if x9 = (0 : Int32) then
    k27 s0 x4 (x5 + (1 : Int32))
  else
    k27 s0 x8 (x5 + (1 : Int32))
def fX9_ask_147 (k27 : Int32 → Int32 → Int32 → Option (Int32)) (x1 : Int32) (x2 : Int32) (x3 : Int32) (x4 : Int32) (x5 : Int32) (x8 : Int32) (s0 : Int32) : Option (Int32) :=
  if s0 = (0 : Int32) then
    fX9_ask_160 k27 x1 x2 x4 x5 x8 s0 x3
  else
    fX9_ask_160 k27 x1 x2 x4 x5 x8 s0 x5
def fX9_ask_126 (k27 : Int32 → Int32 → Int32 → Option (Int32)) (x1 : Int32) (x2 : Int32) (x3 : Int32) (x4 : Int32) (x5 : Int32) (x6 : Int32) (s0 : Int32) : Option (Int32) :=
  if (8 : Int32) ≤ x6 then
    fX9_ask_147 k27 x1 x2 x3 x4 x5 s0 (0 : Int32)
  else
    if x4 ≤ s0 then
      fX9_ask_147 k27 x1 x2 x3 x4 x5 s0 (0 : Int32)
    else
      fX9_ask_147 k27 x1 x2 x3 x4 x5 s0 (1 : Int32)
def fX9_ask_51 (k27 : Int32 → Int32 → Int32 → Option (Int32)) (x1 : Int32) (x2 : Int32) (x3 : Int32) (x4 : Int32) (x5 : Int32) (x6 : Int32) : Nat → Int32 → Int32 → Option (Int32)
  | 0, _, _ => none
  | n + 1, x7, x8 =>
    if (8 : Int32) ≤ x8 then
      (fX9_bits x2).bind (fun r5002 =>
        if x7 ≤ (r5002 - x7) then
          (fX9_bits x2).bind (fun r5004 =>
            fX9_ask_126 k27 x1 x2 x3 x4 x5 x6 (r5004 - x7))
        else
          fX9_ask_126 k27 x1 x2 x3 x4 x5 x6 x7)
    else
      (fX9_has x2 x8).bind (fun r5005 =>
        if r5005 = (0 : Int32) then
          fX9_ask_51 k27 x1 x2 x3 x4 x5 x6 n (x7 + (0 : Int32)) (x8 + (1 : Int32))
        else
          (fX9_in (x8 - (x5 / (10 : Int32))) (-x6) x6).bind (fun r5007 =>
            if r5007 = (0 : Int32) then
              fX9_ask_51 k27 x1 x2 x3 x4 x5 x6 n (x7 + (0 : Int32)) (x8 + (1 : Int32))
            else
              fX9_ask_51 k27 x1 x2 x3 x4 x5 x6 n (x7 + (1 : Int32)) (x8 + (1 : Int32))))
def fX9_ask_27 (x1 : Int32) (x2 : Int32) : Nat → Int32 → Int32 → Int32 → Option (Int32)
  | 0, _, _, _ => none
  | n + 1, x3, x4, x5 =>
    if (78 : Int32) ≤ x5 then
      fX9_ask_181 x1 x3 x4
    else
      if x2 = (0 : Int32) then
        fX9_ask_181 x1 x3 x4
      else
        fX9_ask_51 (fun y0 y1 y2 => fX9_ask_27 x1 x2 n y0 y1 y2) x1 x2 x3 x4 x5 (jrem x5 (10 : Int32)) 2000 (0 : Int32) (0 : Int32)
def fX9_ask (v_sights : Int32) (v_sight : Nat → Int32) (x1 : Int32) : Option (Int32) :=
  (fX9_in x1 (0 : Int32) (1 : Int32)).bind (fun r1 =>
    if r1 = (0 : Int32) then
      some (-2 : Int32)
    else
      (fX9_wheelSet v_sights v_sight).bind (fun r3 =>
        fX9_ask_27 x1 r3 2000 (-6 : Int32) (1000000 : Int32) (0 : Int32)))
def wdX9_ask (cI cZ : ClassId) (q0 : Nat) (q1 : Nat) (d2 : Nat) (d3 : Nat) (d4 : Nat) (d5 : Nat) (d6 : Nat) (d7 : Nat) (d8 : Nat) (d9 : Nat) (d10 : Nat)  (v_sights : Int32) (v_sight : Nat → Int32) (v_signs : Int32) (v_weddings : Int32) (v_reason : Int32) (v_acts : Int32) : va_W := [(q0, .inr (9, [.ref d2, .ref d3, .ref d4, .int v_sights, .ref q1, .int v_signs, .ref d5, .int v_weddings, .int v_reason, .int v_acts, .ref d6, .ref d7, .ref d8, .ref d9, .ref d10])), (q1, .inl (cI, 24, .inl v_sight))]
abbrev rmX9_ask : Jvm.Room := { frames := 2, cells := 0, slots := 0, locals := 47 }
theorem hyX9_ask : yX9_ask.cls ≠ "java/lang/invoke/MethodHandle" ∧ yX9_ask.cls ≠ "java/lang/invoke/VarHandle" ∧ (parseMethodDescriptor yX9_ask.desc).map (fun d => d.parameters.length) = some 1 := by decide +kernel
set_option maxHeartbeats 4000000 in
set_option maxRecDepth 100000 in
theorem mX9_ask (l : Launch) (D : va_G) (cI cZ : ClassId) (q0 : Nat) (q1 : Nat) (d2 : Nat) (d3 : Nat) (d4 : Nat) (d5 : Nat) (d6 : Nat) (d7 : Nat) (d8 : Nat) (d9 : Nat) (d10 : Nat) (v_sights : Int32) (v_sight : Nat → Int32) (v_signs : Int32) (v_weddings : Int32) (v_reason : Int32) (v_acts : Int32) (x1 : Int32) (z : Int32) (hF : fX9_ask v_sights v_sight x1 = some z) : mp l yX9_ask wtX9_ask rmX9_ask D cI cZ [.ref q0, .int x1] (wdX9_ask cI cZ q0 q1 d2 d3 d4 d5 d6 d7 d8 d9 d10 v_sights v_sight v_signs v_weddings v_reason v_acts) (some (.int z)) (wdX9_ask cI cZ q0 q1 d2 d3 d4 d5 d6 d7 d8 d9 d10 v_sights v_sight v_signs v_weddings v_reason v_acts) := by
  refine mp_i (lv0 := [(0, .ref q0), (1, .int x1)]) cX9_ask 10 z (by decide) rfl (Nat.le_of_ble_eq_true rfl) rfl (fun E h hend0 => ?_)
  have hend : ∀ (z' : Int32), some z' = some z → ∀ (pc : Nat) (lv : List (Nat × Value)), decode cX9_ask pc = .ok (.ireturn, 1) → G l D E 10 0 0 (wdX9_ask cI cZ q0 q1 d2 d3 d4 d5 d6 d7 d8 d9 d10 v_sights v_sight v_signs v_weddings v_reason v_acts) pc lv [.int z'] := fun z' e => by cases e; exact hend0
  clear hend0
  have hL181 : ∀ (x3 : Int32) (x4 : Int32), fX9_ask_181 x1 x3 x4 = some z → G l D E 10 0 0 (wdX9_ask cI cZ q0 q1 d2 d3 d4 d5 d6 d7 d8 d9 d10 v_sights v_sight v_signs v_weddings v_reason v_acts) 181 [(0, .ref q0), (1, .int x1), (3, .int x3), (4, .int x4)] [] := by
    intro x3 x4 hF
    rw [fX9_ask_181] at hF
    refine g_iload_n (np := 182) h 2 rfl rfl dX9_ask_181 rfl ?_
    refine g_if_lt h hF dX9_ask_182 (np := 185) rfl (tg := 189) rfl (fun c1001 hF => ?_) (fun c1001 hF => ?_)
    · refine g_iload_n (np := 190) h 2 rfl rfl dX9_ask_189 rfl ?_
      refine g_goto h dX9_ask_190 (np := 195) rfl ?_
      exact hend _ hF _ _ dX9_ask_195
    · refine g_iload_n (np := 186) h 1 rfl rfl dX9_ask_185 rfl ?_
      refine g_if_ne h hF dX9_ask_186 (np := 189) rfl (tg := 193) rfl (fun c1002 hF => ?_) (fun c1002 hF => ?_)
      · refine g_iload (np := 195) h 3 rfl dX9_ask_193 rfl ?_
        exact hend _ hF _ _ dX9_ask_195
      · refine g_iload_n (np := 190) h 2 rfl rfl dX9_ask_189 rfl ?_
        refine g_goto h dX9_ask_190 (np := 195) rfl ?_
        exact hend _ hF _ _ dX9_ask_195
  have hL27 : ∀ (n27 : Nat) (x2 : Int32) (x3 : Int32) (x4 : Int32) (x5 : Int32), fX9_ask_27 x1 x2 n27 x3 x4 x5 = some z → G l D E 10 0 0 (wdX9_ask cI cZ q0 q1 d2 d3 d4 d5 d6 d7 d8 d9 d10 v_sights v_sight v_signs v_weddings v_reason v_acts) 27 [(0, .ref q0), (1, .int x1), (2, .int x2), (3, .int x3), (4, .int x4), (5, .int x5)] [] := by
    intro n27
    induction n27 with
    | zero =>
      intro x2 x3 x4 x5 hF
      rw [fX9_ask_27] at hF
      cases hF
    | succ n27 ih27 =>
      have hL160 : ∀ (x2 : Int32) (x4 : Int32) (x5 : Int32) (x8 : Int32) (x9 : Int32) (s0 : Int32), fX9_ask_160 (fun y0 y1 y2 => fX9_ask_27 x1 x2 n27 y0 y1 y2) x1 x2 x4 x5 x8 x9 s0 = some z → G l D E 10 0 0 (wdX9_ask cI cZ q0 q1 d2 d3 d4 d5 d6 d7 d8 d9 d10 v_sights v_sight v_signs v_weddings v_reason v_acts) 160 [(0, .ref q0), (1, .int x1), (2, .int x2), (4, .int x4), (5, .int x5), (8, .int x8), (9, .int x9)] [.int s0] := by
        intro x2 x4 x5 x8 x9 s0 hF
        rw [fX9_ask_160] at hF
        refine g_istore_n (np := 161) (lv' := [(3, .int s0), (0, .ref q0), (1, .int x1), (2, .int x2), (4, .int x4), (5, .int x5), (8, .int x8), (9, .int x9)]) h rfl (by decide) rfl dX9_ask_160 rfl ?_
        refine g_iload (np := 163) h 7 rfl dX9_ask_161 rfl ?_
        refine g_if_eq h hF dX9_ask_163 (np := 166) rfl (tg := 171) rfl (fun c2001 hF => ?_) (fun c2001 hF => ?_)
        · refine g_iload (np := 173) h 4 rfl dX9_ask_171 rfl ?_
          refine g_istore (np := 175) (lv' := [(4, .int x4), (3, .int s0), (0, .ref q0), (1, .int x1), (2, .int x2), (5, .int x5), (8, .int x8), (9, .int x9)]) h (by decide) rfl dX9_ask_173 rfl ?_
          refine g_iinc (np := 178) (v := (x5 + (1 : Int32))) (lv' := [(5, .int (x5 + (1 : Int32))), (4, .int x4), (3, .int s0), (0, .ref q0), (1, .int x1), (2, .int x2), (8, .int x8), (9, .int x9)]) h 5 rfl rfl (by decide) rfl dX9_ask_175 rfl ?_
          refine g_goto h dX9_ask_178 (np := 27) rfl ?_
          refine g_lv [3, 4, 5, 2, 1, 0] rfl ?_
          exact ih27 x2 s0 x4 (x5 + (1 : Int32)) hF
        · refine g_iload (np := 168) h 6 rfl dX9_ask_166 rfl ?_
          refine g_goto h dX9_ask_168 (np := 173) rfl ?_
          refine g_istore (np := 175) (lv' := [(4, .int x8), (3, .int s0), (0, .ref q0), (1, .int x1), (2, .int x2), (5, .int x5), (8, .int x8), (9, .int x9)]) h (by decide) rfl dX9_ask_173 rfl ?_
          refine g_iinc (np := 178) (v := (x5 + (1 : Int32))) (lv' := [(5, .int (x5 + (1 : Int32))), (4, .int x8), (3, .int s0), (0, .ref q0), (1, .int x1), (2, .int x2), (8, .int x8), (9, .int x9)]) h 5 rfl rfl (by decide) rfl dX9_ask_175 rfl ?_
          refine g_goto h dX9_ask_178 (np := 27) rfl ?_
          refine g_lv [3, 4, 5, 2, 1, 0] rfl ?_
          exact ih27 x2 s0 x8 (x5 + (1 : Int32)) hF
      have hL147 : ∀ (x2 : Int32) (x3 : Int32) (x4 : Int32) (x5 : Int32) (x8 : Int32) (s0 : Int32), fX9_ask_147 (fun y0 y1 y2 => fX9_ask_27 x1 x2 n27 y0 y1 y2) x1 x2 x3 x4 x5 x8 s0 = some z → G l D E 10 0 0 (wdX9_ask cI cZ q0 q1 d2 d3 d4 d5 d6 d7 d8 d9 d10 v_sights v_sight v_signs v_weddings v_reason v_acts) 147 [(0, .ref q0), (1, .int x1), (2, .int x2), (3, .int x3), (4, .int x4), (5, .int x5), (8, .int x8)] [.int s0] := by
        intro x2 x3 x4 x5 x8 s0 hF
        rw [fX9_ask_147] at hF
        refine g_istore (np := 149) (lv' := [(9, .int s0), (0, .ref q0), (1, .int x1), (2, .int x2), (3, .int x3), (4, .int x4), (5, .int x5), (8, .int x8)]) h (by decide) rfl dX9_ask_147 rfl ?_
        refine g_iload (np := 151) h 0 rfl dX9_ask_149 rfl ?_
        refine g_if_eq h hF dX9_ask_151 (np := 154) rfl (tg := 159) rfl (fun c3001 hF => ?_) (fun c3001 hF => ?_)
        · refine g_iload_n (np := 160) h 4 rfl rfl dX9_ask_159 rfl ?_
          refine g_lv [1, 2, 3, 5, 6, 7, 0] rfl ?_
          exact hL160 x2 x4 x5 x8 s0 x3 hF
        · refine g_iload (np := 156) h 6 rfl dX9_ask_154 rfl ?_
          refine g_goto h dX9_ask_156 (np := 160) rfl ?_
          refine g_lv [1, 2, 3, 5, 6, 7, 0] rfl ?_
          exact hL160 x2 x4 x5 x8 s0 x5 hF
      have hL126 : ∀ (x2 : Int32) (x3 : Int32) (x4 : Int32) (x5 : Int32) (x6 : Int32) (s0 : Int32), fX9_ask_126 (fun y0 y1 y2 => fX9_ask_27 x1 x2 n27 y0 y1 y2) x1 x2 x3 x4 x5 x6 s0 = some z → G l D E 10 0 0 (wdX9_ask cI cZ q0 q1 d2 d3 d4 d5 d6 d7 d8 d9 d10 v_sights v_sight v_signs v_weddings v_reason v_acts) 126 [(0, .ref q0), (1, .int x1), (2, .int x2), (3, .int x3), (4, .int x4), (5, .int x5), (6, .int x6)] [.int s0] := by
        intro x2 x3 x4 x5 x6 s0 hF
        rw [fX9_ask_126] at hF
        refine g_istore (np := 128) (lv' := [(8, .int s0), (0, .ref q0), (1, .int x1), (2, .int x2), (3, .int x3), (4, .int x4), (5, .int x5), (6, .int x6)]) h (by decide) rfl dX9_ask_126 rfl ?_
        refine g_iload (np := 130) h 7 rfl dX9_ask_128 rfl ?_
        refine g_bipush (np := 132) (v := (8 : Int32)) h (by decide) dX9_ask_130 rfl ?_
        refine g_icmp_ge h hF dX9_ask_132 (np := 135) rfl (tg := 146) rfl (fun c4001 hF => ?_) (fun c4001 hF => ?_)
        · refine g_iconst (np := 147) (v := (0 : Int32)) h (by decide) dX9_ask_146 rfl ?_
          refine g_lv [1, 2, 3, 4, 5, 6, 0] rfl ?_
          exact hL147 x2 x3 x4 x5 s0 (0 : Int32) hF
        · refine g_iload (np := 137) h 0 rfl dX9_ask_135 rfl ?_
          refine g_iload (np := 139) h 5 rfl dX9_ask_137 rfl ?_
          refine g_icmp_ge h hF dX9_ask_139 (np := 142) rfl (tg := 146) rfl (fun c4002 hF => ?_) (fun c4002 hF => ?_)
          · refine g_iconst (np := 147) (v := (0 : Int32)) h (by decide) dX9_ask_146 rfl ?_
            refine g_lv [1, 2, 3, 4, 5, 6, 0] rfl ?_
            exact hL147 x2 x3 x4 x5 s0 (0 : Int32) hF
          · refine g_iconst (np := 143) (v := (1 : Int32)) h (by decide) dX9_ask_142 rfl ?_
            refine g_goto h dX9_ask_143 (np := 147) rfl ?_
            refine g_lv [1, 2, 3, 4, 5, 6, 0] rfl ?_
            exact hL147 x2 x3 x4 x5 s0 (1 : Int32) hF
      have hL51 : ∀ (n51 : Nat) (x2 : Int32) (x3 : Int32) (x4 : Int32) (x5 : Int32) (x6 : Int32) (x7 : Int32) (x8 : Int32), fX9_ask_51 (fun y0 y1 y2 => fX9_ask_27 x1 x2 n27 y0 y1 y2) x1 x2 x3 x4 x5 x6 n51 x7 x8 = some z → G l D E 10 0 0 (wdX9_ask cI cZ q0 q1 d2 d3 d4 d5 d6 d7 d8 d9 d10 v_sights v_sight v_signs v_weddings v_reason v_acts) 51 [(0, .ref q0), (1, .int x1), (2, .int x2), (3, .int x3), (4, .int x4), (5, .int x5), (6, .int x6), (7, .int x7), (8, .int x8)] [] := by
        intro n51
        induction n51 with
        | zero =>
          intro x2 x3 x4 x5 x6 x7 x8 hF
          rw [fX9_ask_51] at hF
          cases hF
        | succ n51 ih51 =>
          intro x2 x3 x4 x5 x6 x7 x8 hF
          rw [fX9_ask_51] at hF
          refine g_iload (np := 53) h 8 rfl dX9_ask_51 rfl ?_
          refine g_bipush (np := 55) (v := (8 : Int32)) h (by decide) dX9_ask_53 rfl ?_
          refine g_icmp_ge h hF dX9_ask_55 (np := 58) rfl (tg := 102) rfl (fun c5001 hF => ?_) (fun c5001 hF => ?_)
          · refine g_iload (np := 104) h 7 rfl dX9_ask_102 rfl ?_
            refine g_iload_n (np := 105) h 2 rfl rfl dX9_ask_104 rfl ?_
            obtain ⟨r5002, hr5002, hF⟩ := Option.bind_eq_some_iff.mp hF
            refine g_callS (np := 108) (Wd' := (wdX9_ask cI cZ q0 q1 d2 d3 d4 d5 d6 d7 d8 d9 d10 v_sights v_sight v_signs v_weddings v_reason v_acts)) (As := [.int x2]) h (mX9_bits l D cI cZ x2 r5002 hr5002) gcX9_ask_X9_bits rfl ⟨rfl, rfl⟩ hyX9_bits rfl rfl rfl rfl ⟨Nat.zero_le _, Nat.zero_le _⟩ [] [0, 1] (N := 2) (by decide +kernel) rfl rfl rfl rfl rfl dX9_ask_105 rfl ?_
            refine g_iload (np := 110) h 7 rfl dX9_ask_108 rfl ?_
            refine g_isub (np := 111) h dX9_ask_110 rfl ?_
            refine g_icmp_le h hF dX9_ask_111 (np := 114) rfl (tg := 119) rfl (fun c5003 hF => ?_) (fun c5003 hF => ?_)
            · refine g_iload_n (np := 120) h 2 rfl rfl dX9_ask_119 rfl ?_
              obtain ⟨r5004, hr5004, hF⟩ := Option.bind_eq_some_iff.mp hF
              refine g_callS (np := 123) (Wd' := (wdX9_ask cI cZ q0 q1 d2 d3 d4 d5 d6 d7 d8 d9 d10 v_sights v_sight v_signs v_weddings v_reason v_acts)) (As := [.int x2]) h (mX9_bits l D cI cZ x2 r5004 hr5004) gcX9_ask_X9_bits rfl ⟨rfl, rfl⟩ hyX9_bits rfl rfl rfl rfl ⟨Nat.zero_le _, Nat.zero_le _⟩ [] [0, 1] (N := 2) (by decide +kernel) rfl rfl rfl rfl rfl dX9_ask_120 rfl ?_
              refine g_iload (np := 125) h 7 rfl dX9_ask_123 rfl ?_
              refine g_isub (np := 126) h dX9_ask_125 rfl ?_
              refine g_lv [0, 1, 2, 3, 4, 5, 6] rfl ?_
              exact hL126 x2 x3 x4 x5 x6 (r5004 - x7) hF
            · refine g_iload (np := 116) h 7 rfl dX9_ask_114 rfl ?_
              refine g_goto h dX9_ask_116 (np := 126) rfl ?_
              refine g_lv [0, 1, 2, 3, 4, 5, 6] rfl ?_
              exact hL126 x2 x3 x4 x5 x6 x7 hF
          · refine g_iload (np := 60) h 7 rfl dX9_ask_58 rfl ?_
            refine g_iload_n (np := 61) h 2 rfl rfl dX9_ask_60 rfl ?_
            refine g_iload (np := 63) h 8 rfl dX9_ask_61 rfl ?_
            obtain ⟨r5005, hr5005, hF⟩ := Option.bind_eq_some_iff.mp hF
            refine g_callS (np := 66) (Wd' := (wdX9_ask cI cZ q0 q1 d2 d3 d4 d5 d6 d7 d8 d9 d10 v_sights v_sight v_signs v_weddings v_reason v_acts)) (As := [.int x2, .int x8]) h (mX9_has l D cI cZ x2 x8 r5005 hr5005) gcX9_ask_X9_has rfl ⟨rfl, rfl⟩ hyX9_has rfl rfl rfl rfl ⟨Nat.zero_le _, Nat.zero_le _⟩ [] [0, 1] (N := 2) (by decide +kernel) rfl rfl rfl rfl rfl dX9_ask_63 rfl ?_
            refine g_if_eq h hF dX9_ask_66 (np := 69) rfl (tg := 92) rfl (fun c5006 hF => ?_) (fun c5006 hF => ?_)
            · refine g_iconst (np := 93) (v := (0 : Int32)) h (by decide) dX9_ask_92 rfl ?_
              refine g_iadd (np := 94) h dX9_ask_93 rfl ?_
              refine g_istore (np := 96) (lv' := [(7, .int (x7 + (0 : Int32))), (0, .ref q0), (1, .int x1), (2, .int x2), (3, .int x3), (4, .int x4), (5, .int x5), (6, .int x6), (8, .int x8)]) h (by decide) rfl dX9_ask_94 rfl ?_
              refine g_iinc (np := 99) (v := (x8 + (1 : Int32))) (lv' := [(8, .int (x8 + (1 : Int32))), (7, .int (x7 + (0 : Int32))), (0, .ref q0), (1, .int x1), (2, .int x2), (3, .int x3), (4, .int x4), (5, .int x5), (6, .int x6)]) h 8 rfl rfl (by decide) rfl dX9_ask_96 rfl ?_
              refine g_goto h dX9_ask_99 (np := 51) rfl ?_
              refine g_lv [2, 3, 4, 5, 6, 7, 8, 1, 0] rfl ?_
              exact ih51 x2 x3 x4 x5 x6 (x7 + (0 : Int32)) (x8 + (1 : Int32)) hF
            · refine g_iload (np := 71) h 8 rfl dX9_ask_69 rfl ?_
              refine g_iload (np := 73) h 5 rfl dX9_ask_71 rfl ?_
              refine g_bipush (np := 75) (v := (10 : Int32)) h (by decide) dX9_ask_73 rfl ?_
              refine g_idiv (np := 76) h (by decide) dX9_ask_75 rfl ?_
              refine g_isub (np := 77) h dX9_ask_76 rfl ?_
              refine g_iload (np := 79) h 6 rfl dX9_ask_77 rfl ?_
              refine g_ineg (np := 80) h dX9_ask_79 rfl ?_
              refine g_iload (np := 82) h 6 rfl dX9_ask_80 rfl ?_
              obtain ⟨r5007, hr5007, hF⟩ := Option.bind_eq_some_iff.mp hF
              refine g_callS (np := 85) (Wd' := (wdX9_ask cI cZ q0 q1 d2 d3 d4 d5 d6 d7 d8 d9 d10 v_sights v_sight v_signs v_weddings v_reason v_acts)) (As := [.int (x8 - (x5 / (10 : Int32))), .int (-x6), .int x6]) h (mX9_in l D cI cZ (x8 - (x5 / (10 : Int32))) (-x6) x6 r5007 hr5007) gcX9_ask_X9_in rfl ⟨rfl, rfl⟩ hyX9_in rfl rfl rfl rfl ⟨Nat.zero_le _, Nat.zero_le _⟩ [] [0, 1] (N := 2) (by decide +kernel) rfl rfl rfl rfl rfl dX9_ask_82 rfl ?_
              refine g_if_eq h hF dX9_ask_85 (np := 88) rfl (tg := 92) rfl (fun c5008 hF => ?_) (fun c5008 hF => ?_)
              · refine g_iconst (np := 93) (v := (0 : Int32)) h (by decide) dX9_ask_92 rfl ?_
                refine g_iadd (np := 94) h dX9_ask_93 rfl ?_
                refine g_istore (np := 96) (lv' := [(7, .int (x7 + (0 : Int32))), (0, .ref q0), (1, .int x1), (2, .int x2), (3, .int x3), (4, .int x4), (5, .int x5), (6, .int x6), (8, .int x8)]) h (by decide) rfl dX9_ask_94 rfl ?_
                refine g_iinc (np := 99) (v := (x8 + (1 : Int32))) (lv' := [(8, .int (x8 + (1 : Int32))), (7, .int (x7 + (0 : Int32))), (0, .ref q0), (1, .int x1), (2, .int x2), (3, .int x3), (4, .int x4), (5, .int x5), (6, .int x6)]) h 8 rfl rfl (by decide) rfl dX9_ask_96 rfl ?_
                refine g_goto h dX9_ask_99 (np := 51) rfl ?_
                refine g_lv [2, 3, 4, 5, 6, 7, 8, 1, 0] rfl ?_
                exact ih51 x2 x3 x4 x5 x6 (x7 + (0 : Int32)) (x8 + (1 : Int32)) hF
              · refine g_iconst (np := 89) (v := (1 : Int32)) h (by decide) dX9_ask_88 rfl ?_
                refine g_goto h dX9_ask_89 (np := 93) rfl ?_
                refine g_iadd (np := 94) h dX9_ask_93 rfl ?_
                refine g_istore (np := 96) (lv' := [(7, .int (x7 + (1 : Int32))), (0, .ref q0), (1, .int x1), (2, .int x2), (3, .int x3), (4, .int x4), (5, .int x5), (6, .int x6), (8, .int x8)]) h (by decide) rfl dX9_ask_94 rfl ?_
                refine g_iinc (np := 99) (v := (x8 + (1 : Int32))) (lv' := [(8, .int (x8 + (1 : Int32))), (7, .int (x7 + (1 : Int32))), (0, .ref q0), (1, .int x1), (2, .int x2), (3, .int x3), (4, .int x4), (5, .int x5), (6, .int x6)]) h 8 rfl rfl (by decide) rfl dX9_ask_96 rfl ?_
                refine g_goto h dX9_ask_99 (np := 51) rfl ?_
                refine g_lv [2, 3, 4, 5, 6, 7, 8, 1, 0] rfl ?_
                exact ih51 x2 x3 x4 x5 x6 (x7 + (1 : Int32)) (x8 + (1 : Int32)) hF
      intro x2 x3 x4 x5 hF
      rw [fX9_ask_27] at hF
      refine g_iload (np := 29) h 5 rfl dX9_ask_27 rfl ?_
      refine g_bipush (np := 31) (v := (78 : Int32)) h (by decide) dX9_ask_29 rfl ?_
      refine g_icmp_ge h hF dX9_ask_31 (np := 34) rfl (tg := 181) rfl (fun c6001 hF => ?_) (fun c6001 hF => ?_)
      · refine g_lv [0, 1, 3, 4] rfl ?_
        exact hL181 x3 x4 hF
      · refine g_iload_n (np := 35) h 2 rfl rfl dX9_ask_34 rfl ?_
        refine g_if_eq h hF dX9_ask_35 (np := 38) rfl (tg := 181) rfl (fun c6002 hF => ?_) (fun c6002 hF => ?_)
        · refine g_lv [0, 1, 3, 4] rfl ?_
          exact hL181 x3 x4 hF
        · refine g_iload (np := 40) h 5 rfl dX9_ask_38 rfl ?_
          refine g_bipush (np := 42) (v := (10 : Int32)) h (by decide) dX9_ask_40 rfl ?_
          refine g_irem (np := 43) h (by decide) dX9_ask_42 rfl ?_
          refine g_istore (np := 45) (lv' := [(6, .int (jrem x5 (10 : Int32))), (0, .ref q0), (1, .int x1), (2, .int x2), (3, .int x3), (4, .int x4), (5, .int x5)]) h (by decide) rfl dX9_ask_43 rfl ?_
          refine g_iconst (np := 46) (v := (0 : Int32)) h (by decide) dX9_ask_45 rfl ?_
          refine g_istore (np := 48) (lv' := [(7, .int (0 : Int32)), (6, .int (jrem x5 (10 : Int32))), (0, .ref q0), (1, .int x1), (2, .int x2), (3, .int x3), (4, .int x4), (5, .int x5)]) h (by decide) rfl dX9_ask_46 rfl ?_
          refine g_iconst (np := 49) (v := (0 : Int32)) h (by decide) dX9_ask_48 rfl ?_
          refine g_istore (np := 51) (lv' := [(8, .int (0 : Int32)), (7, .int (0 : Int32)), (6, .int (jrem x5 (10 : Int32))), (0, .ref q0), (1, .int x1), (2, .int x2), (3, .int x3), (4, .int x4), (5, .int x5)]) h (by decide) rfl dX9_ask_49 rfl ?_
          refine g_lv [3, 4, 5, 6, 7, 8, 2, 1, 0] rfl ?_
          exact hL51 _ x2 x3 x4 x5 (jrem x5 (10 : Int32)) (0 : Int32) (0 : Int32) hF
  unfold fX9_ask at hF
  refine g_iload_n (np := 1) h 1 rfl rfl dX9_ask_0 rfl ?_
  refine g_iconst (np := 2) (v := (0 : Int32)) h (by decide) dX9_ask_1 rfl ?_
  refine g_iconst (np := 3) (v := (1 : Int32)) h (by decide) dX9_ask_2 rfl ?_
  obtain ⟨r1, hr1, hF⟩ := Option.bind_eq_some_iff.mp hF
  refine g_callS (np := 6) (Wd' := (wdX9_ask cI cZ q0 q1 d2 d3 d4 d5 d6 d7 d8 d9 d10 v_sights v_sight v_signs v_weddings v_reason v_acts)) (As := [.int x1, .int (0 : Int32), .int (1 : Int32)]) h (mX9_in l D cI cZ x1 (0 : Int32) (1 : Int32) r1 hr1) gcX9_ask_X9_in rfl ⟨rfl, rfl⟩ hyX9_in rfl rfl rfl rfl ⟨Nat.zero_le _, Nat.zero_le _⟩ [] [0, 1] (N := 2) (by decide +kernel) rfl rfl rfl rfl rfl dX9_ask_3 rfl ?_
  refine g_if_ne h hF dX9_ask_6 (np := 9) rfl (tg := 12) rfl (fun c2 hF => ?_) (fun c2 hF => ?_)
  · refine g_aload_n (np := 13) h 0 rfl rfl dX9_ask_12 rfl ?_
    obtain ⟨r3, hr3, hF⟩ := Option.bind_eq_some_iff.mp hF
    refine g_callV (np := 16) (Wd' := (wdX9_ask cI cZ q0 q1 d2 d3 d4 d5 d6 d7 d8 d9 d10 v_sights v_sight v_signs v_weddings v_reason v_acts)) (As := []) h (mX9_wheelSet l D cI cZ q0 q1 d2 d3 d4 d5 d6 d7 d8 d9 d10 v_sights v_sight v_signs v_weddings v_reason v_acts r3 hr3) gcX9_ask_X9_wheelSet rfl ⟨rfl, rfl⟩ ⟨rfl, hyX9_wheelSet⟩ rfl 9 0 rfl rfl rfl rfl rfl rfl ⟨Nat.zero_le _, Nat.zero_le _⟩ [0, 1] [] (N := 2) (by decide +kernel) rfl rfl rfl rfl rfl dX9_ask_13 rfl ?_
    refine g_istore_n (np := 17) (lv' := [(2, .int r3), (0, .ref q0), (1, .int x1)]) h rfl (by decide) rfl dX9_ask_16 rfl ?_
    refine g_bipush (np := 19) (v := (-6 : Int32)) h (by decide) dX9_ask_17 rfl ?_
    refine g_istore_n (np := 20) (lv' := [(3, .int (-6 : Int32)), (2, .int r3), (0, .ref q0), (1, .int x1)]) h rfl (by decide) rfl dX9_ask_19 rfl ?_
    refine g_ldc (np := 22) (v := (1000000 : Int32)) h (imX9_ask_own _ (List.mem_of_getElem? (i := 0) rfl)) dX9_ask_20 rfl ?_
    refine g_istore (np := 24) (lv' := [(4, .int (1000000 : Int32)), (3, .int (-6 : Int32)), (2, .int r3), (0, .ref q0), (1, .int x1)]) h (by decide) rfl dX9_ask_22 rfl ?_
    refine g_iconst (np := 25) (v := (0 : Int32)) h (by decide) dX9_ask_24 rfl ?_
    refine g_istore (np := 27) (lv' := [(5, .int (0 : Int32)), (4, .int (1000000 : Int32)), (3, .int (-6 : Int32)), (2, .int r3), (0, .ref q0), (1, .int x1)]) h (by decide) rfl dX9_ask_25 rfl ?_
    refine g_lv [4, 5, 3, 2, 1, 0] rfl ?_
    exact hL27 _ r3 (-6 : Int32) (1000000 : Int32) (0 : Int32) hF
  · refine g_bipush (np := 11) (v := (-2 : Int32)) h (by decide) dX9_ask_9 rfl ?_
    exact hend _ hF _ _ dX9_ask_11
theorem dX9_saw_0 : decode cX9_saw 0 = .ok (.iload_n 1, 1) := by decide +kernel
theorem dX9_saw_1 : decode cX9_saw 1 = .ok (.iconst 1, 1) := by decide +kernel
theorem dX9_saw_2 : decode cX9_saw 2 = .ok (.bipush 9, 2) := by decide +kernel
theorem dX9_saw_4 : decode cX9_saw 4 = .ok (.invokestatic 41, 3) := by decide +kernel
theorem dX9_saw_7 : decode cX9_saw 7 = .ok (.ifCond .eq 12, 3) := by decide +kernel
theorem dX9_saw_10 : decode cX9_saw 10 = .ok (.iload_n 2, 1) := by decide +kernel
theorem dX9_saw_11 : decode cX9_saw 11 = .ok (.iconst 0, 1) := by decide +kernel
theorem dX9_saw_12 : decode cX9_saw 12 = .ok (.iconst 1, 1) := by decide +kernel
theorem dX9_saw_13 : decode cX9_saw 13 = .ok (.invokestatic 41, 3) := by decide +kernel
theorem dX9_saw_16 : decode cX9_saw 16 = .ok (.ifCond .ne 6, 3) := by decide +kernel
theorem dX9_saw_19 : decode cX9_saw 19 = .ok (.bipush (-2), 2) := by decide +kernel
theorem dX9_saw_21 : decode cX9_saw 21 = .ok (.ireturn, 1) := by decide +kernel
theorem dX9_saw_22 : decode cX9_saw 22 = .ok (.iconst 0, 1) := by decide +kernel
theorem dX9_saw_23 : decode cX9_saw 23 = .ok (.istore_n 3, 1) := by decide +kernel
theorem dX9_saw_24 : decode cX9_saw 24 = .ok (.iconst 0, 1) := by decide +kernel
theorem dX9_saw_25 : decode cX9_saw 25 = .ok (.istore 4, 2) := by decide +kernel
theorem dX9_saw_27 : decode cX9_saw 27 = .ok (.iload 4, 2) := by decide +kernel
theorem dX9_saw_29 : decode cX9_saw 29 = .ok (.bipush 10, 2) := by decide +kernel
theorem dX9_saw_31 : decode cX9_saw 31 = .ok (.if_icmp .ge 41, 3) := by decide +kernel
theorem dX9_saw_34 : decode cX9_saw 34 = .ok (.iload_n 3, 1) := by decide +kernel
theorem dX9_saw_35 : decode cX9_saw 35 = .ok (.aload_n 0, 1) := by decide +kernel
theorem dX9_saw_36 : decode cX9_saw 36 = .ok (.getfield 7, 3) := by decide +kernel
theorem dX9_saw_39 : decode cX9_saw 39 = .ok (.iload 4, 2) := by decide +kernel
theorem dX9_saw_41 : decode cX9_saw 41 = .ok (.iaload, 1) := by decide +kernel
theorem dX9_saw_42 : decode cX9_saw 42 = .ok (.iconst 1, 1) := by decide +kernel
theorem dX9_saw_43 : decode cX9_saw 43 = .ok (.if_icmp .ne 20, 3) := by decide +kernel
theorem dX9_saw_46 : decode cX9_saw 46 = .ok (.aload_n 0, 1) := by decide +kernel
theorem dX9_saw_47 : decode cX9_saw 47 = .ok (.getfield 16, 3) := by decide +kernel
theorem dX9_saw_50 : decode cX9_saw 50 = .ok (.bipush 20, 2) := by decide +kernel
theorem dX9_saw_52 : decode cX9_saw 52 = .ok (.iload 4, 2) := by decide +kernel
theorem dX9_saw_54 : decode cX9_saw 54 = .ok (.iadd, 1) := by decide +kernel
theorem dX9_saw_55 : decode cX9_saw 55 = .ok (.iaload, 1) := by decide +kernel
theorem dX9_saw_56 : decode cX9_saw 56 = .ok (.iload_n 1, 1) := by decide +kernel
theorem dX9_saw_57 : decode cX9_saw 57 = .ok (.iconst 1, 1) := by decide +kernel
theorem dX9_saw_58 : decode cX9_saw 58 = .ok (.iadd, 1) := by decide +kernel
theorem dX9_saw_59 : decode cX9_saw 59 = .ok (.irem, 1) := by decide +kernel
theorem dX9_saw_60 : decode cX9_saw 60 = .ok (.goto 4, 3) := by decide +kernel
theorem dX9_saw_63 : decode cX9_saw 63 = .ok (.iconst 0, 1) := by decide +kernel
theorem dX9_saw_64 : decode cX9_saw 64 = .ok (.ixor, 1) := by decide +kernel
theorem dX9_saw_65 : decode cX9_saw 65 = .ok (.istore_n 3, 1) := by decide +kernel
theorem dX9_saw_66 : decode cX9_saw 66 = .ok (.iinc 4 1, 3) := by decide +kernel
theorem dX9_saw_69 : decode cX9_saw 69 = .ok (.goto (-42), 3) := by decide +kernel
theorem dX9_saw_72 : decode cX9_saw 72 = .ok (.bipush (-6), 2) := by decide +kernel
theorem dX9_saw_74 : decode cX9_saw 74 = .ok (.istore 4, 2) := by decide +kernel
theorem dX9_saw_76 : decode cX9_saw 76 = .ok (.bipush 9, 2) := by decide +kernel
theorem dX9_saw_78 : decode cX9_saw 78 = .ok (.istore 5, 2) := by decide +kernel
theorem dX9_saw_80 : decode cX9_saw 80 = .ok (.iload 5, 2) := by decide +kernel
theorem dX9_saw_82 : decode cX9_saw 82 = .ok (.ifCond .lt 105, 3) := by decide +kernel
theorem dX9_saw_85 : decode cX9_saw 85 = .ok (.iload_n 1, 1) := by decide +kernel
theorem dX9_saw_86 : decode cX9_saw 86 = .ok (.istore 6, 2) := by decide +kernel
theorem dX9_saw_88 : decode cX9_saw 88 = .ok (.iload 6, 2) := by decide +kernel
theorem dX9_saw_90 : decode cX9_saw 90 = .ok (.ifCond .le 91, 3) := by decide +kernel
theorem dX9_saw_93 : decode cX9_saw 93 = .ok (.aload_n 0, 1) := by decide +kernel
theorem dX9_saw_94 : decode cX9_saw 94 = .ok (.getfield 7, 3) := by decide +kernel
theorem dX9_saw_97 : decode cX9_saw 97 = .ok (.iload 5, 2) := by decide +kernel
theorem dX9_saw_99 : decode cX9_saw 99 = .ok (.iaload, 1) := by decide +kernel
theorem dX9_saw_100 : decode cX9_saw 100 = .ok (.iconst 1, 1) := by decide +kernel
theorem dX9_saw_101 : decode cX9_saw 101 = .ok (.if_icmp .ne 74, 3) := by decide +kernel
theorem dX9_saw_104 : decode cX9_saw 104 = .ok (.iload 6, 2) := by decide +kernel
theorem dX9_saw_106 : decode cX9_saw 106 = .ok (.aload_n 0, 1) := by decide +kernel
theorem dX9_saw_107 : decode cX9_saw 107 = .ok (.getfield 16, 3) := by decide +kernel
theorem dX9_saw_110 : decode cX9_saw 110 = .ok (.bipush 20, 2) := by decide +kernel
theorem dX9_saw_112 : decode cX9_saw 112 = .ok (.iload 5, 2) := by decide +kernel
theorem dX9_saw_114 : decode cX9_saw 114 = .ok (.iadd, 1) := by decide +kernel
theorem dX9_saw_115 : decode cX9_saw 115 = .ok (.iaload, 1) := by decide +kernel
theorem dX9_saw_116 : decode cX9_saw 116 = .ok (.if_icmp .gt 59, 3) := by decide +kernel
theorem dX9_saw_119 : decode cX9_saw 119 = .ok (.iload_n 3, 1) := by decide +kernel
theorem dX9_saw_120 : decode cX9_saw 120 = .ok (.aload_n 0, 1) := by decide +kernel
theorem dX9_saw_121 : decode cX9_saw 121 = .ok (.getfield 16, 3) := by decide +kernel
theorem dX9_saw_124 : decode cX9_saw 124 = .ok (.bipush 20, 2) := by decide +kernel
theorem dX9_saw_126 : decode cX9_saw 126 = .ok (.iload 5, 2) := by decide +kernel
theorem dX9_saw_128 : decode cX9_saw 128 = .ok (.iadd, 1) := by decide +kernel
theorem dX9_saw_129 : decode cX9_saw 129 = .ok (.iaload, 1) := by decide +kernel
theorem dX9_saw_130 : decode cX9_saw 130 = .ok (.iload_n 1, 1) := by decide +kernel
theorem dX9_saw_131 : decode cX9_saw 131 = .ok (.iconst 1, 1) := by decide +kernel
theorem dX9_saw_132 : decode cX9_saw 132 = .ok (.iadd, 1) := by decide +kernel
theorem dX9_saw_133 : decode cX9_saw 133 = .ok (.irem, 1) := by decide +kernel
theorem dX9_saw_134 : decode cX9_saw 134 = .ok (.ixor, 1) := by decide +kernel
theorem dX9_saw_135 : decode cX9_saw 135 = .ok (.aload_n 0, 1) := by decide +kernel
theorem dX9_saw_136 : decode cX9_saw 136 = .ok (.getfield 16, 3) := by decide +kernel
theorem dX9_saw_139 : decode cX9_saw 139 = .ok (.bipush 20, 2) := by decide +kernel
theorem dX9_saw_141 : decode cX9_saw 141 = .ok (.iload 5, 2) := by decide +kernel
theorem dX9_saw_143 : decode cX9_saw 143 = .ok (.iadd, 1) := by decide +kernel
theorem dX9_saw_144 : decode cX9_saw 144 = .ok (.iaload, 1) := by decide +kernel
theorem dX9_saw_145 : decode cX9_saw 145 = .ok (.iload 6, 2) := by decide +kernel
theorem dX9_saw_147 : decode cX9_saw 147 = .ok (.isub, 1) := by decide +kernel
theorem dX9_saw_148 : decode cX9_saw 148 = .ok (.iload_n 1, 1) := by decide +kernel
theorem dX9_saw_149 : decode cX9_saw 149 = .ok (.iconst 1, 1) := by decide +kernel
theorem dX9_saw_150 : decode cX9_saw 150 = .ok (.iadd, 1) := by decide +kernel
theorem dX9_saw_151 : decode cX9_saw 151 = .ok (.irem, 1) := by decide +kernel
theorem dX9_saw_152 : decode cX9_saw 152 = .ok (.ixor, 1) := by decide +kernel
theorem dX9_saw_153 : decode cX9_saw 153 = .ok (.istore 7, 2) := by decide +kernel
theorem dX9_saw_155 : decode cX9_saw 155 = .ok (.iload 7, 2) := by decide +kernel
theorem dX9_saw_157 : decode cX9_saw 157 = .ok (.ifCond .ne 14, 3) := by decide +kernel
theorem dX9_saw_160 : decode cX9_saw 160 = .ok (.bipush 100, 2) := by decide +kernel
theorem dX9_saw_162 : decode cX9_saw 162 = .ok (.iload 5, 2) := by decide +kernel
theorem dX9_saw_164 : decode cX9_saw 164 = .ok (.imul, 1) := by decide +kernel
theorem dX9_saw_165 : decode cX9_saw 165 = .ok (.iload 6, 2) := by decide +kernel
theorem dX9_saw_167 : decode cX9_saw 167 = .ok (.iadd, 1) := by decide +kernel
theorem dX9_saw_168 : decode cX9_saw 168 = .ok (.goto 5, 3) := by decide +kernel
theorem dX9_saw_171 : decode cX9_saw 171 = .ok (.iload 4, 2) := by decide +kernel
theorem dX9_saw_173 : decode cX9_saw 173 = .ok (.istore 4, 2) := by decide +kernel
theorem dX9_saw_175 : decode cX9_saw 175 = .ok (.iinc 6 (-1), 3) := by decide +kernel
theorem dX9_saw_178 : decode cX9_saw 178 = .ok (.goto (-90), 3) := by decide +kernel
theorem dX9_saw_181 : decode cX9_saw 181 = .ok (.iinc 5 (-1), 3) := by decide +kernel
theorem dX9_saw_184 : decode cX9_saw 184 = .ok (.goto (-104), 3) := by decide +kernel
theorem dX9_saw_187 : decode cX9_saw 187 = .ok (.iload_n 2, 1) := by decide +kernel
theorem dX9_saw_188 : decode cX9_saw 188 = .ok (.iconst 1, 1) := by decide +kernel
theorem dX9_saw_189 : decode cX9_saw 189 = .ok (.if_icmp .ne 8, 3) := by decide +kernel
theorem dX9_saw_192 : decode cX9_saw 192 = .ok (.iload 4, 2) := by decide +kernel
theorem dX9_saw_194 : decode cX9_saw 194 = .ok (.goto 13, 3) := by decide +kernel
theorem dX9_saw_197 : decode cX9_saw 197 = .ok (.iload 4, 2) := by decide +kernel
theorem dX9_saw_199 : decode cX9_saw 199 = .ok (.ifCond .ge 7, 3) := by decide +kernel
theorem dX9_saw_202 : decode cX9_saw 202 = .ok (.iconst 0, 1) := by decide +kernel
theorem dX9_saw_203 : decode cX9_saw 203 = .ok (.goto 4, 3) := by decide +kernel
theorem dX9_saw_206 : decode cX9_saw 206 = .ok (.iconst 1, 1) := by decide +kernel
theorem dX9_saw_207 : decode cX9_saw 207 = .ok (.ireturn, 1) := by decide +kernel
def wtX9_saw : List Cond := .code yX9_saw cX9_saw 8 (some .int) :: (([.fieldLink RX9 7 "DriftKinModel" "book" "[I", .fieldLink RX9 16 "DriftKinModel" "of" "[I"]) ++ ((u_ws RX9 TX9 15) ++ ((va_wsS RX9 41 yX9_in wtX9_in) ++ [])))
theorem imX9_saw_own : ∀ w ∈ ([.fieldLink RX9 7 "DriftKinModel" "book" "[I", .fieldLink RX9 16 "DriftKinModel" "of" "[I"] : List Cond), w ∈ wtX9_saw := fun w h => List.mem_cons_of_mem _ (inl h)
theorem imX9_saw_u_X9 : ∀ w ∈ (u_ws RX9 TX9 15 : List Cond), w ∈ wtX9_saw := fun w h => List.mem_cons_of_mem _ (inr (inl h))
theorem imX9_saw_c_X9_in : ∀ w ∈ (va_wsS RX9 41 yX9_in wtX9_in : List Cond), w ∈ wtX9_saw := fun w h => List.mem_cons_of_mem _ (inr (inr (inl h)))
theorem gdX9_saw : ∀ w ∈ wtX9_saw, Gd w := gdc rfl (gda (gdl (by decide +kernel)) (gda (gdu _ _ _) (gda (gda (gdl (by decide +kernel)) gdX9_in) gdn)))
theorem gcX9_saw_X9_in : GoodIn wtX9_saw (va_wsS RX9 41 yX9_in wtX9_in) := fun w h => ⟨imX9_saw_c_X9_in w h, (gda (gdl (by decide +kernel)) gdX9_in) w h⟩
def fX9_saw_88 (k80 : Int32 → Int32 → Option (Int32)) (v_book : Nat → Int32) (v_of : Nat → Int32) (x1 : Int32) (x2 : Int32) (x3 : Int32) (x5 : Int32) : Nat → Int32 → Int32 → Option (Int32)
  | 0, _, _ => none
  | n + 1, x4, x6 =>
    if x6 ≤ (0 : Int32) then
      k80 x4 (x5 + (-1 : Int32))
    else
      chk x5 35 (
        if (rd v_book x5) = (1 : Int32) then
          chk ((20 : Int32) + x5) 60 (
            if (rd v_of ((20 : Int32) + x5)) < x6 then
              fX9_saw_88 k80 v_book v_of x1 x2 x3 x5 n x4 (x6 + (-1 : Int32))
            else
              chk ((20 : Int32) + x5) 60 (
                nzi (x1 + (1 : Int32)) (
                  chk ((20 : Int32) + x5) 60 (
                    nzi (x1 + (1 : Int32)) (
                      bnd ((x3 ^^^ (jrem (rd v_of ((20 : Int32) + x5)) (x1 + (1 : Int32)))) ^^^ (jrem ((rd v_of ((20 : Int32) + x5)) - x6) (x1 + (1 : Int32)))) (fun t1010 =>
                        if t1010 = (0 : Int32) then
                          fX9_saw_88 k80 v_book v_of x1 x2 x3 x5 n (((100 : Int32) * x5) + x6) (x6 + (-1 : Int32))
                        else
                          fX9_saw_88 k80 v_book v_of x1 x2 x3 x5 n x4 (x6 + (-1 : Int32))))))))
        else
          fX9_saw_88 k80 v_book v_of x1 x2 x3 x5 n x4 (x6 + (-1 : Int32)))
def fX9_saw_80 (v_book : Nat → Int32) (v_of : Nat → Int32) (x1 : Int32) (x2 : Int32) (x3 : Int32) : Nat → Int32 → Int32 → Option (Int32)
  | 0, _, _ => none
  | n + 1, x4, x5 =>
    if x5 < (0 : Int32) then
      if x2 = (1 : Int32) then
        some x4
      else
        if (0 : Int32) ≤ x4 then
          some (1 : Int32)
        else
          some (0 : Int32)
    else
      fX9_saw_88 (fun y0 y1 => fX9_saw_80 v_book v_of x1 x2 x3 n y0 y1) v_book v_of x1 x2 x3 x5 2000 x4 x1
def fX9_saw_27 (v_book : Nat → Int32) (v_of : Nat → Int32) (x1 : Int32) (x2 : Int32) : Nat → Int32 → Int32 → Option (Int32)
  | 0, _, _ => none
  | n + 1, x3, x4 =>
    if (10 : Int32) ≤ x4 then
      fX9_saw_80 v_book v_of x1 x2 x3 2000 (-6 : Int32) (9 : Int32)
    else
      chk x4 35 (
        if (rd v_book x4) = (1 : Int32) then
          chk ((20 : Int32) + x4) 60 (
            nzi (x1 + (1 : Int32)) (
              fX9_saw_27 v_book v_of x1 x2 n (x3 ^^^ (jrem (rd v_of ((20 : Int32) + x4)) (x1 + (1 : Int32)))) (x4 + (1 : Int32))))
        else
          fX9_saw_27 v_book v_of x1 x2 n (x3 ^^^ (0 : Int32)) (x4 + (1 : Int32)))
def fX9_saw (v_book : Nat → Int32) (v_of : Nat → Int32) (x1 : Int32) (x2 : Int32) : Option (Int32) :=
  (fX9_in x1 (1 : Int32) (9 : Int32)).bind (fun r1 =>
    if r1 = (0 : Int32) then
      some (-2 : Int32)
    else
      (fX9_in x2 (0 : Int32) (1 : Int32)).bind (fun r3 =>
        if r3 = (0 : Int32) then
          some (-2 : Int32)
        else
          fX9_saw_27 v_book v_of x1 x2 2000 (0 : Int32) (0 : Int32)))
def wdX9_saw (cI cZ : ClassId) (q0 : Nat) (q1 : Nat) (q2 : Nat) (d3 : Nat) (d4 : Nat) (d5 : Nat) (d6 : Nat) (d7 : Nat) (d8 : Nat) (d9 : Nat) (d10 : Nat)  (v_book : Nat → Int32) (v_of : Nat → Int32) (v_sights : Int32) (v_signs : Int32) (v_weddings : Int32) (v_reason : Int32) (v_acts : Int32) : va_W := [(q0, .inr (9, [.ref q1, .ref d3, .ref q2, .int v_sights, .ref d4, .int v_signs, .ref d5, .int v_weddings, .int v_reason, .int v_acts, .ref d6, .ref d7, .ref d8, .ref d9, .ref d10])), (q1, .inl (cI, 35, .inl v_book)), (q2, .inl (cI, 60, .inl v_of))]
abbrev rmX9_saw : Jvm.Room := { frames := 1, cells := 0, slots := 0, locals := 22 }
theorem hyX9_saw : yX9_saw.cls ≠ "java/lang/invoke/MethodHandle" ∧ yX9_saw.cls ≠ "java/lang/invoke/VarHandle" ∧ (parseMethodDescriptor yX9_saw.desc).map (fun d => d.parameters.length) = some 2 := by decide +kernel
set_option maxHeartbeats 4000000 in
set_option maxRecDepth 100000 in
theorem mX9_saw (l : Launch) (D : va_G) (cI cZ : ClassId) (q0 : Nat) (q1 : Nat) (q2 : Nat) (d3 : Nat) (d4 : Nat) (d5 : Nat) (d6 : Nat) (d7 : Nat) (d8 : Nat) (d9 : Nat) (d10 : Nat) (v_book : Nat → Int32) (v_of : Nat → Int32) (v_sights : Int32) (v_signs : Int32) (v_weddings : Int32) (v_reason : Int32) (v_acts : Int32) (x1 : Int32) (x2 : Int32) (z : Int32) (hF : fX9_saw v_book v_of x1 x2 = some z) : mp l yX9_saw wtX9_saw rmX9_saw D cI cZ [.ref q0, .int x1, .int x2] (wdX9_saw cI cZ q0 q1 q2 d3 d4 d5 d6 d7 d8 d9 d10 v_book v_of v_sights v_signs v_weddings v_reason v_acts) (some (.int z)) (wdX9_saw cI cZ q0 q1 q2 d3 d4 d5 d6 d7 d8 d9 d10 v_book v_of v_sights v_signs v_weddings v_reason v_acts) := by
  refine mp_i (lv0 := [(0, .ref q0), (1, .int x1), (2, .int x2)]) cX9_saw 8 z (by decide) rfl (Nat.le_of_ble_eq_true rfl) rfl (fun E h hend0 => ?_)
  have hend : ∀ (z' : Int32), some z' = some z → ∀ (pc : Nat) (lv : List (Nat × Value)), decode cX9_saw pc = .ok (.ireturn, 1) → G l D E 8 0 0 (wdX9_saw cI cZ q0 q1 q2 d3 d4 d5 d6 d7 d8 d9 d10 v_book v_of v_sights v_signs v_weddings v_reason v_acts) pc lv [.int z'] := fun z' e => by cases e; exact hend0
  clear hend0
  have hL80 : ∀ (n80 : Nat) (x3 : Int32) (x4 : Int32) (x5 : Int32), fX9_saw_80 v_book v_of x1 x2 x3 n80 x4 x5 = some z → G l D E 8 0 0 (wdX9_saw cI cZ q0 q1 q2 d3 d4 d5 d6 d7 d8 d9 d10 v_book v_of v_sights v_signs v_weddings v_reason v_acts) 80 [(0, .ref q0), (1, .int x1), (2, .int x2), (3, .int x3), (4, .int x4), (5, .int x5)] [] := by
    intro n80
    induction n80 with
    | zero =>
      intro x3 x4 x5 hF
      rw [fX9_saw_80] at hF
      cases hF
    | succ n80 ih80 =>
      have hL88 : ∀ (n88 : Nat) (x3 : Int32) (x4 : Int32) (x5 : Int32) (x6 : Int32), fX9_saw_88 (fun y0 y1 => fX9_saw_80 v_book v_of x1 x2 x3 n80 y0 y1) v_book v_of x1 x2 x3 x5 n88 x4 x6 = some z → G l D E 8 0 0 (wdX9_saw cI cZ q0 q1 q2 d3 d4 d5 d6 d7 d8 d9 d10 v_book v_of v_sights v_signs v_weddings v_reason v_acts) 88 [(0, .ref q0), (1, .int x1), (2, .int x2), (3, .int x3), (4, .int x4), (5, .int x5), (6, .int x6)] [] := by
        intro n88
        induction n88 with
        | zero =>
          intro x3 x4 x5 x6 hF
          rw [fX9_saw_88] at hF
          cases hF
        | succ n88 ih88 =>
          intro x3 x4 x5 x6 hF
          rw [fX9_saw_88] at hF
          refine g_iload (np := 90) h 6 rfl dX9_saw_88 rfl ?_
          refine g_if_le h hF dX9_saw_90 (np := 93) rfl (tg := 181) rfl (fun c1001 hF => ?_) (fun c1001 hF => ?_)
          · refine g_iinc (np := 184) (v := (x5 + (-1 : Int32))) (lv' := [(5, .int (x5 + (-1 : Int32))), (0, .ref q0), (1, .int x1), (2, .int x2), (3, .int x3), (4, .int x4), (6, .int x6)]) h 5 rfl (congrArg (fun w => x5 + w) (show Int32.ofInt (-1) = (-1 : Int32) by decide)) (by decide) rfl dX9_saw_181 rfl ?_
            refine g_goto h dX9_saw_184 (np := 80) rfl ?_
            refine g_lv [1, 2, 3, 4, 5, 0] rfl ?_
            exact ih80 x3 x4 (x5 + (-1 : Int32)) hF
          · refine g_aload_n (np := 94) h 0 rfl rfl dX9_saw_93 rfl ?_
            refine g_get (np := 97) (T := TX9) h imX9_saw_u_X9 0 9 rfl rfl 0 (by decide) (imX9_saw_own _ (List.mem_of_getElem? (i := 0) rfl)) rfl dX9_saw_94 rfl ?_
            refine g_iload (np := 99) h 5 rfl dX9_saw_97 rfl ?_
            refine g_iald (np := 100) h 1 rfl hF dX9_saw_99 rfl (fun hi1002 hF => ?_)
            refine g_iconst (np := 101) (v := (1 : Int32)) h (by decide) dX9_saw_100 rfl ?_
            refine g_icmp_ne h hF dX9_saw_101 (np := 104) rfl (tg := 175) rfl (fun c1003 hF => ?_) (fun c1003 hF => ?_)
            · refine g_iinc (np := 178) (v := (x6 + (-1 : Int32))) (lv' := [(6, .int (x6 + (-1 : Int32))), (0, .ref q0), (1, .int x1), (2, .int x2), (3, .int x3), (4, .int x4), (5, .int x5)]) h 6 rfl (congrArg (fun w => x6 + w) (show Int32.ofInt (-1) = (-1 : Int32) by decide)) (by decide) rfl dX9_saw_175 rfl ?_
              refine g_goto h dX9_saw_178 (np := 88) rfl ?_
              refine g_lv [1, 2, 3, 4, 5, 6, 0] rfl ?_
              exact ih88 x3 x4 x5 (x6 + (-1 : Int32)) hF
            · refine g_iload (np := 106) h 6 rfl dX9_saw_104 rfl ?_
              refine g_aload_n (np := 107) h 0 rfl rfl dX9_saw_106 rfl ?_
              refine g_get (np := 110) (T := TX9) h imX9_saw_u_X9 0 9 rfl rfl 2 (by decide) (imX9_saw_own _ (List.mem_of_getElem? (i := 1) rfl)) rfl dX9_saw_107 rfl ?_
              refine g_bipush (np := 112) (v := (20 : Int32)) h (by decide) dX9_saw_110 rfl ?_
              refine g_iload (np := 114) h 5 rfl dX9_saw_112 rfl ?_
              refine g_iadd (np := 115) h dX9_saw_114 rfl ?_
              refine g_iald (np := 116) h 2 rfl hF dX9_saw_115 rfl (fun hi1004 hF => ?_)
              refine g_icmp_gt h hF dX9_saw_116 (np := 119) rfl (tg := 175) rfl (fun c1005 hF => ?_) (fun c1005 hF => ?_)
              · refine g_iinc (np := 178) (v := (x6 + (-1 : Int32))) (lv' := [(6, .int (x6 + (-1 : Int32))), (0, .ref q0), (1, .int x1), (2, .int x2), (3, .int x3), (4, .int x4), (5, .int x5)]) h 6 rfl (congrArg (fun w => x6 + w) (show Int32.ofInt (-1) = (-1 : Int32) by decide)) (by decide) rfl dX9_saw_175 rfl ?_
                refine g_goto h dX9_saw_178 (np := 88) rfl ?_
                refine g_lv [1, 2, 3, 4, 5, 6, 0] rfl ?_
                exact ih88 x3 x4 x5 (x6 + (-1 : Int32)) hF
              · refine g_iload_n (np := 120) h 3 rfl rfl dX9_saw_119 rfl ?_
                refine g_aload_n (np := 121) h 0 rfl rfl dX9_saw_120 rfl ?_
                refine g_get (np := 124) (T := TX9) h imX9_saw_u_X9 0 9 rfl rfl 2 (by decide) (imX9_saw_own _ (List.mem_of_getElem? (i := 1) rfl)) rfl dX9_saw_121 rfl ?_
                refine g_bipush (np := 126) (v := (20 : Int32)) h (by decide) dX9_saw_124 rfl ?_
                refine g_iload (np := 128) h 5 rfl dX9_saw_126 rfl ?_
                refine g_iadd (np := 129) h dX9_saw_128 rfl ?_
                refine g_iald (np := 130) h 2 rfl hF dX9_saw_129 rfl (fun hi1006 hF => ?_)
                refine g_iload_n (np := 131) h 1 rfl rfl dX9_saw_130 rfl ?_
                refine g_iconst (np := 132) (v := (1 : Int32)) h (by decide) dX9_saw_131 rfl ?_
                refine g_iadd (np := 133) h dX9_saw_132 rfl ?_
                obtain ⟨hz1007, hF⟩ := nzi_e hF
                refine g_irem (np := 134) h hz1007 dX9_saw_133 rfl ?_
                refine g_ixor (np := 135) h dX9_saw_134 rfl ?_
                refine g_aload_n (np := 136) h 0 rfl rfl dX9_saw_135 rfl ?_
                refine g_get (np := 139) (T := TX9) h imX9_saw_u_X9 0 9 rfl rfl 2 (by decide) (imX9_saw_own _ (List.mem_of_getElem? (i := 1) rfl)) rfl dX9_saw_136 rfl ?_
                refine g_bipush (np := 141) (v := (20 : Int32)) h (by decide) dX9_saw_139 rfl ?_
                refine g_iload (np := 143) h 5 rfl dX9_saw_141 rfl ?_
                refine g_iadd (np := 144) h dX9_saw_143 rfl ?_
                refine g_iald (np := 145) h 2 rfl hF dX9_saw_144 rfl (fun hi1008 hF => ?_)
                refine g_iload (np := 147) h 6 rfl dX9_saw_145 rfl ?_
                refine g_isub (np := 148) h dX9_saw_147 rfl ?_
                refine g_iload_n (np := 149) h 1 rfl rfl dX9_saw_148 rfl ?_
                refine g_iconst (np := 150) (v := (1 : Int32)) h (by decide) dX9_saw_149 rfl ?_
                refine g_iadd (np := 151) h dX9_saw_150 rfl ?_
                obtain ⟨hz1009, hF⟩ := nzi_e hF
                refine g_irem (np := 152) h hz1009 dX9_saw_151 rfl ?_
                refine g_ixor (np := 153) h dX9_saw_152 rfl ?_
                refine g_top hF (fun t1010 et1010 hF => ?_)
                refine g_istore (np := 155) (lv' := [(7, .int t1010), (0, .ref q0), (1, .int x1), (2, .int x2), (3, .int x3), (4, .int x4), (5, .int x5), (6, .int x6)]) h (by decide) rfl dX9_saw_153 rfl ?_
                refine g_iload (np := 157) h 0 rfl dX9_saw_155 rfl ?_
                refine g_if_ne h hF dX9_saw_157 (np := 160) rfl (tg := 171) rfl (fun c1011 hF => ?_) (fun c1011 hF => ?_)
                · refine g_iload (np := 173) h 5 rfl dX9_saw_171 rfl ?_
                  refine g_istore (np := 175) (lv' := [(4, .int x4), (7, .int t1010), (0, .ref q0), (1, .int x1), (2, .int x2), (3, .int x3), (5, .int x5), (6, .int x6)]) h (by decide) rfl dX9_saw_173 rfl ?_
                  refine g_iinc (np := 178) (v := (x6 + (-1 : Int32))) (lv' := [(6, .int (x6 + (-1 : Int32))), (4, .int x4), (7, .int t1010), (0, .ref q0), (1, .int x1), (2, .int x2), (3, .int x3), (5, .int x5)]) h 7 rfl (congrArg (fun w => x6 + w) (show Int32.ofInt (-1) = (-1 : Int32) by decide)) (by decide) rfl dX9_saw_175 rfl ?_
                  refine g_goto h dX9_saw_178 (np := 88) rfl ?_
                  refine g_lv [3, 4, 5, 6, 1, 7, 0] rfl ?_
                  exact ih88 x3 x4 x5 (x6 + (-1 : Int32)) hF
                · refine g_bipush (np := 162) (v := (100 : Int32)) h (by decide) dX9_saw_160 rfl ?_
                  refine g_iload (np := 164) h 6 rfl dX9_saw_162 rfl ?_
                  refine g_imul (np := 165) h dX9_saw_164 rfl ?_
                  refine g_iload (np := 167) h 7 rfl dX9_saw_165 rfl ?_
                  refine g_iadd (np := 168) h dX9_saw_167 rfl ?_
                  refine g_goto h dX9_saw_168 (np := 173) rfl ?_
                  refine g_istore (np := 175) (lv' := [(4, .int (((100 : Int32) * x5) + x6)), (7, .int t1010), (0, .ref q0), (1, .int x1), (2, .int x2), (3, .int x3), (5, .int x5), (6, .int x6)]) h (by decide) rfl dX9_saw_173 rfl ?_
                  refine g_iinc (np := 178) (v := (x6 + (-1 : Int32))) (lv' := [(6, .int (x6 + (-1 : Int32))), (4, .int (((100 : Int32) * x5) + x6)), (7, .int t1010), (0, .ref q0), (1, .int x1), (2, .int x2), (3, .int x3), (5, .int x5)]) h 7 rfl (congrArg (fun w => x6 + w) (show Int32.ofInt (-1) = (-1 : Int32) by decide)) (by decide) rfl dX9_saw_175 rfl ?_
                  refine g_goto h dX9_saw_178 (np := 88) rfl ?_
                  refine g_lv [3, 4, 5, 6, 1, 7, 0] rfl ?_
                  exact ih88 x3 (((100 : Int32) * x5) + x6) x5 (x6 + (-1 : Int32)) hF
      intro x3 x4 x5 hF
      rw [fX9_saw_80] at hF
      refine g_iload (np := 82) h 5 rfl dX9_saw_80 rfl ?_
      refine g_if_lt h hF dX9_saw_82 (np := 85) rfl (tg := 187) rfl (fun c2001 hF => ?_) (fun c2001 hF => ?_)
      · refine g_iload_n (np := 188) h 2 rfl rfl dX9_saw_187 rfl ?_
        refine g_iconst (np := 189) (v := (1 : Int32)) h (by decide) dX9_saw_188 rfl ?_
        refine g_icmp_ne h hF dX9_saw_189 (np := 192) rfl (tg := 197) rfl (fun c2002 hF => ?_) (fun c2002 hF => ?_)
        · refine g_iload (np := 199) h 4 rfl dX9_saw_197 rfl ?_
          refine g_if_ge h hF dX9_saw_199 (np := 202) rfl (tg := 206) rfl (fun c2003 hF => ?_) (fun c2003 hF => ?_)
          · refine g_iconst (np := 207) (v := (1 : Int32)) h (by decide) dX9_saw_206 rfl ?_
            exact hend _ hF _ _ dX9_saw_207
          · refine g_iconst (np := 203) (v := (0 : Int32)) h (by decide) dX9_saw_202 rfl ?_
            refine g_goto h dX9_saw_203 (np := 207) rfl ?_
            exact hend _ hF _ _ dX9_saw_207
        · refine g_iload (np := 194) h 4 rfl dX9_saw_192 rfl ?_
          refine g_goto h dX9_saw_194 (np := 207) rfl ?_
          exact hend _ hF _ _ dX9_saw_207
      · refine g_iload_n (np := 86) h 1 rfl rfl dX9_saw_85 rfl ?_
        refine g_istore (np := 88) (lv' := [(6, .int x1), (0, .ref q0), (1, .int x1), (2, .int x2), (3, .int x3), (4, .int x4), (5, .int x5)]) h (by decide) rfl dX9_saw_86 rfl ?_
        refine g_lv [1, 2, 3, 4, 5, 6, 0] rfl ?_
        exact hL88 _ x3 x4 x5 x1 hF
  have hL27 : ∀ (n27 : Nat) (x3 : Int32) (x4 : Int32), fX9_saw_27 v_book v_of x1 x2 n27 x3 x4 = some z → G l D E 8 0 0 (wdX9_saw cI cZ q0 q1 q2 d3 d4 d5 d6 d7 d8 d9 d10 v_book v_of v_sights v_signs v_weddings v_reason v_acts) 27 [(0, .ref q0), (1, .int x1), (2, .int x2), (3, .int x3), (4, .int x4)] [] := by
    intro n27
    induction n27 with
    | zero =>
      intro x3 x4 hF
      rw [fX9_saw_27] at hF
      cases hF
    | succ n27 ih27 =>
      intro x3 x4 hF
      rw [fX9_saw_27] at hF
      refine g_iload (np := 29) h 4 rfl dX9_saw_27 rfl ?_
      refine g_bipush (np := 31) (v := (10 : Int32)) h (by decide) dX9_saw_29 rfl ?_
      refine g_icmp_ge h hF dX9_saw_31 (np := 34) rfl (tg := 72) rfl (fun c3001 hF => ?_) (fun c3001 hF => ?_)
      · refine g_bipush (np := 74) (v := (-6 : Int32)) h (by decide) dX9_saw_72 rfl ?_
        refine g_istore (np := 76) (lv' := [(4, .int (-6 : Int32)), (0, .ref q0), (1, .int x1), (2, .int x2), (3, .int x3)]) h (by decide) rfl dX9_saw_74 rfl ?_
        refine g_bipush (np := 78) (v := (9 : Int32)) h (by decide) dX9_saw_76 rfl ?_
        refine g_istore (np := 80) (lv' := [(5, .int (9 : Int32)), (4, .int (-6 : Int32)), (0, .ref q0), (1, .int x1), (2, .int x2), (3, .int x3)]) h (by decide) rfl dX9_saw_78 rfl ?_
        refine g_lv [2, 3, 4, 5, 1, 0] rfl ?_
        exact hL80 _ x3 (-6 : Int32) (9 : Int32) hF
      · refine g_iload_n (np := 35) h 3 rfl rfl dX9_saw_34 rfl ?_
        refine g_aload_n (np := 36) h 0 rfl rfl dX9_saw_35 rfl ?_
        refine g_get (np := 39) (T := TX9) h imX9_saw_u_X9 0 9 rfl rfl 0 (by decide) (imX9_saw_own _ (List.mem_of_getElem? (i := 0) rfl)) rfl dX9_saw_36 rfl ?_
        refine g_iload (np := 41) h 4 rfl dX9_saw_39 rfl ?_
        refine g_iald (np := 42) h 1 rfl hF dX9_saw_41 rfl (fun hi3002 hF => ?_)
        refine g_iconst (np := 43) (v := (1 : Int32)) h (by decide) dX9_saw_42 rfl ?_
        refine g_icmp_ne h hF dX9_saw_43 (np := 46) rfl (tg := 63) rfl (fun c3003 hF => ?_) (fun c3003 hF => ?_)
        · refine g_iconst (np := 64) (v := (0 : Int32)) h (by decide) dX9_saw_63 rfl ?_
          refine g_ixor (np := 65) h dX9_saw_64 rfl ?_
          refine g_istore_n (np := 66) (lv' := [(3, .int (x3 ^^^ (0 : Int32))), (0, .ref q0), (1, .int x1), (2, .int x2), (4, .int x4)]) h rfl (by decide) rfl dX9_saw_65 rfl ?_
          refine g_iinc (np := 69) (v := (x4 + (1 : Int32))) (lv' := [(4, .int (x4 + (1 : Int32))), (3, .int (x3 ^^^ (0 : Int32))), (0, .ref q0), (1, .int x1), (2, .int x2)]) h 4 rfl rfl (by decide) rfl dX9_saw_66 rfl ?_
          refine g_goto h dX9_saw_69 (np := 27) rfl ?_
          refine g_lv [2, 3, 4, 1, 0] rfl ?_
          exact ih27 (x3 ^^^ (0 : Int32)) (x4 + (1 : Int32)) hF
        · refine g_aload_n (np := 47) h 0 rfl rfl dX9_saw_46 rfl ?_
          refine g_get (np := 50) (T := TX9) h imX9_saw_u_X9 0 9 rfl rfl 2 (by decide) (imX9_saw_own _ (List.mem_of_getElem? (i := 1) rfl)) rfl dX9_saw_47 rfl ?_
          refine g_bipush (np := 52) (v := (20 : Int32)) h (by decide) dX9_saw_50 rfl ?_
          refine g_iload (np := 54) h 4 rfl dX9_saw_52 rfl ?_
          refine g_iadd (np := 55) h dX9_saw_54 rfl ?_
          refine g_iald (np := 56) h 2 rfl hF dX9_saw_55 rfl (fun hi3004 hF => ?_)
          refine g_iload_n (np := 57) h 1 rfl rfl dX9_saw_56 rfl ?_
          refine g_iconst (np := 58) (v := (1 : Int32)) h (by decide) dX9_saw_57 rfl ?_
          refine g_iadd (np := 59) h dX9_saw_58 rfl ?_
          obtain ⟨hz3005, hF⟩ := nzi_e hF
          refine g_irem (np := 60) h hz3005 dX9_saw_59 rfl ?_
          refine g_goto h dX9_saw_60 (np := 64) rfl ?_
          refine g_ixor (np := 65) h dX9_saw_64 rfl ?_
          refine g_istore_n (np := 66) (lv' := [(3, .int (x3 ^^^ (jrem (rd v_of ((20 : Int32) + x4)) (x1 + (1 : Int32))))), (0, .ref q0), (1, .int x1), (2, .int x2), (4, .int x4)]) h rfl (by decide) rfl dX9_saw_65 rfl ?_
          refine g_iinc (np := 69) (v := (x4 + (1 : Int32))) (lv' := [(4, .int (x4 + (1 : Int32))), (3, .int (x3 ^^^ (jrem (rd v_of ((20 : Int32) + x4)) (x1 + (1 : Int32))))), (0, .ref q0), (1, .int x1), (2, .int x2)]) h 4 rfl rfl (by decide) rfl dX9_saw_66 rfl ?_
          refine g_goto h dX9_saw_69 (np := 27) rfl ?_
          refine g_lv [2, 3, 4, 1, 0] rfl ?_
          exact ih27 (x3 ^^^ (jrem (rd v_of ((20 : Int32) + x4)) (x1 + (1 : Int32)))) (x4 + (1 : Int32)) hF
  unfold fX9_saw at hF
  refine g_iload_n (np := 1) h 1 rfl rfl dX9_saw_0 rfl ?_
  refine g_iconst (np := 2) (v := (1 : Int32)) h (by decide) dX9_saw_1 rfl ?_
  refine g_bipush (np := 4) (v := (9 : Int32)) h (by decide) dX9_saw_2 rfl ?_
  obtain ⟨r1, hr1, hF⟩ := Option.bind_eq_some_iff.mp hF
  refine g_callS (np := 7) (Wd' := (wdX9_saw cI cZ q0 q1 q2 d3 d4 d5 d6 d7 d8 d9 d10 v_book v_of v_sights v_signs v_weddings v_reason v_acts)) (As := [.int x1, .int (1 : Int32), .int (9 : Int32)]) h (mX9_in l D cI cZ x1 (1 : Int32) (9 : Int32) r1 hr1) gcX9_saw_X9_in rfl ⟨rfl, rfl⟩ hyX9_in rfl rfl rfl rfl ⟨Nat.zero_le _, Nat.zero_le _⟩ [] [0, 1, 2] (N := 3) (by decide +kernel) rfl rfl rfl rfl rfl dX9_saw_4 rfl ?_
  refine g_if_eq h hF dX9_saw_7 (np := 10) rfl (tg := 19) rfl (fun c2 hF => ?_) (fun c2 hF => ?_)
  · refine g_bipush (np := 21) (v := (-2 : Int32)) h (by decide) dX9_saw_19 rfl ?_
    exact hend _ hF _ _ dX9_saw_21
  · refine g_iload_n (np := 11) h 2 rfl rfl dX9_saw_10 rfl ?_
    refine g_iconst (np := 12) (v := (0 : Int32)) h (by decide) dX9_saw_11 rfl ?_
    refine g_iconst (np := 13) (v := (1 : Int32)) h (by decide) dX9_saw_12 rfl ?_
    obtain ⟨r3, hr3, hF⟩ := Option.bind_eq_some_iff.mp hF
    refine g_callS (np := 16) (Wd' := (wdX9_saw cI cZ q0 q1 q2 d3 d4 d5 d6 d7 d8 d9 d10 v_book v_of v_sights v_signs v_weddings v_reason v_acts)) (As := [.int x2, .int (0 : Int32), .int (1 : Int32)]) h (mX9_in l D cI cZ x2 (0 : Int32) (1 : Int32) r3 hr3) gcX9_saw_X9_in rfl ⟨rfl, rfl⟩ hyX9_in rfl rfl rfl rfl ⟨Nat.zero_le _, Nat.zero_le _⟩ [] [0, 1, 2] (N := 3) (by decide +kernel) rfl rfl rfl rfl rfl dX9_saw_13 rfl ?_
    refine g_if_ne h hF dX9_saw_16 (np := 19) rfl (tg := 22) rfl (fun c4 hF => ?_) (fun c4 hF => ?_)
    · refine g_iconst (np := 23) (v := (0 : Int32)) h (by decide) dX9_saw_22 rfl ?_
      refine g_istore_n (np := 24) (lv' := [(3, .int (0 : Int32)), (0, .ref q0), (1, .int x1), (2, .int x2)]) h rfl (by decide) rfl dX9_saw_23 rfl ?_
      refine g_iconst (np := 25) (v := (0 : Int32)) h (by decide) dX9_saw_24 rfl ?_
      refine g_istore (np := 27) (lv' := [(4, .int (0 : Int32)), (3, .int (0 : Int32)), (0, .ref q0), (1, .int x1), (2, .int x2)]) h (by decide) rfl dX9_saw_25 rfl ?_
      refine g_lv [2, 3, 4, 1, 0] rfl ?_
      exact hL27 _ (0 : Int32) (0 : Int32) hF
    · refine g_bipush (np := 21) (v := (-2 : Int32)) h (by decide) dX9_saw_19 rfl ?_
      exact hend _ hF _ _ dX9_saw_21
theorem dX9_power_0 : decode cX9_power 0 = .ok (.lconst 1, 1) := by decide +kernel
theorem dX9_power_1 : decode cX9_power 1 = .ok (.lstore_n 3, 1) := by decide +kernel
theorem dX9_power_2 : decode cX9_power 2 = .ok (.iconst 0, 1) := by decide +kernel
theorem dX9_power_3 : decode cX9_power 3 = .ok (.istore 5, 2) := by decide +kernel
theorem dX9_power_5 : decode cX9_power 5 = .ok (.iload 5, 2) := by decide +kernel
theorem dX9_power_7 : decode cX9_power 7 = .ok (.iload_n 2, 1) := by decide +kernel
theorem dX9_power_8 : decode cX9_power 8 = .ok (.if_icmp .ge 13, 3) := by decide +kernel
theorem dX9_power_11 : decode cX9_power 11 = .ok (.lload_n 3, 1) := by decide +kernel
theorem dX9_power_12 : decode cX9_power 12 = .ok (.lload_n 0, 1) := by decide +kernel
theorem dX9_power_13 : decode cX9_power 13 = .ok (.lmul, 1) := by decide +kernel
theorem dX9_power_14 : decode cX9_power 14 = .ok (.lstore_n 3, 1) := by decide +kernel
theorem dX9_power_15 : decode cX9_power 15 = .ok (.iinc 5 1, 3) := by decide +kernel
theorem dX9_power_18 : decode cX9_power 18 = .ok (.goto (-13), 3) := by decide +kernel
theorem dX9_power_21 : decode cX9_power 21 = .ok (.lload_n 3, 1) := by decide +kernel
theorem dX9_power_22 : decode cX9_power 22 = .ok (.lreturn, 1) := by decide +kernel
def wtX9_power : List Cond := .code yX9_power cX9_power 6 (some .long) :: (([]) ++ [])
theorem imX9_power_own : ∀ w ∈ ([] : List Cond), w ∈ wtX9_power := fun w h => List.mem_cons_of_mem _ (inl h)
theorem gdX9_power : ∀ w ∈ wtX9_power, Gd w := gdc rfl (gda (gdl (by decide +kernel)) gdn)
def fX9_power_5 (x0 : Int64) (x2 : Int32) : Nat → Int64 → Int32 → Option (Int64)
  | 0, _, _ => none
  | n + 1, x3, x5 =>
    if x2 ≤ x5 then
      some x3
    else
      fX9_power_5 x0 x2 n (x3 * x0) (x5 + (1 : Int32))
def fX9_power (x0 : Int64) (x2 : Int32) : Option (Int64) :=
  fX9_power_5 x0 x2 2000 (1 : Int64) (0 : Int32)
def wdX9_power (cI cZ : ClassId)    : va_W := []
abbrev rmX9_power : Jvm.Room := { frames := 0, cells := 0, slots := 0, locals := 0 }
theorem hyX9_power : yX9_power.cls ≠ "java/lang/invoke/MethodHandle" ∧ yX9_power.cls ≠ "java/lang/invoke/VarHandle" ∧ (parseMethodDescriptor yX9_power.desc).map (fun d => d.parameters.length) = some 2 := by decide +kernel
set_option maxHeartbeats 4000000 in
set_option maxRecDepth 100000 in
theorem mX9_power (l : Launch) (D : va_G) (cI cZ : ClassId) (x0 : Int64) (x2 : Int32) (z : Int64) (hF : fX9_power x0 x2 = some z) : mp l yX9_power wtX9_power rmX9_power D cI cZ [.long x0, .int x2] (wdX9_power cI cZ ) (some (.long z)) (wdX9_power cI cZ ) := by
  refine mp_l (lv0 := [(0, .long x0), (2, .int x2)]) cX9_power 6 z (by decide) rfl (Nat.le_of_ble_eq_true rfl) rfl (fun E h hend0 => ?_)
  have hend : ∀ (z' : Int64), some z' = some z → ∀ (pc : Nat) (lv : List (Nat × Value)), decode cX9_power pc = .ok (.lreturn, 1) → G l D E 6 0 0 (wdX9_power cI cZ ) pc lv [.long z'] := fun z' e => by cases e; exact hend0
  clear hend0
  have hL5 : ∀ (n5 : Nat) (x3 : Int64) (x5 : Int32), fX9_power_5 x0 x2 n5 x3 x5 = some z → G l D E 6 0 0 (wdX9_power cI cZ ) 5 [(0, .long x0), (2, .int x2), (3, .long x3), (5, .int x5)] [] := by
    intro n5
    induction n5 with
    | zero =>
      intro x3 x5 hF
      rw [fX9_power_5] at hF
      cases hF
    | succ n5 ih5 =>
      intro x3 x5 hF
      rw [fX9_power_5] at hF
      refine g_iload (np := 7) h 3 rfl dX9_power_5 rfl ?_
      refine g_iload_n (np := 8) h 1 rfl rfl dX9_power_7 rfl ?_
      refine g_icmp_ge h hF dX9_power_8 (np := 11) rfl (tg := 21) rfl (fun c1001 hF => ?_) (fun c1001 hF => ?_)
      · refine g_lload_n (np := 22) h 2 rfl rfl dX9_power_21 rfl ?_
        exact hend _ hF _ _ dX9_power_22
      · refine g_lload_n (np := 12) h 2 rfl rfl dX9_power_11 rfl ?_
        refine g_lload_n (np := 13) h 0 rfl rfl dX9_power_12 rfl ?_
        refine g_lmul (np := 14) h dX9_power_13 rfl ?_
        refine g_lstore_n (np := 15) (lv' := [(3, .long (x3 * x0)), (0, .long x0), (2, .int x2), (5, .int x5)]) h rfl (by decide) rfl dX9_power_14 rfl ?_
        refine g_iinc (np := 18) (v := (x5 + (1 : Int32))) (lv' := [(5, .int (x5 + (1 : Int32))), (3, .long (x3 * x0)), (0, .long x0), (2, .int x2)]) h 3 rfl rfl (by decide) rfl dX9_power_15 rfl ?_
        refine g_goto h dX9_power_18 (np := 5) rfl ?_
        refine g_lv [2, 3, 1, 0] rfl ?_
        exact ih5 (x3 * x0) (x5 + (1 : Int32)) hF
  unfold fX9_power at hF
  refine g_lconst (np := 1) (v := (1 : Int64)) h (by decide) dX9_power_0 rfl ?_
  refine g_lstore_n (np := 2) (lv' := [(3, .long (1 : Int64)), (0, .long x0), (2, .int x2)]) h rfl (by decide) rfl dX9_power_1 rfl ?_
  refine g_iconst (np := 3) (v := (0 : Int32)) h (by decide) dX9_power_2 rfl ?_
  refine g_istore (np := 5) (lv' := [(5, .int (0 : Int32)), (3, .long (1 : Int64)), (0, .long x0), (2, .int x2)]) h (by decide) rfl dX9_power_3 rfl ?_
  refine g_lv [2, 3, 1, 0] rfl ?_
  exact hL5 _ (1 : Int64) (0 : Int32) hF
theorem dX9_soon_0 : decode cX9_soon 0 = .ok (.iload_n 1, 1) := by decide +kernel
theorem dX9_soon_1 : decode cX9_soon 1 = .ok (.iconst 0, 1) := by decide +kernel
theorem dX9_soon_2 : decode cX9_soon 2 = .ok (.bipush 10, 2) := by decide +kernel
theorem dX9_soon_4 : decode cX9_soon 4 = .ok (.invokestatic 41, 3) := by decide +kernel
theorem dX9_soon_7 : decode cX9_soon 7 = .ok (.ifCond .eq 41, 3) := by decide +kernel
theorem dX9_soon_10 : decode cX9_soon 10 = .ok (.iload_n 3, 1) := by decide +kernel
theorem dX9_soon_11 : decode cX9_soon 11 = .ok (.iconst 0, 1) := by decide +kernel
theorem dX9_soon_12 : decode cX9_soon 12 = .ok (.iconst 2, 1) := by decide +kernel
theorem dX9_soon_13 : decode cX9_soon 13 = .ok (.invokestatic 41, 3) := by decide +kernel
theorem dX9_soon_16 : decode cX9_soon 16 = .ok (.ifCond .eq 32, 3) := by decide +kernel
theorem dX9_soon_19 : decode cX9_soon 19 = .ok (.iload_n 2, 1) := by decide +kernel
theorem dX9_soon_20 : decode cX9_soon 20 = .ok (.iconst 0, 1) := by decide +kernel
theorem dX9_soon_21 : decode cX9_soon 21 = .ok (.iload_n 3, 1) := by decide +kernel
theorem dX9_soon_22 : decode cX9_soon 22 = .ok (.ifCond .ne 8, 3) := by decide +kernel
theorem dX9_soon_25 : decode cX9_soon 25 = .ok (.bipush 15, 2) := by decide +kernel
theorem dX9_soon_27 : decode cX9_soon 27 = .ok (.goto 5, 3) := by decide +kernel
theorem dX9_soon_30 : decode cX9_soon 30 = .ok (.bipush 8, 2) := by decide +kernel
theorem dX9_soon_32 : decode cX9_soon 32 = .ok (.invokestatic 41, 3) := by decide +kernel
theorem dX9_soon_35 : decode cX9_soon 35 = .ok (.ifCond .eq 13, 3) := by decide +kernel
theorem dX9_soon_38 : decode cX9_soon 38 = .ok (.iload 4, 2) := by decide +kernel
theorem dX9_soon_40 : decode cX9_soon 40 = .ok (.iconst 0, 1) := by decide +kernel
theorem dX9_soon_41 : decode cX9_soon 41 = .ok (.iconst 1, 1) := by decide +kernel
theorem dX9_soon_42 : decode cX9_soon 42 = .ok (.invokestatic 41, 3) := by decide +kernel
theorem dX9_soon_45 : decode cX9_soon 45 = .ok (.ifCond .ne 7, 3) := by decide +kernel
theorem dX9_soon_48 : decode cX9_soon 48 = .ok (.ldc2_w 141, 3) := by decide +kernel
theorem dX9_soon_51 : decode cX9_soon 51 = .ok (.lreturn, 1) := by decide +kernel
theorem dX9_soon_52 : decode cX9_soon 52 = .ok (.ldc2_w 143, 3) := by decide +kernel
theorem dX9_soon_55 : decode cX9_soon 55 = .ok (.iload_n 2, 1) := by decide +kernel
theorem dX9_soon_56 : decode cX9_soon 56 = .ok (.invokestatic 145, 3) := by decide +kernel
theorem dX9_soon_59 : decode cX9_soon 59 = .ok (.lstore 5, 2) := by decide +kernel
theorem dX9_soon_61 : decode cX9_soon 61 = .ok (.ldc2_w 143, 3) := by decide +kernel
theorem dX9_soon_64 : decode cX9_soon 64 = .ok (.iload_n 1, 1) := by decide +kernel
theorem dX9_soon_65 : decode cX9_soon 65 = .ok (.i2l, 1) := by decide +kernel
theorem dX9_soon_66 : decode cX9_soon 66 = .ok (.lsub, 1) := by decide +kernel
theorem dX9_soon_67 : decode cX9_soon 67 = .ok (.iload_n 2, 1) := by decide +kernel
theorem dX9_soon_68 : decode cX9_soon 68 = .ok (.invokestatic 145, 3) := by decide +kernel
theorem dX9_soon_71 : decode cX9_soon 71 = .ok (.lstore 7, 2) := by decide +kernel
theorem dX9_soon_73 : decode cX9_soon 73 = .ok (.lload 5, 2) := by decide +kernel
theorem dX9_soon_75 : decode cX9_soon 75 = .ok (.lload 7, 2) := by decide +kernel
theorem dX9_soon_77 : decode cX9_soon 77 = .ok (.lsub, 1) := by decide +kernel
theorem dX9_soon_78 : decode cX9_soon 78 = .ok (.lstore 9, 2) := by decide +kernel
theorem dX9_soon_80 : decode cX9_soon 80 = .ok (.iload_n 3, 1) := by decide +kernel
theorem dX9_soon_81 : decode cX9_soon 81 = .ok (.ifCond .le 36, 3) := by decide +kernel
theorem dX9_soon_84 : decode cX9_soon 84 = .ok (.iload_n 3, 1) := by decide +kernel
theorem dX9_soon_85 : decode cX9_soon 85 = .ok (.iconst 1, 1) := by decide +kernel
theorem dX9_soon_86 : decode cX9_soon 86 = .ok (.if_icmp .ne 17, 3) := by decide +kernel
theorem dX9_soon_89 : decode cX9_soon 89 = .ok (.lload 5, 2) := by decide +kernel
theorem dX9_soon_91 : decode cX9_soon 91 = .ok (.lload 5, 2) := by decide +kernel
theorem dX9_soon_93 : decode cX9_soon 93 = .ok (.lmul, 1) := by decide +kernel
theorem dX9_soon_94 : decode cX9_soon 94 = .ok (.lload 7, 2) := by decide +kernel
theorem dX9_soon_96 : decode cX9_soon 96 = .ok (.lload 7, 2) := by decide +kernel
theorem dX9_soon_98 : decode cX9_soon 98 = .ok (.lmul, 1) := by decide +kernel
theorem dX9_soon_99 : decode cX9_soon 99 = .ok (.lsub, 1) := by decide +kernel
theorem dX9_soon_100 : decode cX9_soon 100 = .ok (.goto 8, 3) := by decide +kernel
theorem dX9_soon_103 : decode cX9_soon 103 = .ok (.lload 9, 2) := by decide +kernel
theorem dX9_soon_105 : decode cX9_soon 105 = .ok (.lload 9, 2) := by decide +kernel
theorem dX9_soon_107 : decode cX9_soon 107 = .ok (.lmul, 1) := by decide +kernel
theorem dX9_soon_108 : decode cX9_soon 108 = .ok (.lstore 9, 2) := by decide +kernel
theorem dX9_soon_110 : decode cX9_soon 110 = .ok (.lload 5, 2) := by decide +kernel
theorem dX9_soon_112 : decode cX9_soon 112 = .ok (.lload 5, 2) := by decide +kernel
theorem dX9_soon_114 : decode cX9_soon 114 = .ok (.lmul, 1) := by decide +kernel
theorem dX9_soon_115 : decode cX9_soon 115 = .ok (.lstore 5, 2) := by decide +kernel
theorem dX9_soon_117 : decode cX9_soon 117 = .ok (.lload 9, 2) := by decide +kernel
theorem dX9_soon_119 : decode cX9_soon 119 = .ok (.lstore 11, 2) := by decide +kernel
theorem dX9_soon_121 : decode cX9_soon 121 = .ok (.lload 5, 2) := by decide +kernel
theorem dX9_soon_123 : decode cX9_soon 123 = .ok (.lstore 13, 2) := by decide +kernel
theorem dX9_soon_125 : decode cX9_soon 125 = .ok (.lload 13, 2) := by decide +kernel
theorem dX9_soon_127 : decode cX9_soon 127 = .ok (.lconst 0, 1) := by decide +kernel
theorem dX9_soon_128 : decode cX9_soon 128 = .ok (.lcmp, 1) := by decide +kernel
theorem dX9_soon_129 : decode cX9_soon 129 = .ok (.ifCond .eq 21, 3) := by decide +kernel
theorem dX9_soon_132 : decode cX9_soon 132 = .ok (.lload 11, 2) := by decide +kernel
theorem dX9_soon_134 : decode cX9_soon 134 = .ok (.lload 13, 2) := by decide +kernel
theorem dX9_soon_136 : decode cX9_soon 136 = .ok (.lrem, 1) := by decide +kernel
theorem dX9_soon_137 : decode cX9_soon 137 = .ok (.lstore 15, 2) := by decide +kernel
theorem dX9_soon_139 : decode cX9_soon 139 = .ok (.lload 13, 2) := by decide +kernel
theorem dX9_soon_141 : decode cX9_soon 141 = .ok (.lstore 11, 2) := by decide +kernel
theorem dX9_soon_143 : decode cX9_soon 143 = .ok (.lload 15, 2) := by decide +kernel
theorem dX9_soon_145 : decode cX9_soon 145 = .ok (.lstore 13, 2) := by decide +kernel
theorem dX9_soon_147 : decode cX9_soon 147 = .ok (.goto (-22), 3) := by decide +kernel
theorem dX9_soon_150 : decode cX9_soon 150 = .ok (.iload 4, 2) := by decide +kernel
theorem dX9_soon_152 : decode cX9_soon 152 = .ok (.ifCond .ne 11, 3) := by decide +kernel
theorem dX9_soon_155 : decode cX9_soon 155 = .ok (.lload 9, 2) := by decide +kernel
theorem dX9_soon_157 : decode cX9_soon 157 = .ok (.lload 11, 2) := by decide +kernel
theorem dX9_soon_159 : decode cX9_soon 159 = .ok (.ldiv, 1) := by decide +kernel
theorem dX9_soon_160 : decode cX9_soon 160 = .ok (.goto 8, 3) := by decide +kernel
theorem dX9_soon_163 : decode cX9_soon 163 = .ok (.lload 5, 2) := by decide +kernel
theorem dX9_soon_165 : decode cX9_soon 165 = .ok (.lload 11, 2) := by decide +kernel
theorem dX9_soon_167 : decode cX9_soon 167 = .ok (.ldiv, 1) := by decide +kernel
theorem dX9_soon_168 : decode cX9_soon 168 = .ok (.lreturn, 1) := by decide +kernel
def wtX9_soon : List Cond := .code yX9_soon cX9_soon 17 (some .long) :: (([.constantLong RX9 141 (-1000000000000000002), .constantLong RX9 143 (10)]) ++ ((va_wsS RX9 41 yX9_in wtX9_in) ++ ((va_wsS RX9 145 yX9_power wtX9_power) ++ [])))
theorem imX9_soon_own : ∀ w ∈ ([.constantLong RX9 141 (-1000000000000000002), .constantLong RX9 143 (10)] : List Cond), w ∈ wtX9_soon := fun w h => List.mem_cons_of_mem _ (inl h)
theorem imX9_soon_c_X9_in : ∀ w ∈ (va_wsS RX9 41 yX9_in wtX9_in : List Cond), w ∈ wtX9_soon := fun w h => List.mem_cons_of_mem _ (inr (inl h))
theorem imX9_soon_c_X9_power : ∀ w ∈ (va_wsS RX9 145 yX9_power wtX9_power : List Cond), w ∈ wtX9_soon := fun w h => List.mem_cons_of_mem _ (inr (inr (inl h)))
theorem gdX9_soon : ∀ w ∈ wtX9_soon, Gd w := gdc rfl (gda (gdl (by decide +kernel)) (gda (gda (gdl (by decide +kernel)) gdX9_in) (gda (gda (gdl (by decide +kernel)) gdX9_power) gdn)))
theorem gcX9_soon_X9_in : GoodIn wtX9_soon (va_wsS RX9 41 yX9_in wtX9_in) := fun w h => ⟨imX9_soon_c_X9_in w h, (gda (gdl (by decide +kernel)) gdX9_in) w h⟩
theorem gcX9_soon_X9_power : GoodIn wtX9_soon (va_wsS RX9 145 yX9_power wtX9_power) := fun w h => ⟨imX9_soon_c_X9_power w h, (gda (gdl (by decide +kernel)) gdX9_power) w h⟩
def fX9_soon_125 (x4 : Int32) (x5 : Int64) (x9 : Int64) : Nat → Int64 → Int64 → Option (Int64)
  | 0, _, _ => none
  | n + 1, x11, x13 =>
    if (lg_cmp x13 (0 : Int64)) = (0 : Int32) then
      if x4 = (0 : Int32) then
        nzl x11 (
          some (x9 / x11))
      else
        nzl x11 (
          some (x5 / x11))
    else
      nzl x13 (
        fX9_soon_125 x4 x5 x9 n x13 (jlrem x11 x13))
def fX9_soon_108 (x4 : Int32) (x5 : Int64) (s0 : Int64) : Option (Int64) :=
  fX9_soon_125 x4 (x5 * x5) s0 2000 s0 (x5 * x5)
def fX9_soon_32 (x1 : Int32) (x2 : Int32) (x3 : Int32) (x4 : Int32) (s0 : Int32) (s1 : Int32) (s2 : Int32) : Option (Int64) :=
  (fX9_in s2 s1 s0).bind (fun r3001 =>
    if r3001 = (0 : Int32) then
      some (-1000000000000000002 : Int64)
    else
      (fX9_in x4 (0 : Int32) (1 : Int32)).bind (fun r3003 =>
        if r3003 = (0 : Int32) then
          some (-1000000000000000002 : Int64)
        else
          (fX9_power (10 : Int64) x2).bind (fun r3005 =>
            (fX9_power ((10 : Int64) - (Int32.toInt64 x1)) x2).bind (fun r3006 =>
              if x3 ≤ (0 : Int32) then
                fX9_soon_125 x4 r3005 (r3005 - r3006) 2000 (r3005 - r3006) r3005
              else
                if x3 = (1 : Int32) then
                  fX9_soon_108 x4 r3005 ((r3005 * r3005) - (r3006 * r3006))
                else
                  fX9_soon_108 x4 r3005 ((r3005 - r3006) * (r3005 - r3006))))))
def fX9_soon (x1 : Int32) (x2 : Int32) (x3 : Int32) (x4 : Int32) : Option (Int64) :=
  (fX9_in x1 (0 : Int32) (10 : Int32)).bind (fun r1 =>
    if r1 = (0 : Int32) then
      some (-1000000000000000002 : Int64)
    else
      (fX9_in x3 (0 : Int32) (2 : Int32)).bind (fun r3 =>
        if r3 = (0 : Int32) then
          some (-1000000000000000002 : Int64)
        else
          if x3 = (0 : Int32) then
            fX9_soon_32 x1 x2 x3 x4 (15 : Int32) (0 : Int32) x2
          else
            fX9_soon_32 x1 x2 x3 x4 (8 : Int32) (0 : Int32) x2))
def wdX9_soon (cI cZ : ClassId) (d0 : Nat)   : va_W := []
abbrev rmX9_soon : Jvm.Room := { frames := 1, cells := 0, slots := 0, locals := 25 }
theorem hyX9_soon : yX9_soon.cls ≠ "java/lang/invoke/MethodHandle" ∧ yX9_soon.cls ≠ "java/lang/invoke/VarHandle" ∧ (parseMethodDescriptor yX9_soon.desc).map (fun d => d.parameters.length) = some 4 := by decide +kernel
set_option maxHeartbeats 4000000 in
set_option maxRecDepth 100000 in
theorem mX9_soon (l : Launch) (D : va_G) (cI cZ : ClassId) (d0 : Nat) (x1 : Int32) (x2 : Int32) (x3 : Int32) (x4 : Int32) (z : Int64) (hF : fX9_soon x1 x2 x3 x4 = some z) : mp l yX9_soon wtX9_soon rmX9_soon D cI cZ [.ref d0, .int x1, .int x2, .int x3, .int x4] (wdX9_soon cI cZ d0) (some (.long z)) (wdX9_soon cI cZ d0) := by
  refine mp_l (lv0 := [(0, .ref d0), (1, .int x1), (2, .int x2), (3, .int x3), (4, .int x4)]) cX9_soon 17 z (by decide) rfl (Nat.le_of_ble_eq_true rfl) rfl (fun E h hend0 => ?_)
  have hend : ∀ (z' : Int64), some z' = some z → ∀ (pc : Nat) (lv : List (Nat × Value)), decode cX9_soon pc = .ok (.lreturn, 1) → G l D E 17 0 0 (wdX9_soon cI cZ d0) pc lv [.long z'] := fun z' e => by cases e; exact hend0
  clear hend0
  have hL125 : ∀ (n125 : Nat) (x5 : Int64) (x9 : Int64) (x11 : Int64) (x13 : Int64), fX9_soon_125 x4 x5 x9 n125 x11 x13 = some z → G l D E 17 0 0 (wdX9_soon cI cZ d0) 125 [(0, .ref d0), (4, .int x4), (5, .long x5), (9, .long x9), (11, .long x11), (13, .long x13)] [] := by
    intro n125
    induction n125 with
    | zero =>
      intro x5 x9 x11 x13 hF
      rw [fX9_soon_125] at hF
      cases hF
    | succ n125 ih125 =>
      intro x5 x9 x11 x13 hF
      rw [fX9_soon_125] at hF
      refine g_lload (np := 127) h 5 rfl dX9_soon_125 rfl ?_
      refine g_lconst (np := 128) (v := (0 : Int64)) h (by decide) dX9_soon_127 rfl ?_
      refine g_lcmp (np := 129) h dX9_soon_128 rfl ?_
      refine g_if_eq h hF dX9_soon_129 (np := 132) rfl (tg := 150) rfl (fun c1001 hF => ?_) (fun c1001 hF => ?_)
      · refine g_iload (np := 152) h 1 rfl dX9_soon_150 rfl ?_
        refine g_if_ne h hF dX9_soon_152 (np := 155) rfl (tg := 163) rfl (fun c1002 hF => ?_) (fun c1002 hF => ?_)
        · refine g_lload (np := 165) h 2 rfl dX9_soon_163 rfl ?_
          refine g_lload (np := 167) h 4 rfl dX9_soon_165 rfl ?_
          obtain ⟨hz1003, hF⟩ := nzl_e hF
          refine g_ldiv (np := 168) h hz1003 dX9_soon_167 rfl ?_
          exact hend _ hF _ _ dX9_soon_168
        · refine g_lload (np := 157) h 3 rfl dX9_soon_155 rfl ?_
          refine g_lload (np := 159) h 4 rfl dX9_soon_157 rfl ?_
          obtain ⟨hz1004, hF⟩ := nzl_e hF
          refine g_ldiv (np := 160) h hz1004 dX9_soon_159 rfl ?_
          refine g_goto h dX9_soon_160 (np := 168) rfl ?_
          exact hend _ hF _ _ dX9_soon_168
      · refine g_lload (np := 134) h 4 rfl dX9_soon_132 rfl ?_
        refine g_lload (np := 136) h 5 rfl dX9_soon_134 rfl ?_
        obtain ⟨hz1005, hF⟩ := nzl_e hF
        refine g_lrem (np := 137) h hz1005 dX9_soon_136 rfl ?_
        refine g_lstore (np := 139) (lv' := [(15, .long (jlrem x11 x13)), (0, .ref d0), (4, .int x4), (5, .long x5), (9, .long x9), (11, .long x11), (13, .long x13)]) h (by decide) rfl dX9_soon_137 rfl ?_
        refine g_lload (np := 141) h 6 rfl dX9_soon_139 rfl ?_
        refine g_lstore (np := 143) (lv' := [(11, .long x13), (15, .long (jlrem x11 x13)), (0, .ref d0), (4, .int x4), (5, .long x5), (9, .long x9), (13, .long x13)]) h (by decide) rfl dX9_soon_141 rfl ?_
        refine g_lload (np := 145) h 1 rfl dX9_soon_143 rfl ?_
        refine g_lstore (np := 147) (lv' := [(13, .long (jlrem x11 x13)), (11, .long x13), (15, .long (jlrem x11 x13)), (0, .ref d0), (4, .int x4), (5, .long x5), (9, .long x9)]) h (by decide) rfl dX9_soon_145 rfl ?_
        refine g_goto h dX9_soon_147 (np := 125) rfl ?_
        refine g_lv [3, 4, 5, 6, 1, 0] rfl ?_
        exact ih125 x5 x9 x13 (jlrem x11 x13) hF
  have hL108 : ∀ (x5 : Int64) (s0 : Int64), fX9_soon_108 x4 x5 s0 = some z → G l D E 17 0 0 (wdX9_soon cI cZ d0) 108 [(0, .ref d0), (4, .int x4), (5, .long x5)] [.long s0] := by
    intro x5 s0 hF
    rw [fX9_soon_108] at hF
    refine g_lstore (np := 110) (lv' := [(9, .long s0), (0, .ref d0), (4, .int x4), (5, .long x5)]) h (by decide) rfl dX9_soon_108 rfl ?_
    refine g_lload (np := 112) h 3 rfl dX9_soon_110 rfl ?_
    refine g_lload (np := 114) h 3 rfl dX9_soon_112 rfl ?_
    refine g_lmul (np := 115) h dX9_soon_114 rfl ?_
    refine g_lstore (np := 117) (lv' := [(5, .long (x5 * x5)), (9, .long s0), (0, .ref d0), (4, .int x4)]) h (by decide) rfl dX9_soon_115 rfl ?_
    refine g_lload (np := 119) h 1 rfl dX9_soon_117 rfl ?_
    refine g_lstore (np := 121) (lv' := [(11, .long s0), (5, .long (x5 * x5)), (9, .long s0), (0, .ref d0), (4, .int x4)]) h (by decide) rfl dX9_soon_119 rfl ?_
    refine g_lload (np := 123) h 1 rfl dX9_soon_121 rfl ?_
    refine g_lstore (np := 125) (lv' := [(13, .long (x5 * x5)), (11, .long s0), (5, .long (x5 * x5)), (9, .long s0), (0, .ref d0), (4, .int x4)]) h (by decide) rfl dX9_soon_123 rfl ?_
    refine g_lv [4, 5, 2, 3, 1, 0] rfl ?_
    exact hL125 _ (x5 * x5) s0 s0 (x5 * x5) hF
  have hL32 : ∀ (s0 : Int32) (s1 : Int32) (s2 : Int32), fX9_soon_32 x1 x2 x3 x4 s0 s1 s2 = some z → G l D E 17 0 0 (wdX9_soon cI cZ d0) 32 [(0, .ref d0), (1, .int x1), (2, .int x2), (3, .int x3), (4, .int x4)] [.int s0, .int s1, .int s2] := by
    intro s0 s1 s2 hF
    rw [fX9_soon_32] at hF
    obtain ⟨r3001, hr3001, hF⟩ := Option.bind_eq_some_iff.mp hF
    refine g_callS (np := 35) (Wd' := (wdX9_soon cI cZ d0)) (As := [.int s2, .int s1, .int s0]) h (mX9_in l D cI cZ s2 s1 s0 r3001 hr3001) gcX9_soon_X9_in rfl ⟨rfl, rfl⟩ hyX9_in rfl rfl rfl rfl ⟨Nat.zero_le _, Nat.zero_le _⟩ [] [] (N := 0) (by decide +kernel) rfl rfl rfl rfl rfl dX9_soon_32 rfl ?_
    refine g_if_eq h hF dX9_soon_35 (np := 38) rfl (tg := 48) rfl (fun c3002 hF => ?_) (fun c3002 hF => ?_)
    · refine g_ldc2 (np := 51) (v := (-1000000000000000002 : Int64)) h (imX9_soon_own _ (List.mem_of_getElem? (i := 0) rfl)) dX9_soon_48 rfl ?_
      exact hend _ hF _ _ dX9_soon_51
    · refine g_iload (np := 40) h 4 rfl dX9_soon_38 rfl ?_
      refine g_iconst (np := 41) (v := (0 : Int32)) h (by decide) dX9_soon_40 rfl ?_
      refine g_iconst (np := 42) (v := (1 : Int32)) h (by decide) dX9_soon_41 rfl ?_
      obtain ⟨r3003, hr3003, hF⟩ := Option.bind_eq_some_iff.mp hF
      refine g_callS (np := 45) (Wd' := (wdX9_soon cI cZ d0)) (As := [.int x4, .int (0 : Int32), .int (1 : Int32)]) h (mX9_in l D cI cZ x4 (0 : Int32) (1 : Int32) r3003 hr3003) gcX9_soon_X9_in rfl ⟨rfl, rfl⟩ hyX9_in rfl rfl rfl rfl ⟨Nat.zero_le _, Nat.zero_le _⟩ [] [] (N := 0) (by decide +kernel) rfl rfl rfl rfl rfl dX9_soon_42 rfl ?_
      refine g_if_ne h hF dX9_soon_45 (np := 48) rfl (tg := 52) rfl (fun c3004 hF => ?_) (fun c3004 hF => ?_)
      · refine g_ldc2 (np := 55) (v := (10 : Int64)) h (imX9_soon_own _ (List.mem_of_getElem? (i := 1) rfl)) dX9_soon_52 rfl ?_
        refine g_iload_n (np := 56) h 2 rfl rfl dX9_soon_55 rfl ?_
        obtain ⟨r3005, hr3005, hF⟩ := Option.bind_eq_some_iff.mp hF
        refine g_callS (np := 59) (Wd' := (wdX9_soon cI cZ d0)) (As := [.long (10 : Int64), .int x2]) h (mX9_power l D cI cZ (10 : Int64) x2 r3005 hr3005) gcX9_soon_X9_power rfl ⟨rfl, rfl⟩ hyX9_power rfl rfl rfl rfl ⟨Nat.zero_le _, Nat.zero_le _⟩ [] [] (N := 0) (by decide +kernel) rfl rfl rfl rfl rfl dX9_soon_56 rfl ?_
        refine g_lstore (np := 61) (lv' := [(5, .long r3005), (0, .ref d0), (1, .int x1), (2, .int x2), (3, .int x3), (4, .int x4)]) h (by decide) rfl dX9_soon_59 rfl ?_
        refine g_ldc2 (np := 64) (v := (10 : Int64)) h (imX9_soon_own _ (List.mem_of_getElem? (i := 1) rfl)) dX9_soon_61 rfl ?_
        refine g_iload_n (np := 65) h 2 rfl rfl dX9_soon_64 rfl ?_
        refine g_i2l (np := 66) h dX9_soon_65 rfl ?_
        refine g_lsub (np := 67) h dX9_soon_66 rfl ?_
        refine g_iload_n (np := 68) h 3 rfl rfl dX9_soon_67 rfl ?_
        obtain ⟨r3006, hr3006, hF⟩ := Option.bind_eq_some_iff.mp hF
        refine g_callS (np := 71) (Wd' := (wdX9_soon cI cZ d0)) (As := [.long ((10 : Int64) - (Int32.toInt64 x1)), .int x2]) h (mX9_power l D cI cZ ((10 : Int64) - (Int32.toInt64 x1)) x2 r3006 hr3006) gcX9_soon_X9_power rfl ⟨rfl, rfl⟩ hyX9_power rfl rfl rfl rfl ⟨Nat.zero_le _, Nat.zero_le _⟩ [] [] (N := 0) (by decide +kernel) rfl rfl rfl rfl rfl dX9_soon_68 rfl ?_
        refine g_lstore (np := 73) (lv' := [(7, .long r3006), (5, .long r3005), (0, .ref d0), (1, .int x1), (2, .int x2), (3, .int x3), (4, .int x4)]) h (by decide) rfl dX9_soon_71 rfl ?_
        refine g_lload (np := 75) h 1 rfl dX9_soon_73 rfl ?_
        refine g_lload (np := 77) h 0 rfl dX9_soon_75 rfl ?_
        refine g_lsub (np := 78) h dX9_soon_77 rfl ?_
        refine g_lstore (np := 80) (lv' := [(9, .long (r3005 - r3006)), (7, .long r3006), (5, .long r3005), (0, .ref d0), (1, .int x1), (2, .int x2), (3, .int x3), (4, .int x4)]) h (by decide) rfl dX9_soon_78 rfl ?_
        refine g_iload_n (np := 81) h 6 rfl rfl dX9_soon_80 rfl ?_
        refine g_if_le h hF dX9_soon_81 (np := 84) rfl (tg := 117) rfl (fun c3007 hF => ?_) (fun c3007 hF => ?_)
        · refine g_lload (np := 119) h 0 rfl dX9_soon_117 rfl ?_
          refine g_lstore (np := 121) (lv' := [(11, .long (r3005 - r3006)), (9, .long (r3005 - r3006)), (7, .long r3006), (5, .long r3005), (0, .ref d0), (1, .int x1), (2, .int x2), (3, .int x3), (4, .int x4)]) h (by decide) rfl dX9_soon_119 rfl ?_
          refine g_lload (np := 123) h 3 rfl dX9_soon_121 rfl ?_
          refine g_lstore (np := 125) (lv' := [(13, .long r3005), (11, .long (r3005 - r3006)), (9, .long (r3005 - r3006)), (7, .long r3006), (5, .long r3005), (0, .ref d0), (1, .int x1), (2, .int x2), (3, .int x3), (4, .int x4)]) h (by decide) rfl dX9_soon_123 rfl ?_
          refine g_lv [5, 9, 4, 2, 1, 0] rfl ?_
          exact hL125 _ r3005 (r3005 - r3006) (r3005 - r3006) r3005 hF
        · refine g_iload_n (np := 85) h 6 rfl rfl dX9_soon_84 rfl ?_
          refine g_iconst (np := 86) (v := (1 : Int32)) h (by decide) dX9_soon_85 rfl ?_
          refine g_icmp_ne h hF dX9_soon_86 (np := 89) rfl (tg := 103) rfl (fun c3008 hF => ?_) (fun c3008 hF => ?_)
          · refine g_lload (np := 105) h 0 rfl dX9_soon_103 rfl ?_
            refine g_lload (np := 107) h 0 rfl dX9_soon_105 rfl ?_
            refine g_lmul (np := 108) h dX9_soon_107 rfl ?_
            refine g_lv [3, 7, 2] rfl ?_
            exact hL108 r3005 ((r3005 - r3006) * (r3005 - r3006)) hF
          · refine g_lload (np := 91) h 2 rfl dX9_soon_89 rfl ?_
            refine g_lload (np := 93) h 2 rfl dX9_soon_91 rfl ?_
            refine g_lmul (np := 94) h dX9_soon_93 rfl ?_
            refine g_lload (np := 96) h 1 rfl dX9_soon_94 rfl ?_
            refine g_lload (np := 98) h 1 rfl dX9_soon_96 rfl ?_
            refine g_lmul (np := 99) h dX9_soon_98 rfl ?_
            refine g_lsub (np := 100) h dX9_soon_99 rfl ?_
            refine g_goto h dX9_soon_100 (np := 108) rfl ?_
            refine g_lv [3, 7, 2] rfl ?_
            exact hL108 r3005 ((r3005 * r3005) - (r3006 * r3006)) hF
      · refine g_ldc2 (np := 51) (v := (-1000000000000000002 : Int64)) h (imX9_soon_own _ (List.mem_of_getElem? (i := 0) rfl)) dX9_soon_48 rfl ?_
        exact hend _ hF _ _ dX9_soon_51
  unfold fX9_soon at hF
  refine g_iload_n (np := 1) h 1 rfl rfl dX9_soon_0 rfl ?_
  refine g_iconst (np := 2) (v := (0 : Int32)) h (by decide) dX9_soon_1 rfl ?_
  refine g_bipush (np := 4) (v := (10 : Int32)) h (by decide) dX9_soon_2 rfl ?_
  obtain ⟨r1, hr1, hF⟩ := Option.bind_eq_some_iff.mp hF
  refine g_callS (np := 7) (Wd' := (wdX9_soon cI cZ d0)) (As := [.int x1, .int (0 : Int32), .int (10 : Int32)]) h (mX9_in l D cI cZ x1 (0 : Int32) (10 : Int32) r1 hr1) gcX9_soon_X9_in rfl ⟨rfl, rfl⟩ hyX9_in rfl rfl rfl rfl ⟨Nat.zero_le _, Nat.zero_le _⟩ [] [] (N := 0) (by decide +kernel) rfl rfl rfl rfl rfl dX9_soon_4 rfl ?_
  refine g_if_eq h hF dX9_soon_7 (np := 10) rfl (tg := 48) rfl (fun c2 hF => ?_) (fun c2 hF => ?_)
  · refine g_ldc2 (np := 51) (v := (-1000000000000000002 : Int64)) h (imX9_soon_own _ (List.mem_of_getElem? (i := 0) rfl)) dX9_soon_48 rfl ?_
    exact hend _ hF _ _ dX9_soon_51
  · refine g_iload_n (np := 11) h 3 rfl rfl dX9_soon_10 rfl ?_
    refine g_iconst (np := 12) (v := (0 : Int32)) h (by decide) dX9_soon_11 rfl ?_
    refine g_iconst (np := 13) (v := (2 : Int32)) h (by decide) dX9_soon_12 rfl ?_
    obtain ⟨r3, hr3, hF⟩ := Option.bind_eq_some_iff.mp hF
    refine g_callS (np := 16) (Wd' := (wdX9_soon cI cZ d0)) (As := [.int x3, .int (0 : Int32), .int (2 : Int32)]) h (mX9_in l D cI cZ x3 (0 : Int32) (2 : Int32) r3 hr3) gcX9_soon_X9_in rfl ⟨rfl, rfl⟩ hyX9_in rfl rfl rfl rfl ⟨Nat.zero_le _, Nat.zero_le _⟩ [] [] (N := 0) (by decide +kernel) rfl rfl rfl rfl rfl dX9_soon_13 rfl ?_
    refine g_if_eq h hF dX9_soon_16 (np := 19) rfl (tg := 48) rfl (fun c4 hF => ?_) (fun c4 hF => ?_)
    · refine g_ldc2 (np := 51) (v := (-1000000000000000002 : Int64)) h (imX9_soon_own _ (List.mem_of_getElem? (i := 0) rfl)) dX9_soon_48 rfl ?_
      exact hend _ hF _ _ dX9_soon_51
    · refine g_iload_n (np := 20) h 2 rfl rfl dX9_soon_19 rfl ?_
      refine g_iconst (np := 21) (v := (0 : Int32)) h (by decide) dX9_soon_20 rfl ?_
      refine g_iload_n (np := 22) h 3 rfl rfl dX9_soon_21 rfl ?_
      refine g_if_ne h hF dX9_soon_22 (np := 25) rfl (tg := 30) rfl (fun c5 hF => ?_) (fun c5 hF => ?_)
      · refine g_bipush (np := 32) (v := (8 : Int32)) h (by decide) dX9_soon_30 rfl ?_
        exact hL32 (8 : Int32) (0 : Int32) x2 hF
      · refine g_bipush (np := 27) (v := (15 : Int32)) h (by decide) dX9_soon_25 rfl ?_
        refine g_goto h dX9_soon_27 (np := 32) rfl ?_
        exact hL32 (15 : Int32) (0 : Int32) x2 hF
theorem dX9_book_0 : decode cX9_book 0 = .ok (.iload_n 1, 1) := by decide +kernel
theorem dX9_book_1 : decode cX9_book 1 = .ok (.iconst 0, 1) := by decide +kernel
theorem dX9_book_2 : decode cX9_book 2 = .ok (.sipush 9999, 3) := by decide +kernel
theorem dX9_book_5 : decode cX9_book 5 = .ok (.invokestatic 41, 3) := by decide +kernel
theorem dX9_book_8 : decode cX9_book 8 = .ok (.ifCond .eq 22, 3) := by decide +kernel
theorem dX9_book_11 : decode cX9_book 11 = .ok (.iload_n 2, 1) := by decide +kernel
theorem dX9_book_12 : decode cX9_book 12 = .ok (.iconst 1, 1) := by decide +kernel
theorem dX9_book_13 : decode cX9_book 13 = .ok (.bipush 99, 2) := by decide +kernel
theorem dX9_book_15 : decode cX9_book 15 = .ok (.invokestatic 41, 3) := by decide +kernel
theorem dX9_book_18 : decode cX9_book 18 = .ok (.ifCond .eq 12, 3) := by decide +kernel
theorem dX9_book_21 : decode cX9_book 21 = .ok (.iload_n 3, 1) := by decide +kernel
theorem dX9_book_22 : decode cX9_book 22 = .ok (.iconst 0, 1) := by decide +kernel
theorem dX9_book_23 : decode cX9_book 23 = .ok (.iconst 2, 1) := by decide +kernel
theorem dX9_book_24 : decode cX9_book 24 = .ok (.invokestatic 41, 3) := by decide +kernel
theorem dX9_book_27 : decode cX9_book 27 = .ok (.ifCond .ne 6, 3) := by decide +kernel
theorem dX9_book_30 : decode cX9_book 30 = .ok (.bipush (-2), 2) := by decide +kernel
theorem dX9_book_32 : decode cX9_book 32 = .ok (.ireturn, 1) := by decide +kernel
theorem dX9_book_33 : decode cX9_book 33 = .ok (.aload_n 0, 1) := by decide +kernel
theorem dX9_book_34 : decode cX9_book 34 = .ok (.invokevirtual 81, 3) := by decide +kernel
theorem dX9_book_37 : decode cX9_book 37 = .ok (.iload_n 1, 1) := by decide +kernel
theorem dX9_book_38 : decode cX9_book 38 = .ok (.istore 4, 2) := by decide +kernel
theorem dX9_book_40 : decode cX9_book 40 = .ok (.iconst 0, 1) := by decide +kernel
theorem dX9_book_41 : decode cX9_book 41 = .ok (.istore 5, 2) := by decide +kernel
theorem dX9_book_43 : decode cX9_book 43 = .ok (.iload 5, 2) := by decide +kernel
theorem dX9_book_45 : decode cX9_book 45 = .ok (.iload_n 2, 1) := by decide +kernel
theorem dX9_book_46 : decode cX9_book 46 = .ok (.if_icmp .ge 145, 3) := by decide +kernel
theorem dX9_book_49 : decode cX9_book 49 = .ok (.bipush 75, 2) := by decide +kernel
theorem dX9_book_51 : decode cX9_book 51 = .ok (.iload 4, 2) := by decide +kernel
theorem dX9_book_53 : decode cX9_book 53 = .ok (.imul, 1) := by decide +kernel
theorem dX9_book_54 : decode cX9_book 54 = .ok (.bipush 74, 2) := by decide +kernel
theorem dX9_book_56 : decode cX9_book 56 = .ok (.iadd, 1) := by decide +kernel
theorem dX9_book_57 : decode cX9_book 57 = .ok (.ldc 149, 2) := by decide +kernel
theorem dX9_book_59 : decode cX9_book 59 = .ok (.irem, 1) := by decide +kernel
theorem dX9_book_60 : decode cX9_book 60 = .ok (.istore 4, 2) := by decide +kernel
theorem dX9_book_62 : decode cX9_book 62 = .ok (.iload 4, 2) := by decide +kernel
theorem dX9_book_64 : decode cX9_book 64 = .ok (.bipush 8, 2) := by decide +kernel
theorem dX9_book_66 : decode cX9_book 66 = .ok (.irem, 1) := by decide +kernel
theorem dX9_book_67 : decode cX9_book 67 = .ok (.istore 6, 2) := by decide +kernel
theorem dX9_book_69 : decode cX9_book 69 = .ok (.iload 4, 2) := by decide +kernel
theorem dX9_book_71 : decode cX9_book 71 = .ok (.bipush 8, 2) := by decide +kernel
theorem dX9_book_73 : decode cX9_book 73 = .ok (.idiv, 1) := by decide +kernel
theorem dX9_book_74 : decode cX9_book 74 = .ok (.bipush 10, 2) := by decide +kernel
theorem dX9_book_76 : decode cX9_book 76 = .ok (.irem, 1) := by decide +kernel
theorem dX9_book_77 : decode cX9_book 77 = .ok (.istore 7, 2) := by decide +kernel
theorem dX9_book_79 : decode cX9_book 79 = .ok (.iload 4, 2) := by decide +kernel
theorem dX9_book_81 : decode cX9_book 81 = .ok (.bipush 8, 2) := by decide +kernel
theorem dX9_book_83 : decode cX9_book 83 = .ok (.idiv, 1) := by decide +kernel
theorem dX9_book_84 : decode cX9_book 84 = .ok (.bipush 8, 2) := by decide +kernel
theorem dX9_book_86 : decode cX9_book 86 = .ok (.irem, 1) := by decide +kernel
theorem dX9_book_87 : decode cX9_book 87 = .ok (.istore 8, 2) := by decide +kernel
theorem dX9_book_89 : decode cX9_book 89 = .ok (.iload 4, 2) := by decide +kernel
theorem dX9_book_91 : decode cX9_book 91 = .ok (.bipush 64, 2) := by decide +kernel
theorem dX9_book_93 : decode cX9_book 93 = .ok (.idiv, 1) := by decide +kernel
theorem dX9_book_94 : decode cX9_book 94 = .ok (.bipush 8, 2) := by decide +kernel
theorem dX9_book_96 : decode cX9_book 96 = .ok (.irem, 1) := by decide +kernel
theorem dX9_book_97 : decode cX9_book 97 = .ok (.istore 9, 2) := by decide +kernel
theorem dX9_book_99 : decode cX9_book 99 = .ok (.iload 6, 2) := by decide +kernel
theorem dX9_book_101 : decode cX9_book 101 = .ok (.iconst 2, 1) := by decide +kernel
theorem dX9_book_102 : decode cX9_book 102 = .ok (.if_icmp .ge 12, 3) := by decide +kernel
theorem dX9_book_105 : decode cX9_book 105 = .ok (.aload_n 0, 1) := by decide +kernel
theorem dX9_book_106 : decode cX9_book 106 = .ok (.iload 7, 2) := by decide +kernel
theorem dX9_book_108 : decode cX9_book 108 = .ok (.invokevirtual 97, 3) := by decide +kernel
theorem dX9_book_111 : decode cX9_book 111 = .ok (.goto 72, 3) := by decide +kernel
theorem dX9_book_114 : decode cX9_book 114 = .ok (.iload 6, 2) := by decide +kernel
theorem dX9_book_116 : decode cX9_book 116 = .ok (.iconst 4, 1) := by decide +kernel
theorem dX9_book_117 : decode cX9_book 117 = .ok (.if_icmp .ge 14, 3) := by decide +kernel
theorem dX9_book_120 : decode cX9_book 120 = .ok (.aload_n 0, 1) := by decide +kernel
theorem dX9_book_121 : decode cX9_book 121 = .ok (.iload 9, 2) := by decide +kernel
theorem dX9_book_123 : decode cX9_book 123 = .ok (.iload 7, 2) := by decide +kernel
theorem dX9_book_125 : decode cX9_book 125 = .ok (.invokevirtual 78, 3) := by decide +kernel
theorem dX9_book_128 : decode cX9_book 128 = .ok (.goto 55, 3) := by decide +kernel
theorem dX9_book_131 : decode cX9_book 131 = .ok (.iload 6, 2) := by decide +kernel
theorem dX9_book_133 : decode cX9_book 133 = .ok (.iconst 4, 1) := by decide +kernel
theorem dX9_book_134 : decode cX9_book 134 = .ok (.if_icmp .ne 14, 3) := by decide +kernel
theorem dX9_book_137 : decode cX9_book 137 = .ok (.aload_n 0, 1) := by decide +kernel
theorem dX9_book_138 : decode cX9_book 138 = .ok (.iload 8, 2) := by decide +kernel
theorem dX9_book_140 : decode cX9_book 140 = .ok (.iload 9, 2) := by decide +kernel
theorem dX9_book_142 : decode cX9_book 142 = .ok (.invokevirtual 67, 3) := by decide +kernel
theorem dX9_book_145 : decode cX9_book 145 = .ok (.goto 38, 3) := by decide +kernel
theorem dX9_book_148 : decode cX9_book 148 = .ok (.iload 6, 2) := by decide +kernel
theorem dX9_book_150 : decode cX9_book 150 = .ok (.iconst 5, 1) := by decide +kernel
theorem dX9_book_151 : decode cX9_book 151 = .ok (.if_icmp .ne 12, 3) := by decide +kernel
theorem dX9_book_154 : decode cX9_book 154 = .ok (.aload_n 0, 1) := by decide +kernel
theorem dX9_book_155 : decode cX9_book 155 = .ok (.iload 8, 2) := by decide +kernel
theorem dX9_book_157 : decode cX9_book 157 = .ok (.invokevirtual 71, 3) := by decide +kernel
theorem dX9_book_160 : decode cX9_book 160 = .ok (.goto 23, 3) := by decide +kernel
theorem dX9_book_163 : decode cX9_book 163 = .ok (.iload 6, 2) := by decide +kernel
theorem dX9_book_165 : decode cX9_book 165 = .ok (.bipush 6, 2) := by decide +kernel
theorem dX9_book_167 : decode cX9_book 167 = .ok (.if_icmp .ne 12, 3) := by decide +kernel
theorem dX9_book_170 : decode cX9_book 170 = .ok (.aload_n 0, 1) := by decide +kernel
theorem dX9_book_171 : decode cX9_book 171 = .ok (.iload 8, 2) := by decide +kernel
theorem dX9_book_173 : decode cX9_book 173 = .ok (.invokevirtual 75, 3) := by decide +kernel
theorem dX9_book_176 : decode cX9_book 176 = .ok (.goto 7, 3) := by decide +kernel
theorem dX9_book_179 : decode cX9_book 179 = .ok (.aload_n 0, 1) := by decide +kernel
theorem dX9_book_180 : decode cX9_book 180 = .ok (.invokevirtual 94, 3) := by decide +kernel
theorem dX9_book_183 : decode cX9_book 183 = .ok (.istore 10, 2) := by decide +kernel
theorem dX9_book_185 : decode cX9_book 185 = .ok (.iinc 5 1, 3) := by decide +kernel
theorem dX9_book_188 : decode cX9_book 188 = .ok (.goto (-145), 3) := by decide +kernel
theorem dX9_book_191 : decode cX9_book 191 = .ok (.iconst 0, 1) := by decide +kernel
theorem dX9_book_192 : decode cX9_book 192 = .ok (.istore 5, 2) := by decide +kernel
theorem dX9_book_194 : decode cX9_book 194 = .ok (.iconst 0, 1) := by decide +kernel
theorem dX9_book_195 : decode cX9_book 195 = .ok (.istore 6, 2) := by decide +kernel
theorem dX9_book_197 : decode cX9_book 197 = .ok (.iconst 0, 1) := by decide +kernel
theorem dX9_book_198 : decode cX9_book 198 = .ok (.istore 7, 2) := by decide +kernel
theorem dX9_book_200 : decode cX9_book 200 = .ok (.iload 7, 2) := by decide +kernel
theorem dX9_book_202 : decode cX9_book 202 = .ok (.bipush 8, 2) := by decide +kernel
theorem dX9_book_204 : decode cX9_book 204 = .ok (.if_icmp .ge 47, 3) := by decide +kernel
theorem dX9_book_207 : decode cX9_book 207 = .ok (.iload 5, 2) := by decide +kernel
theorem dX9_book_209 : decode cX9_book 209 = .ok (.aload_n 0, 1) := by decide +kernel
theorem dX9_book_210 : decode cX9_book 210 = .ok (.getfield 13, 3) := by decide +kernel
theorem dX9_book_213 : decode cX9_book 213 = .ok (.bipush 10, 2) := by decide +kernel
theorem dX9_book_215 : decode cX9_book 215 = .ok (.iload 7, 2) := by decide +kernel
theorem dX9_book_217 : decode cX9_book 217 = .ok (.iadd, 1) := by decide +kernel
theorem dX9_book_218 : decode cX9_book 218 = .ok (.iaload, 1) := by decide +kernel
theorem dX9_book_219 : decode cX9_book 219 = .ok (.ifCond .lt 7, 3) := by decide +kernel
theorem dX9_book_222 : decode cX9_book 222 = .ok (.iconst 1, 1) := by decide +kernel
theorem dX9_book_223 : decode cX9_book 223 = .ok (.goto 4, 3) := by decide +kernel
theorem dX9_book_226 : decode cX9_book 226 = .ok (.iconst 0, 1) := by decide +kernel
theorem dX9_book_227 : decode cX9_book 227 = .ok (.iadd, 1) := by decide +kernel
theorem dX9_book_228 : decode cX9_book 228 = .ok (.istore 5, 2) := by decide +kernel
theorem dX9_book_230 : decode cX9_book 230 = .ok (.iload 6, 2) := by decide +kernel
theorem dX9_book_232 : decode cX9_book 232 = .ok (.aload_n 0, 1) := by decide +kernel
theorem dX9_book_233 : decode cX9_book 233 = .ok (.getfield 13, 3) := by decide +kernel
theorem dX9_book_236 : decode cX9_book 236 = .ok (.bipush 26, 2) := by decide +kernel
theorem dX9_book_238 : decode cX9_book 238 = .ok (.iload 7, 2) := by decide +kernel
theorem dX9_book_240 : decode cX9_book 240 = .ok (.iadd, 1) := by decide +kernel
theorem dX9_book_241 : decode cX9_book 241 = .ok (.iaload, 1) := by decide +kernel
theorem dX9_book_242 : decode cX9_book 242 = .ok (.iadd, 1) := by decide +kernel
theorem dX9_book_243 : decode cX9_book 243 = .ok (.istore 6, 2) := by decide +kernel
theorem dX9_book_245 : decode cX9_book 245 = .ok (.iinc 7 1, 3) := by decide +kernel
theorem dX9_book_248 : decode cX9_book 248 = .ok (.goto (-48), 3) := by decide +kernel
theorem dX9_book_251 : decode cX9_book 251 = .ok (.iload_n 3, 1) := by decide +kernel
theorem dX9_book_252 : decode cX9_book 252 = .ok (.ifCond .ne 8, 3) := by decide +kernel
theorem dX9_book_255 : decode cX9_book 255 = .ok (.iload 5, 2) := by decide +kernel
theorem dX9_book_257 : decode cX9_book 257 = .ok (.goto 17, 3) := by decide +kernel
theorem dX9_book_260 : decode cX9_book 260 = .ok (.iload_n 3, 1) := by decide +kernel
theorem dX9_book_261 : decode cX9_book 261 = .ok (.iconst 1, 1) := by decide +kernel
theorem dX9_book_262 : decode cX9_book 262 = .ok (.if_icmp .ne 8, 3) := by decide +kernel
theorem dX9_book_265 : decode cX9_book 265 = .ok (.iload 6, 2) := by decide +kernel
theorem dX9_book_267 : decode cX9_book 267 = .ok (.goto 7, 3) := by decide +kernel
theorem dX9_book_270 : decode cX9_book 270 = .ok (.aload_n 0, 1) := by decide +kernel
theorem dX9_book_271 : decode cX9_book 271 = .ok (.getfield 64, 3) := by decide +kernel
theorem dX9_book_274 : decode cX9_book 274 = .ok (.ireturn, 1) := by decide +kernel
def wtX9_book : List Cond := .code yX9_book cX9_book 11 (some .int) :: (([.constant RX9 149 (65537), .fieldLink RX9 13 "DriftKinModel" "now" "[I", .fieldLink RX9 64 "DriftKinModel" "weddings" "I"]) ++ ((u_ws RX9 TX9 15) ++ ((va_wsS RX9 41 yX9_in wtX9_in) ++ ((wsV RX9 81 RX9 yX9_asNow wtX9_asNow) ++ ((wsV RX9 97 RX9 yX9_comeIn wtX9_comeIn) ++ ((wsV RX9 78 RX9 yX9_take wtX9_take) ++ ((wsV RX9 67 RX9 yX9_wed wtX9_wed) ++ ((wsV RX9 71 RX9 yX9_part wtX9_part) ++ ((wsV RX9 75 RX9 yX9_burn wtX9_burn) ++ ((wsV RX9 94 RX9 yX9_endYear wtX9_endYear) ++ []))))))))))
theorem imX9_book_own : ∀ w ∈ ([.constant RX9 149 (65537), .fieldLink RX9 13 "DriftKinModel" "now" "[I", .fieldLink RX9 64 "DriftKinModel" "weddings" "I"] : List Cond), w ∈ wtX9_book := fun w h => List.mem_cons_of_mem _ (inl h)
theorem imX9_book_u_X9 : ∀ w ∈ (u_ws RX9 TX9 15 : List Cond), w ∈ wtX9_book := fun w h => List.mem_cons_of_mem _ (inr (inl h))
theorem imX9_book_c_X9_in : ∀ w ∈ (va_wsS RX9 41 yX9_in wtX9_in : List Cond), w ∈ wtX9_book := fun w h => List.mem_cons_of_mem _ (inr (inr (inl h)))
theorem imX9_book_c_X9_asNow : ∀ w ∈ (wsV RX9 81 RX9 yX9_asNow wtX9_asNow : List Cond), w ∈ wtX9_book := fun w h => List.mem_cons_of_mem _ (inr (inr (inr (inl h))))
theorem imX9_book_c_X9_comeIn : ∀ w ∈ (wsV RX9 97 RX9 yX9_comeIn wtX9_comeIn : List Cond), w ∈ wtX9_book := fun w h => List.mem_cons_of_mem _ (inr (inr (inr (inr (inl h)))))
theorem imX9_book_c_X9_take : ∀ w ∈ (wsV RX9 78 RX9 yX9_take wtX9_take : List Cond), w ∈ wtX9_book := fun w h => List.mem_cons_of_mem _ (inr (inr (inr (inr (inr (inl h))))))
theorem imX9_book_c_X9_wed : ∀ w ∈ (wsV RX9 67 RX9 yX9_wed wtX9_wed : List Cond), w ∈ wtX9_book := fun w h => List.mem_cons_of_mem _ (inr (inr (inr (inr (inr (inr (inl h)))))))
theorem imX9_book_c_X9_part : ∀ w ∈ (wsV RX9 71 RX9 yX9_part wtX9_part : List Cond), w ∈ wtX9_book := fun w h => List.mem_cons_of_mem _ (inr (inr (inr (inr (inr (inr (inr (inl h))))))))
theorem imX9_book_c_X9_burn : ∀ w ∈ (wsV RX9 75 RX9 yX9_burn wtX9_burn : List Cond), w ∈ wtX9_book := fun w h => List.mem_cons_of_mem _ (inr (inr (inr (inr (inr (inr (inr (inr (inl h)))))))))
theorem imX9_book_c_X9_endYear : ∀ w ∈ (wsV RX9 94 RX9 yX9_endYear wtX9_endYear : List Cond), w ∈ wtX9_book := fun w h => List.mem_cons_of_mem _ (inr (inr (inr (inr (inr (inr (inr (inr (inr (inl h))))))))))
theorem gdX9_book : ∀ w ∈ wtX9_book, Gd w := gdc rfl (gda (gdl (by decide +kernel)) (gda (gdu _ _ _) (gda (gda (gdl (by decide +kernel)) gdX9_in) (gda (gda (gdl (by decide +kernel)) gdX9_asNow) (gda (gda (gdl (by decide +kernel)) gdX9_comeIn) (gda (gda (gdl (by decide +kernel)) gdX9_take) (gda (gda (gdl (by decide +kernel)) gdX9_wed) (gda (gda (gdl (by decide +kernel)) gdX9_part) (gda (gda (gdl (by decide +kernel)) gdX9_burn) (gda (gda (gdl (by decide +kernel)) gdX9_endYear) gdn))))))))))
theorem gcX9_book_X9_in : GoodIn wtX9_book (va_wsS RX9 41 yX9_in wtX9_in) := fun w h => ⟨imX9_book_c_X9_in w h, (gda (gdl (by decide +kernel)) gdX9_in) w h⟩
theorem gcX9_book_X9_asNow : GoodIn wtX9_book (wsV RX9 81 RX9 yX9_asNow wtX9_asNow) := fun w h => ⟨imX9_book_c_X9_asNow w h, (gda (gdl (by decide +kernel)) gdX9_asNow) w h⟩
theorem gcX9_book_X9_comeIn : GoodIn wtX9_book (wsV RX9 97 RX9 yX9_comeIn wtX9_comeIn) := fun w h => ⟨imX9_book_c_X9_comeIn w h, (gda (gdl (by decide +kernel)) gdX9_comeIn) w h⟩
theorem gcX9_book_X9_take : GoodIn wtX9_book (wsV RX9 78 RX9 yX9_take wtX9_take) := fun w h => ⟨imX9_book_c_X9_take w h, (gda (gdl (by decide +kernel)) gdX9_take) w h⟩
theorem gcX9_book_X9_wed : GoodIn wtX9_book (wsV RX9 67 RX9 yX9_wed wtX9_wed) := fun w h => ⟨imX9_book_c_X9_wed w h, (gda (gdl (by decide +kernel)) gdX9_wed) w h⟩
theorem gcX9_book_X9_part : GoodIn wtX9_book (wsV RX9 71 RX9 yX9_part wtX9_part) := fun w h => ⟨imX9_book_c_X9_part w h, (gda (gdl (by decide +kernel)) gdX9_part) w h⟩
theorem gcX9_book_X9_burn : GoodIn wtX9_book (wsV RX9 75 RX9 yX9_burn wtX9_burn) := fun w h => ⟨imX9_book_c_X9_burn w h, (gda (gdl (by decide +kernel)) gdX9_burn) w h⟩
theorem gcX9_book_X9_endYear : GoodIn wtX9_book (wsV RX9 94 RX9 yX9_endYear wtX9_endYear) := fun w h => ⟨imX9_book_c_X9_endYear w h, (gda (gdl (by decide +kernel)) gdX9_endYear) w h⟩
def fX9_book_227 (k200 : Int32 → Int32 → Int32 → Option (Int32 × Int32 × (Nat → Int32))) (v_weddings : Int32) (v_now : Nat → Int32) (x3 : Int32) (x6 : Int32) (x7 : Int32) (s0 : Int32) (s1 : Int32) : Option (Int32 × Int32 × (Nat → Int32)) :=
  chk ((26 : Int32) + x7) 35 (
    k200 (s1 + s0) (x6 + (rd v_now ((26 : Int32) + x7))) (x7 + (1 : Int32)))
def fX9_book_200 (v_weddings : Int32) (v_now : Nat → Int32) (x3 : Int32) : Nat → Int32 → Int32 → Int32 → Option (Int32 × Int32 × (Nat → Int32))
  | 0, _, _, _ => none
  | n + 1, x5, x6, x7 =>
    if (8 : Int32) ≤ x7 then
      if x3 = (0 : Int32) then
        some (x5, v_weddings, v_now)
      else
        if x3 = (1 : Int32) then
          some (x6, v_weddings, v_now)
        else
          some (v_weddings, v_weddings, v_now)
    else
      chk ((10 : Int32) + x7) 35 (
        if (rd v_now ((10 : Int32) + x7)) < (0 : Int32) then
          fX9_book_227 (fun y0 y1 y2 => fX9_book_200 v_weddings v_now x3 n y0 y1 y2) v_weddings v_now x3 x6 x7 (0 : Int32) x5
        else
          fX9_book_227 (fun y0 y1 y2 => fX9_book_200 v_weddings v_now x3 n y0 y1 y2) v_weddings v_now x3 x6 x7 (1 : Int32) x5)
def fX9_book_43 (v_of : Nat → Int32) (x2 : Int32) (x3 : Int32) : Nat → Int32 → (Nat → Int32) → Int32 → Int32 → Option (Int32 × Int32 × (Nat → Int32))
  | 0, _, _, _, _ => none
  | n + 1, v_weddings, v_now, x4, x5 =>
    if x2 ≤ x5 then
      fX9_book_200 v_weddings v_now x3 2000 (0 : Int32) (0 : Int32) (0 : Int32)
    else
      bnd (jrem (jrem (((75 : Int32) * x4) + (74 : Int32)) (65537 : Int32)) (8 : Int32)) (fun t3002 =>
        bnd ((jrem (((75 : Int32) * x4) + (74 : Int32)) (65537 : Int32)) / (8 : Int32)) (fun t3003 =>
          bnd ((jrem (((75 : Int32) * x4) + (74 : Int32)) (65537 : Int32)) / (8 : Int32)) (fun t3004 =>
            bnd ((jrem (((75 : Int32) * x4) + (74 : Int32)) (65537 : Int32)) / (64 : Int32)) (fun t3005 =>
              if (2 : Int32) ≤ t3002 then
                if (4 : Int32) ≤ t3002 then
                  if t3002 = (4 : Int32) then
                    (fX9_wed v_weddings v_now v_of (jrem t3004 (8 : Int32)) (jrem t3005 (8 : Int32))).bind (fun r3014 =>
                      fX9_book_43 v_of x2 x3 n r3014.2.1 r3014.2.2 (jrem (((75 : Int32) * x4) + (74 : Int32)) (65537 : Int32)) (x5 + (1 : Int32)))
                  else
                    if t3002 = (5 : Int32) then
                      (fX9_part v_now (jrem t3004 (8 : Int32))).bind (fun r3013 =>
                        fX9_book_43 v_of x2 x3 n v_weddings r3013.2 (jrem (((75 : Int32) * x4) + (74 : Int32)) (65537 : Int32)) (x5 + (1 : Int32)))
                    else
                      if t3002 = (6 : Int32) then
                        (fX9_burn v_now (jrem t3004 (8 : Int32))).bind (fun r3012 =>
                          fX9_book_43 v_of x2 x3 n v_weddings r3012.2 (jrem (((75 : Int32) * x4) + (74 : Int32)) (65537 : Int32)) (x5 + (1 : Int32)))
                      else
                        (fX9_endYear v_now).bind (fun r3011 =>
                          fX9_book_43 v_of x2 x3 n v_weddings r3011.2 (jrem (((75 : Int32) * x4) + (74 : Int32)) (65537 : Int32)) (x5 + (1 : Int32)))
                else
                  (fX9_take v_now (jrem t3005 (8 : Int32)) (jrem t3003 (10 : Int32))).bind (fun r3015 =>
                    fX9_book_43 v_of x2 x3 n v_weddings r3015.2 (jrem (((75 : Int32) * x4) + (74 : Int32)) (65537 : Int32)) (x5 + (1 : Int32)))
              else
                (fX9_comeIn v_now (jrem t3003 (10 : Int32))).bind (fun r3016 =>
                  fX9_book_43 v_of x2 x3 n v_weddings r3016.2 (jrem (((75 : Int32) * x4) + (74 : Int32)) (65537 : Int32)) (x5 + (1 : Int32)))))))
def fX9_book (v_weddings : Int32) (v_book : Nat → Int32) (v_now : Nat → Int32) (v_of : Nat → Int32) (x1 : Int32) (x2 : Int32) (x3 : Int32) : Option (Int32 × Int32 × (Nat → Int32)) :=
  (fX9_in x1 (0 : Int32) (9999 : Int32)).bind (fun r1 =>
    if r1 = (0 : Int32) then
      some ((-2 : Int32), v_weddings, v_now)
    else
      (fX9_in x2 (1 : Int32) (99 : Int32)).bind (fun r3 =>
        if r3 = (0 : Int32) then
          some ((-2 : Int32), v_weddings, v_now)
        else
          (fX9_in x3 (0 : Int32) (2 : Int32)).bind (fun r5 =>
            if r5 = (0 : Int32) then
              some ((-2 : Int32), v_weddings, v_now)
            else
              (fX9_asNow v_weddings v_book v_now).bind (fun r7 =>
                fX9_book_43 v_of x2 x3 2000 r7.1 r7.2 x1 (0 : Int32)))))
def wdX9_book (cI cZ : ClassId) (q0 : Nat) (q1 : Nat) (q2 : Nat) (q3 : Nat) (d4 : Nat) (d5 : Nat) (d6 : Nat) (d7 : Nat) (d8 : Nat) (d9 : Nat) (d10 : Nat)  (v_weddings : Int32) (v_book : Nat → Int32) (v_now : Nat → Int32) (v_of : Nat → Int32) (v_sights : Int32) (v_signs : Int32) (v_reason : Int32) (v_acts : Int32) : va_W := [(q0, .inr (9, [.ref q1, .ref q2, .ref q3, .int v_sights, .ref d4, .int v_signs, .ref d5, .int v_weddings, .int v_reason, .int v_acts, .ref d6, .ref d7, .ref d8, .ref d9, .ref d10])), (q1, .inl (cI, 35, .inl v_book)), (q2, .inl (cI, 35, .inl v_now)), (q3, .inl (cI, 60, .inl v_of))]
abbrev rmX9_book : Jvm.Room := { frames := 1, cells := 0, slots := 0, locals := 22 }
theorem hyX9_book : yX9_book.cls ≠ "java/lang/invoke/MethodHandle" ∧ yX9_book.cls ≠ "java/lang/invoke/VarHandle" ∧ (parseMethodDescriptor yX9_book.desc).map (fun d => d.parameters.length) = some 3 := by decide +kernel
set_option maxHeartbeats 4000000 in
set_option maxRecDepth 100000 in
theorem mX9_book (l : Launch) (D : va_G) (cI cZ : ClassId) (q0 : Nat) (q1 : Nat) (q2 : Nat) (q3 : Nat) (d4 : Nat) (d5 : Nat) (d6 : Nat) (d7 : Nat) (d8 : Nat) (d9 : Nat) (d10 : Nat) (v_weddings : Int32) (v_book : Nat → Int32) (v_now : Nat → Int32) (v_of : Nat → Int32) (v_sights : Int32) (v_signs : Int32) (v_reason : Int32) (v_acts : Int32) (x1 : Int32) (x2 : Int32) (x3 : Int32) (z : Int32 × Int32 × (Nat → Int32)) (hF : fX9_book v_weddings v_book v_now v_of x1 x2 x3 = some z) : mp l yX9_book wtX9_book rmX9_book D cI cZ [.ref q0, .int x1, .int x2, .int x3] (wdX9_book cI cZ q0 q1 q2 q3 d4 d5 d6 d7 d8 d9 d10 v_weddings v_book v_now v_of v_sights v_signs v_reason v_acts) (some (.int z.1)) (wdX9_book cI cZ q0 q1 q2 q3 d4 d5 d6 d7 d8 d9 d10 z.2.1 v_book z.2.2 v_of v_sights v_signs v_reason v_acts) := by
  refine mp_i (lv0 := [(0, .ref q0), (1, .int x1), (2, .int x2), (3, .int x3)]) cX9_book 11 z.1 (by decide) rfl (Nat.le_of_ble_eq_true rfl) rfl (fun E h hend0 => ?_)
  have hend : ∀ (z' : Int32 × Int32 × (Nat → Int32)), some z' = some z → ∀ (pc : Nat) (lv : List (Nat × Value)), decode cX9_book pc = .ok (.ireturn, 1) → G l D E 11 0 0 (wdX9_book cI cZ q0 q1 q2 q3 d4 d5 d6 d7 d8 d9 d10 (z'.2.1) v_book (z'.2.2) v_of v_sights v_signs v_reason v_acts) pc lv [.int z'.1] := fun z' e => by cases e; exact hend0
  clear hend0
  have hL200 : ∀ (n200 : Nat) (v_weddings : Int32) (v_now : Nat → Int32) (x5 : Int32) (x6 : Int32) (x7 : Int32), fX9_book_200 v_weddings v_now x3 n200 x5 x6 x7 = some z → G l D E 11 0 0 (wdX9_book cI cZ q0 q1 q2 q3 d4 d5 d6 d7 d8 d9 d10 v_weddings v_book v_now v_of v_sights v_signs v_reason v_acts) 200 [(0, .ref q0), (3, .int x3), (5, .int x5), (6, .int x6), (7, .int x7)] [] := by
    intro n200
    induction n200 with
    | zero =>
      intro v_weddings v_now x5 x6 x7 hF
      rw [fX9_book_200] at hF
      cases hF
    | succ n200 ih200 =>
      have hL227 : ∀ (v_weddings : Int32) (v_now : Nat → Int32) (x6 : Int32) (x7 : Int32) (s0 : Int32) (s1 : Int32), fX9_book_227 (fun y0 y1 y2 => fX9_book_200 v_weddings v_now x3 n200 y0 y1 y2) v_weddings v_now x3 x6 x7 s0 s1 = some z → G l D E 11 0 0 (wdX9_book cI cZ q0 q1 q2 q3 d4 d5 d6 d7 d8 d9 d10 v_weddings v_book v_now v_of v_sights v_signs v_reason v_acts) 227 [(0, .ref q0), (3, .int x3), (6, .int x6), (7, .int x7)] [.int s0, .int s1] := by
        intro v_weddings v_now x6 x7 s0 s1 hF
        rw [fX9_book_227] at hF
        refine g_iadd (np := 228) h dX9_book_227 rfl ?_
        refine g_istore (np := 230) (lv' := [(5, .int (s1 + s0)), (0, .ref q0), (3, .int x3), (6, .int x6), (7, .int x7)]) h (by decide) rfl dX9_book_228 rfl ?_
        refine g_iload (np := 232) h 3 rfl dX9_book_230 rfl ?_
        refine g_aload_n (np := 233) h 1 rfl rfl dX9_book_232 rfl ?_
        refine g_get (np := 236) (T := TX9) h imX9_book_u_X9 0 9 rfl rfl 1 (by decide) (imX9_book_own _ (List.mem_of_getElem? (i := 1) rfl)) rfl dX9_book_233 rfl ?_
        refine g_bipush (np := 238) (v := (26 : Int32)) h (by decide) dX9_book_236 rfl ?_
        refine g_iload (np := 240) h 4 rfl dX9_book_238 rfl ?_
        refine g_iadd (np := 241) h dX9_book_240 rfl ?_
        refine g_iald (np := 242) h 2 rfl hF dX9_book_241 rfl (fun hi1001 hF => ?_)
        refine g_iadd (np := 243) h dX9_book_242 rfl ?_
        refine g_istore (np := 245) (lv' := [(6, .int (x6 + (rd v_now ((26 : Int32) + x7)))), (5, .int (s1 + s0)), (0, .ref q0), (3, .int x3), (7, .int x7)]) h (by decide) rfl dX9_book_243 rfl ?_
        refine g_iinc (np := 248) (v := (x7 + (1 : Int32))) (lv' := [(7, .int (x7 + (1 : Int32))), (6, .int (x6 + (rd v_now ((26 : Int32) + x7)))), (5, .int (s1 + s0)), (0, .ref q0), (3, .int x3)]) h 4 rfl rfl (by decide) rfl dX9_book_245 rfl ?_
        refine g_goto h dX9_book_248 (np := 200) rfl ?_
        refine g_lv [3, 4, 2, 1, 0] rfl ?_
        exact ih200 v_weddings v_now (s1 + s0) (x6 + (rd v_now ((26 : Int32) + x7))) (x7 + (1 : Int32)) hF
      intro v_weddings v_now x5 x6 x7 hF
      rw [fX9_book_200] at hF
      refine g_iload (np := 202) h 4 rfl dX9_book_200 rfl ?_
      refine g_bipush (np := 204) (v := (8 : Int32)) h (by decide) dX9_book_202 rfl ?_
      refine g_icmp_ge h hF dX9_book_204 (np := 207) rfl (tg := 251) rfl (fun c2001 hF => ?_) (fun c2001 hF => ?_)
      · refine g_iload_n (np := 252) h 1 rfl rfl dX9_book_251 rfl ?_
        refine g_if_ne h hF dX9_book_252 (np := 255) rfl (tg := 260) rfl (fun c2002 hF => ?_) (fun c2002 hF => ?_)
        · refine g_iload_n (np := 261) h 1 rfl rfl dX9_book_260 rfl ?_
          refine g_iconst (np := 262) (v := (1 : Int32)) h (by decide) dX9_book_261 rfl ?_
          refine g_icmp_ne h hF dX9_book_262 (np := 265) rfl (tg := 270) rfl (fun c2003 hF => ?_) (fun c2003 hF => ?_)
          · refine g_aload_n (np := 271) h 0 rfl rfl dX9_book_270 rfl ?_
            refine g_get (np := 274) (T := TX9) h imX9_book_u_X9 0 9 rfl rfl 7 (by decide) (imX9_book_own _ (List.mem_of_getElem? (i := 2) rfl)) rfl dX9_book_271 rfl ?_
            exact hend _ hF _ _ dX9_book_274
          · refine g_iload (np := 267) h 3 rfl dX9_book_265 rfl ?_
            refine g_goto h dX9_book_267 (np := 274) rfl ?_
            exact hend _ hF _ _ dX9_book_274
        · refine g_iload (np := 257) h 2 rfl dX9_book_255 rfl ?_
          refine g_goto h dX9_book_257 (np := 274) rfl ?_
          exact hend _ hF _ _ dX9_book_274
      · refine g_iload (np := 209) h 2 rfl dX9_book_207 rfl ?_
        refine g_aload_n (np := 210) h 0 rfl rfl dX9_book_209 rfl ?_
        refine g_get (np := 213) (T := TX9) h imX9_book_u_X9 0 9 rfl rfl 1 (by decide) (imX9_book_own _ (List.mem_of_getElem? (i := 1) rfl)) rfl dX9_book_210 rfl ?_
        refine g_bipush (np := 215) (v := (10 : Int32)) h (by decide) dX9_book_213 rfl ?_
        refine g_iload (np := 217) h 4 rfl dX9_book_215 rfl ?_
        refine g_iadd (np := 218) h dX9_book_217 rfl ?_
        refine g_iald (np := 219) h 2 rfl hF dX9_book_218 rfl (fun hi2004 hF => ?_)
        refine g_if_lt h hF dX9_book_219 (np := 222) rfl (tg := 226) rfl (fun c2005 hF => ?_) (fun c2005 hF => ?_)
        · refine g_iconst (np := 227) (v := (0 : Int32)) h (by decide) dX9_book_226 rfl ?_
          refine g_lv [0, 1, 3, 4] rfl ?_
          exact hL227 v_weddings v_now x6 x7 (0 : Int32) x5 hF
        · refine g_iconst (np := 223) (v := (1 : Int32)) h (by decide) dX9_book_222 rfl ?_
          refine g_goto h dX9_book_223 (np := 227) rfl ?_
          refine g_lv [0, 1, 3, 4] rfl ?_
          exact hL227 v_weddings v_now x6 x7 (1 : Int32) x5 hF
  have hL43 : ∀ (n43 : Nat) (v_weddings : Int32) (v_now : Nat → Int32) (x4 : Int32) (x5 : Int32), fX9_book_43 v_of x2 x3 n43 v_weddings v_now x4 x5 = some z → G l D E 11 0 0 (wdX9_book cI cZ q0 q1 q2 q3 d4 d5 d6 d7 d8 d9 d10 v_weddings v_book v_now v_of v_sights v_signs v_reason v_acts) 43 [(0, .ref q0), (2, .int x2), (3, .int x3), (4, .int x4), (5, .int x5)] [] := by
    intro n43
    induction n43 with
    | zero =>
      intro v_weddings v_now x4 x5 hF
      rw [fX9_book_43] at hF
      cases hF
    | succ n43 ih43 =>
      intro v_weddings v_now x4 x5 hF
      rw [fX9_book_43] at hF
      refine g_iload (np := 45) h 4 rfl dX9_book_43 rfl ?_
      refine g_iload_n (np := 46) h 1 rfl rfl dX9_book_45 rfl ?_
      refine g_icmp_ge h hF dX9_book_46 (np := 49) rfl (tg := 191) rfl (fun c3001 hF => ?_) (fun c3001 hF => ?_)
      · refine g_iconst (np := 192) (v := (0 : Int32)) h (by decide) dX9_book_191 rfl ?_
        refine g_istore (np := 194) (lv' := [(5, .int (0 : Int32)), (0, .ref q0), (2, .int x2), (3, .int x3), (4, .int x4)]) h (by decide) rfl dX9_book_192 rfl ?_
        refine g_iconst (np := 195) (v := (0 : Int32)) h (by decide) dX9_book_194 rfl ?_
        refine g_istore (np := 197) (lv' := [(6, .int (0 : Int32)), (5, .int (0 : Int32)), (0, .ref q0), (2, .int x2), (3, .int x3), (4, .int x4)]) h (by decide) rfl dX9_book_195 rfl ?_
        refine g_iconst (np := 198) (v := (0 : Int32)) h (by decide) dX9_book_197 rfl ?_
        refine g_istore (np := 200) (lv' := [(7, .int (0 : Int32)), (6, .int (0 : Int32)), (5, .int (0 : Int32)), (0, .ref q0), (2, .int x2), (3, .int x3), (4, .int x4)]) h (by decide) rfl dX9_book_198 rfl ?_
        refine g_lv [3, 5, 2, 1, 0] rfl ?_
        exact hL200 _ v_weddings v_now (0 : Int32) (0 : Int32) (0 : Int32) hF
      · refine g_bipush (np := 51) (v := (75 : Int32)) h (by decide) dX9_book_49 rfl ?_
        refine g_iload (np := 53) h 3 rfl dX9_book_51 rfl ?_
        refine g_imul (np := 54) h dX9_book_53 rfl ?_
        refine g_bipush (np := 56) (v := (74 : Int32)) h (by decide) dX9_book_54 rfl ?_
        refine g_iadd (np := 57) h dX9_book_56 rfl ?_
        refine g_ldc (np := 59) (v := (65537 : Int32)) h (imX9_book_own _ (List.mem_of_getElem? (i := 0) rfl)) dX9_book_57 rfl ?_
        refine g_irem (np := 60) h (by decide) dX9_book_59 rfl ?_
        refine g_istore (np := 62) (lv' := [(4, .int (jrem (((75 : Int32) * x4) + (74 : Int32)) (65537 : Int32))), (0, .ref q0), (2, .int x2), (3, .int x3), (5, .int x5)]) h (by decide) rfl dX9_book_60 rfl ?_
        refine g_iload (np := 64) h 0 rfl dX9_book_62 rfl ?_
        refine g_bipush (np := 66) (v := (8 : Int32)) h (by decide) dX9_book_64 rfl ?_
        refine g_irem (np := 67) h (by decide) dX9_book_66 rfl ?_
        refine g_top hF (fun t3002 et3002 hF => ?_)
        refine g_istore (np := 69) (lv' := [(6, .int t3002), (4, .int (jrem (((75 : Int32) * x4) + (74 : Int32)) (65537 : Int32))), (0, .ref q0), (2, .int x2), (3, .int x3), (5, .int x5)]) h (by decide) rfl dX9_book_67 rfl ?_
        refine g_iload (np := 71) h 1 rfl dX9_book_69 rfl ?_
        refine g_bipush (np := 73) (v := (8 : Int32)) h (by decide) dX9_book_71 rfl ?_
        refine g_idiv (np := 74) h (by decide) dX9_book_73 rfl ?_
        refine g_top hF (fun t3003 et3003 hF => ?_)
        refine g_bipush (np := 76) (v := (10 : Int32)) h (by decide) dX9_book_74 rfl ?_
        refine g_irem (np := 77) h (by decide) dX9_book_76 rfl ?_
        refine g_istore (np := 79) (lv' := [(7, .int (jrem t3003 (10 : Int32))), (6, .int t3002), (4, .int (jrem (((75 : Int32) * x4) + (74 : Int32)) (65537 : Int32))), (0, .ref q0), (2, .int x2), (3, .int x3), (5, .int x5)]) h (by decide) rfl dX9_book_77 rfl ?_
        refine g_iload (np := 81) h 2 rfl dX9_book_79 rfl ?_
        refine g_bipush (np := 83) (v := (8 : Int32)) h (by decide) dX9_book_81 rfl ?_
        refine g_idiv (np := 84) h (by decide) dX9_book_83 rfl ?_
        refine g_top hF (fun t3004 et3004 hF => ?_)
        refine g_bipush (np := 86) (v := (8 : Int32)) h (by decide) dX9_book_84 rfl ?_
        refine g_irem (np := 87) h (by decide) dX9_book_86 rfl ?_
        refine g_istore (np := 89) (lv' := [(8, .int (jrem t3004 (8 : Int32))), (7, .int (jrem t3003 (10 : Int32))), (6, .int t3002), (4, .int (jrem (((75 : Int32) * x4) + (74 : Int32)) (65537 : Int32))), (0, .ref q0), (2, .int x2), (3, .int x3), (5, .int x5)]) h (by decide) rfl dX9_book_87 rfl ?_
        refine g_iload (np := 91) h 3 rfl dX9_book_89 rfl ?_
        refine g_bipush (np := 93) (v := (64 : Int32)) h (by decide) dX9_book_91 rfl ?_
        refine g_idiv (np := 94) h (by decide) dX9_book_93 rfl ?_
        refine g_top hF (fun t3005 et3005 hF => ?_)
        refine g_bipush (np := 96) (v := (8 : Int32)) h (by decide) dX9_book_94 rfl ?_
        refine g_irem (np := 97) h (by decide) dX9_book_96 rfl ?_
        refine g_istore (np := 99) (lv' := [(9, .int (jrem t3005 (8 : Int32))), (8, .int (jrem t3004 (8 : Int32))), (7, .int (jrem t3003 (10 : Int32))), (6, .int t3002), (4, .int (jrem (((75 : Int32) * x4) + (74 : Int32)) (65537 : Int32))), (0, .ref q0), (2, .int x2), (3, .int x3), (5, .int x5)]) h (by decide) rfl dX9_book_97 rfl ?_
        refine g_iload (np := 101) h 3 rfl dX9_book_99 rfl ?_
        refine g_iconst (np := 102) (v := (2 : Int32)) h (by decide) dX9_book_101 rfl ?_
        refine g_icmp_ge h hF dX9_book_102 (np := 105) rfl (tg := 114) rfl (fun c3006 hF => ?_) (fun c3006 hF => ?_)
        · refine g_iload (np := 116) h 3 rfl dX9_book_114 rfl ?_
          refine g_iconst (np := 117) (v := (4 : Int32)) h (by decide) dX9_book_116 rfl ?_
          refine g_icmp_ge h hF dX9_book_117 (np := 120) rfl (tg := 131) rfl (fun c3007 hF => ?_) (fun c3007 hF => ?_)
          · refine g_iload (np := 133) h 3 rfl dX9_book_131 rfl ?_
            refine g_iconst (np := 134) (v := (4 : Int32)) h (by decide) dX9_book_133 rfl ?_
            refine g_icmp_ne h hF dX9_book_134 (np := 137) rfl (tg := 148) rfl (fun c3008 hF => ?_) (fun c3008 hF => ?_)
            · refine g_iload (np := 150) h 3 rfl dX9_book_148 rfl ?_
              refine g_iconst (np := 151) (v := (5 : Int32)) h (by decide) dX9_book_150 rfl ?_
              refine g_icmp_ne h hF dX9_book_151 (np := 154) rfl (tg := 163) rfl (fun c3009 hF => ?_) (fun c3009 hF => ?_)
              · refine g_iload (np := 165) h 3 rfl dX9_book_163 rfl ?_
                refine g_bipush (np := 167) (v := (6 : Int32)) h (by decide) dX9_book_165 rfl ?_
                refine g_icmp_ne h hF dX9_book_167 (np := 170) rfl (tg := 179) rfl (fun c3010 hF => ?_) (fun c3010 hF => ?_)
                · refine g_aload_n (np := 180) h 5 rfl rfl dX9_book_179 rfl ?_
                  obtain ⟨r3011, hr3011, hF⟩ := Option.bind_eq_some_iff.mp hF
                  refine g_callV (np := 183) (Wd' := (wdX9_book cI cZ q0 q1 q2 q3 d4 d5 d6 d7 d8 d9 d10 v_weddings v_book r3011.2 v_of v_sights v_signs v_reason v_acts)) (As := []) h (mX9_endYear l D cI cZ q0 q2 q1 q3 d4 d5 d6 d7 d8 d9 d10 v_now v_sights v_signs v_weddings v_reason v_acts r3011 hr3011) gcX9_book_X9_endYear rfl ⟨rfl, rfl⟩ ⟨rfl, hyX9_endYear⟩ rfl 9 0 rfl rfl rfl rfl rfl rfl ⟨Nat.zero_le _, Nat.zero_le _⟩ [0, 2] [1, 3] (N := 4) (by decide +kernel) rfl rfl rfl rfl rfl dX9_book_180 rfl ?_
                  refine g_istore (np := 185) (lv' := [(10, .int r3011.1), (9, .int (jrem t3005 (8 : Int32))), (8, .int (jrem t3004 (8 : Int32))), (7, .int (jrem t3003 (10 : Int32))), (6, .int t3002), (4, .int (jrem (((75 : Int32) * x4) + (74 : Int32)) (65537 : Int32))), (0, .ref q0), (2, .int x2), (3, .int x3), (5, .int x5)]) h (by decide) rfl dX9_book_183 rfl ?_
                  refine g_iinc (np := 188) (v := (x5 + (1 : Int32))) (lv' := [(5, .int (x5 + (1 : Int32))), (10, .int r3011.1), (9, .int (jrem t3005 (8 : Int32))), (8, .int (jrem t3004 (8 : Int32))), (7, .int (jrem t3003 (10 : Int32))), (6, .int t3002), (4, .int (jrem (((75 : Int32) * x4) + (74 : Int32)) (65537 : Int32))), (0, .ref q0), (2, .int x2), (3, .int x3)]) h 9 rfl rfl (by decide) rfl dX9_book_185 rfl ?_
                  refine g_goto h dX9_book_188 (np := 43) rfl ?_
                  refine g_lv [7, 8, 9, 6, 0] rfl ?_
                  exact ih43 v_weddings r3011.2 (jrem (((75 : Int32) * x4) + (74 : Int32)) (65537 : Int32)) (x5 + (1 : Int32)) hF
                · refine g_aload_n (np := 171) h 5 rfl rfl dX9_book_170 rfl ?_
                  refine g_iload (np := 173) h 1 rfl dX9_book_171 rfl ?_
                  obtain ⟨r3012, hr3012, hF⟩ := Option.bind_eq_some_iff.mp hF
                  refine g_callV (np := 176) (Wd' := (wdX9_book cI cZ q0 q1 q2 q3 d4 d5 d6 d7 d8 d9 d10 v_weddings v_book r3012.2 v_of v_sights v_signs v_reason v_acts)) (As := [.int (jrem t3004 (8 : Int32))]) h (mX9_burn l D cI cZ q0 q2 q1 q3 d4 d5 d6 d7 d8 d9 d10 v_now v_sights v_signs v_weddings v_reason v_acts (jrem t3004 (8 : Int32)) r3012 hr3012) gcX9_book_X9_burn rfl ⟨rfl, rfl⟩ ⟨rfl, hyX9_burn⟩ rfl 9 0 rfl rfl rfl rfl rfl rfl ⟨Nat.zero_le _, Nat.zero_le _⟩ [0, 2] [1, 3] (N := 4) (by decide +kernel) rfl rfl rfl rfl rfl dX9_book_173 rfl ?_
                  refine g_goto h dX9_book_176 (np := 183) rfl ?_
                  refine g_istore (np := 185) (lv' := [(10, .int r3012.1), (9, .int (jrem t3005 (8 : Int32))), (8, .int (jrem t3004 (8 : Int32))), (7, .int (jrem t3003 (10 : Int32))), (6, .int t3002), (4, .int (jrem (((75 : Int32) * x4) + (74 : Int32)) (65537 : Int32))), (0, .ref q0), (2, .int x2), (3, .int x3), (5, .int x5)]) h (by decide) rfl dX9_book_183 rfl ?_
                  refine g_iinc (np := 188) (v := (x5 + (1 : Int32))) (lv' := [(5, .int (x5 + (1 : Int32))), (10, .int r3012.1), (9, .int (jrem t3005 (8 : Int32))), (8, .int (jrem t3004 (8 : Int32))), (7, .int (jrem t3003 (10 : Int32))), (6, .int t3002), (4, .int (jrem (((75 : Int32) * x4) + (74 : Int32)) (65537 : Int32))), (0, .ref q0), (2, .int x2), (3, .int x3)]) h 9 rfl rfl (by decide) rfl dX9_book_185 rfl ?_
                  refine g_goto h dX9_book_188 (np := 43) rfl ?_
                  refine g_lv [7, 8, 9, 6, 0] rfl ?_
                  exact ih43 v_weddings r3012.2 (jrem (((75 : Int32) * x4) + (74 : Int32)) (65537 : Int32)) (x5 + (1 : Int32)) hF
              · refine g_aload_n (np := 155) h 5 rfl rfl dX9_book_154 rfl ?_
                refine g_iload (np := 157) h 1 rfl dX9_book_155 rfl ?_
                obtain ⟨r3013, hr3013, hF⟩ := Option.bind_eq_some_iff.mp hF
                refine g_callV (np := 160) (Wd' := (wdX9_book cI cZ q0 q1 q2 q3 d4 d5 d6 d7 d8 d9 d10 v_weddings v_book r3013.2 v_of v_sights v_signs v_reason v_acts)) (As := [.int (jrem t3004 (8 : Int32))]) h (mX9_part l D cI cZ q0 q2 q1 q3 d4 d5 d6 d7 d8 d9 d10 v_now v_sights v_signs v_weddings v_reason v_acts (jrem t3004 (8 : Int32)) r3013 hr3013) gcX9_book_X9_part rfl ⟨rfl, rfl⟩ ⟨rfl, hyX9_part⟩ rfl 9 0 rfl rfl rfl rfl rfl rfl ⟨Nat.zero_le _, Nat.zero_le _⟩ [0, 2] [1, 3] (N := 4) (by decide +kernel) rfl rfl rfl rfl rfl dX9_book_157 rfl ?_
                refine g_goto h dX9_book_160 (np := 183) rfl ?_
                refine g_istore (np := 185) (lv' := [(10, .int r3013.1), (9, .int (jrem t3005 (8 : Int32))), (8, .int (jrem t3004 (8 : Int32))), (7, .int (jrem t3003 (10 : Int32))), (6, .int t3002), (4, .int (jrem (((75 : Int32) * x4) + (74 : Int32)) (65537 : Int32))), (0, .ref q0), (2, .int x2), (3, .int x3), (5, .int x5)]) h (by decide) rfl dX9_book_183 rfl ?_
                refine g_iinc (np := 188) (v := (x5 + (1 : Int32))) (lv' := [(5, .int (x5 + (1 : Int32))), (10, .int r3013.1), (9, .int (jrem t3005 (8 : Int32))), (8, .int (jrem t3004 (8 : Int32))), (7, .int (jrem t3003 (10 : Int32))), (6, .int t3002), (4, .int (jrem (((75 : Int32) * x4) + (74 : Int32)) (65537 : Int32))), (0, .ref q0), (2, .int x2), (3, .int x3)]) h 9 rfl rfl (by decide) rfl dX9_book_185 rfl ?_
                refine g_goto h dX9_book_188 (np := 43) rfl ?_
                refine g_lv [7, 8, 9, 6, 0] rfl ?_
                exact ih43 v_weddings r3013.2 (jrem (((75 : Int32) * x4) + (74 : Int32)) (65537 : Int32)) (x5 + (1 : Int32)) hF
            · refine g_aload_n (np := 138) h 5 rfl rfl dX9_book_137 rfl ?_
              refine g_iload (np := 140) h 1 rfl dX9_book_138 rfl ?_
              refine g_iload (np := 142) h 0 rfl dX9_book_140 rfl ?_
              obtain ⟨r3014, hr3014, hF⟩ := Option.bind_eq_some_iff.mp hF
              refine g_callV (np := 145) (Wd' := (wdX9_book cI cZ q0 q1 q2 q3 d4 d5 d6 d7 d8 d9 d10 r3014.2.1 v_book r3014.2.2 v_of v_sights v_signs v_reason v_acts)) (As := [.int (jrem t3004 (8 : Int32)), .int (jrem t3005 (8 : Int32))]) h (mX9_wed l D cI cZ q0 q2 q3 q1 d4 d5 d6 d7 d8 d9 d10 v_weddings v_now v_of v_sights v_signs v_reason v_acts (jrem t3004 (8 : Int32)) (jrem t3005 (8 : Int32)) r3014 hr3014) gcX9_book_X9_wed rfl ⟨rfl, rfl⟩ ⟨rfl, hyX9_wed⟩ rfl 9 0 rfl rfl rfl rfl rfl rfl ⟨Nat.zero_le _, Nat.zero_le _⟩ [0, 2, 3] [1] (N := 4) (by decide +kernel) rfl rfl rfl rfl rfl dX9_book_142 rfl ?_
              refine g_goto h dX9_book_145 (np := 183) rfl ?_
              refine g_istore (np := 185) (lv' := [(10, .int r3014.1), (9, .int (jrem t3005 (8 : Int32))), (8, .int (jrem t3004 (8 : Int32))), (7, .int (jrem t3003 (10 : Int32))), (6, .int t3002), (4, .int (jrem (((75 : Int32) * x4) + (74 : Int32)) (65537 : Int32))), (0, .ref q0), (2, .int x2), (3, .int x3), (5, .int x5)]) h (by decide) rfl dX9_book_183 rfl ?_
              refine g_iinc (np := 188) (v := (x5 + (1 : Int32))) (lv' := [(5, .int (x5 + (1 : Int32))), (10, .int r3014.1), (9, .int (jrem t3005 (8 : Int32))), (8, .int (jrem t3004 (8 : Int32))), (7, .int (jrem t3003 (10 : Int32))), (6, .int t3002), (4, .int (jrem (((75 : Int32) * x4) + (74 : Int32)) (65537 : Int32))), (0, .ref q0), (2, .int x2), (3, .int x3)]) h 9 rfl rfl (by decide) rfl dX9_book_185 rfl ?_
              refine g_goto h dX9_book_188 (np := 43) rfl ?_
              refine g_lv [7, 8, 9, 6, 0] rfl ?_
              exact ih43 r3014.2.1 r3014.2.2 (jrem (((75 : Int32) * x4) + (74 : Int32)) (65537 : Int32)) (x5 + (1 : Int32)) hF
          · refine g_aload_n (np := 121) h 5 rfl rfl dX9_book_120 rfl ?_
            refine g_iload (np := 123) h 0 rfl dX9_book_121 rfl ?_
            refine g_iload (np := 125) h 2 rfl dX9_book_123 rfl ?_
            obtain ⟨r3015, hr3015, hF⟩ := Option.bind_eq_some_iff.mp hF
            refine g_callV (np := 128) (Wd' := (wdX9_book cI cZ q0 q1 q2 q3 d4 d5 d6 d7 d8 d9 d10 v_weddings v_book r3015.2 v_of v_sights v_signs v_reason v_acts)) (As := [.int (jrem t3005 (8 : Int32)), .int (jrem t3003 (10 : Int32))]) h (mX9_take l D cI cZ q0 q2 q1 q3 d4 d5 d6 d7 d8 d9 d10 v_now v_sights v_signs v_weddings v_reason v_acts (jrem t3005 (8 : Int32)) (jrem t3003 (10 : Int32)) r3015 hr3015) gcX9_book_X9_take rfl ⟨rfl, rfl⟩ ⟨rfl, hyX9_take⟩ rfl 9 0 rfl rfl rfl rfl rfl rfl ⟨Nat.zero_le _, Nat.zero_le _⟩ [0, 2] [1, 3] (N := 4) (by decide +kernel) rfl rfl rfl rfl rfl dX9_book_125 rfl ?_
            refine g_goto h dX9_book_128 (np := 183) rfl ?_
            refine g_istore (np := 185) (lv' := [(10, .int r3015.1), (9, .int (jrem t3005 (8 : Int32))), (8, .int (jrem t3004 (8 : Int32))), (7, .int (jrem t3003 (10 : Int32))), (6, .int t3002), (4, .int (jrem (((75 : Int32) * x4) + (74 : Int32)) (65537 : Int32))), (0, .ref q0), (2, .int x2), (3, .int x3), (5, .int x5)]) h (by decide) rfl dX9_book_183 rfl ?_
            refine g_iinc (np := 188) (v := (x5 + (1 : Int32))) (lv' := [(5, .int (x5 + (1 : Int32))), (10, .int r3015.1), (9, .int (jrem t3005 (8 : Int32))), (8, .int (jrem t3004 (8 : Int32))), (7, .int (jrem t3003 (10 : Int32))), (6, .int t3002), (4, .int (jrem (((75 : Int32) * x4) + (74 : Int32)) (65537 : Int32))), (0, .ref q0), (2, .int x2), (3, .int x3)]) h 9 rfl rfl (by decide) rfl dX9_book_185 rfl ?_
            refine g_goto h dX9_book_188 (np := 43) rfl ?_
            refine g_lv [7, 8, 9, 6, 0] rfl ?_
            exact ih43 v_weddings r3015.2 (jrem (((75 : Int32) * x4) + (74 : Int32)) (65537 : Int32)) (x5 + (1 : Int32)) hF
        · refine g_aload_n (np := 106) h 5 rfl rfl dX9_book_105 rfl ?_
          refine g_iload (np := 108) h 2 rfl dX9_book_106 rfl ?_
          obtain ⟨r3016, hr3016, hF⟩ := Option.bind_eq_some_iff.mp hF
          refine g_callV (np := 111) (Wd' := (wdX9_book cI cZ q0 q1 q2 q3 d4 d5 d6 d7 d8 d9 d10 v_weddings v_book r3016.2 v_of v_sights v_signs v_reason v_acts)) (As := [.int (jrem t3003 (10 : Int32))]) h (mX9_comeIn l D cI cZ q0 q2 q1 q3 d4 d5 d6 d7 d8 d9 d10 v_now v_sights v_signs v_weddings v_reason v_acts (jrem t3003 (10 : Int32)) r3016 hr3016) gcX9_book_X9_comeIn rfl ⟨rfl, rfl⟩ ⟨rfl, hyX9_comeIn⟩ rfl 9 0 rfl rfl rfl rfl rfl rfl ⟨Nat.zero_le _, Nat.zero_le _⟩ [0, 2] [1, 3] (N := 4) (by decide +kernel) rfl rfl rfl rfl rfl dX9_book_108 rfl ?_
          refine g_goto h dX9_book_111 (np := 183) rfl ?_
          refine g_istore (np := 185) (lv' := [(10, .int r3016.1), (9, .int (jrem t3005 (8 : Int32))), (8, .int (jrem t3004 (8 : Int32))), (7, .int (jrem t3003 (10 : Int32))), (6, .int t3002), (4, .int (jrem (((75 : Int32) * x4) + (74 : Int32)) (65537 : Int32))), (0, .ref q0), (2, .int x2), (3, .int x3), (5, .int x5)]) h (by decide) rfl dX9_book_183 rfl ?_
          refine g_iinc (np := 188) (v := (x5 + (1 : Int32))) (lv' := [(5, .int (x5 + (1 : Int32))), (10, .int r3016.1), (9, .int (jrem t3005 (8 : Int32))), (8, .int (jrem t3004 (8 : Int32))), (7, .int (jrem t3003 (10 : Int32))), (6, .int t3002), (4, .int (jrem (((75 : Int32) * x4) + (74 : Int32)) (65537 : Int32))), (0, .ref q0), (2, .int x2), (3, .int x3)]) h 9 rfl rfl (by decide) rfl dX9_book_185 rfl ?_
          refine g_goto h dX9_book_188 (np := 43) rfl ?_
          refine g_lv [7, 8, 9, 6, 0] rfl ?_
          exact ih43 v_weddings r3016.2 (jrem (((75 : Int32) * x4) + (74 : Int32)) (65537 : Int32)) (x5 + (1 : Int32)) hF
  unfold fX9_book at hF
  refine g_iload_n (np := 1) h 1 rfl rfl dX9_book_0 rfl ?_
  refine g_iconst (np := 2) (v := (0 : Int32)) h (by decide) dX9_book_1 rfl ?_
  refine g_sipush (np := 5) (v := (9999 : Int32)) h (by decide) dX9_book_2 rfl ?_
  obtain ⟨r1, hr1, hF⟩ := Option.bind_eq_some_iff.mp hF
  refine g_callS (np := 8) (Wd' := (wdX9_book cI cZ q0 q1 q2 q3 d4 d5 d6 d7 d8 d9 d10 v_weddings v_book v_now v_of v_sights v_signs v_reason v_acts)) (As := [.int x1, .int (0 : Int32), .int (9999 : Int32)]) h (mX9_in l D cI cZ x1 (0 : Int32) (9999 : Int32) r1 hr1) gcX9_book_X9_in rfl ⟨rfl, rfl⟩ hyX9_in rfl rfl rfl rfl ⟨Nat.zero_le _, Nat.zero_le _⟩ [] [0, 1, 2, 3] (N := 4) (by decide +kernel) rfl rfl rfl rfl rfl dX9_book_5 rfl ?_
  refine g_if_eq h hF dX9_book_8 (np := 11) rfl (tg := 30) rfl (fun c2 hF => ?_) (fun c2 hF => ?_)
  · refine g_bipush (np := 32) (v := (-2 : Int32)) h (by decide) dX9_book_30 rfl ?_
    exact hend _ hF _ _ dX9_book_32
  · refine g_iload_n (np := 12) h 2 rfl rfl dX9_book_11 rfl ?_
    refine g_iconst (np := 13) (v := (1 : Int32)) h (by decide) dX9_book_12 rfl ?_
    refine g_bipush (np := 15) (v := (99 : Int32)) h (by decide) dX9_book_13 rfl ?_
    obtain ⟨r3, hr3, hF⟩ := Option.bind_eq_some_iff.mp hF
    refine g_callS (np := 18) (Wd' := (wdX9_book cI cZ q0 q1 q2 q3 d4 d5 d6 d7 d8 d9 d10 v_weddings v_book v_now v_of v_sights v_signs v_reason v_acts)) (As := [.int x2, .int (1 : Int32), .int (99 : Int32)]) h (mX9_in l D cI cZ x2 (1 : Int32) (99 : Int32) r3 hr3) gcX9_book_X9_in rfl ⟨rfl, rfl⟩ hyX9_in rfl rfl rfl rfl ⟨Nat.zero_le _, Nat.zero_le _⟩ [] [0, 1, 2, 3] (N := 4) (by decide +kernel) rfl rfl rfl rfl rfl dX9_book_15 rfl ?_
    refine g_if_eq h hF dX9_book_18 (np := 21) rfl (tg := 30) rfl (fun c4 hF => ?_) (fun c4 hF => ?_)
    · refine g_bipush (np := 32) (v := (-2 : Int32)) h (by decide) dX9_book_30 rfl ?_
      exact hend _ hF _ _ dX9_book_32
    · refine g_iload_n (np := 22) h 3 rfl rfl dX9_book_21 rfl ?_
      refine g_iconst (np := 23) (v := (0 : Int32)) h (by decide) dX9_book_22 rfl ?_
      refine g_iconst (np := 24) (v := (2 : Int32)) h (by decide) dX9_book_23 rfl ?_
      obtain ⟨r5, hr5, hF⟩ := Option.bind_eq_some_iff.mp hF
      refine g_callS (np := 27) (Wd' := (wdX9_book cI cZ q0 q1 q2 q3 d4 d5 d6 d7 d8 d9 d10 v_weddings v_book v_now v_of v_sights v_signs v_reason v_acts)) (As := [.int x3, .int (0 : Int32), .int (2 : Int32)]) h (mX9_in l D cI cZ x3 (0 : Int32) (2 : Int32) r5 hr5) gcX9_book_X9_in rfl ⟨rfl, rfl⟩ hyX9_in rfl rfl rfl rfl ⟨Nat.zero_le _, Nat.zero_le _⟩ [] [0, 1, 2, 3] (N := 4) (by decide +kernel) rfl rfl rfl rfl rfl dX9_book_24 rfl ?_
      refine g_if_ne h hF dX9_book_27 (np := 30) rfl (tg := 33) rfl (fun c6 hF => ?_) (fun c6 hF => ?_)
      · refine g_aload_n (np := 34) h 0 rfl rfl dX9_book_33 rfl ?_
        obtain ⟨r7, hr7, hF⟩ := Option.bind_eq_some_iff.mp hF
        refine g_callV (np := 37) (Wd' := (wdX9_book cI cZ q0 q1 q2 q3 d4 d5 d6 d7 d8 d9 d10 r7.1 v_book r7.2 v_of v_sights v_signs v_reason v_acts)) (As := []) h (mX9_asNow l D cI cZ q0 q1 q2 q3 d4 d5 d6 d7 d8 d9 d10 v_weddings v_book v_now v_sights v_signs v_reason v_acts r7 hr7) gcX9_book_X9_asNow rfl ⟨rfl, rfl⟩ ⟨rfl, hyX9_asNow⟩ rfl 9 0 rfl rfl rfl rfl rfl rfl ⟨Nat.zero_le _, Nat.zero_le _⟩ [0, 1, 2] [3] (N := 4) (by decide +kernel) rfl rfl rfl rfl rfl dX9_book_34 rfl ?_
        refine g_iload_n (np := 38) h 1 rfl rfl dX9_book_37 rfl ?_
        refine g_istore (np := 40) (lv' := [(4, .int x1), (0, .ref q0), (1, .int x1), (2, .int x2), (3, .int x3)]) h (by decide) rfl dX9_book_38 rfl ?_
        refine g_iconst (np := 41) (v := (0 : Int32)) h (by decide) dX9_book_40 rfl ?_
        refine g_istore (np := 43) (lv' := [(5, .int (0 : Int32)), (4, .int x1), (0, .ref q0), (1, .int x1), (2, .int x2), (3, .int x3)]) h (by decide) rfl dX9_book_41 rfl ?_
        refine g_lv [2, 4, 5, 1, 0] rfl ?_
        exact hL43 _ r7.1 r7.2 x1 (0 : Int32) hF
      · refine g_bipush (np := 32) (v := (-2 : Int32)) h (by decide) dX9_book_30 rfl ?_
        exact hend _ hF _ _ dX9_book_32
theorem dX9_image_0 : decode cX9_image 0 = .ok (.iload_n 1, 1) := by decide +kernel
theorem dX9_image_1 : decode cX9_image 1 = .ok (.iconst 0, 1) := by decide +kernel
theorem dX9_image_2 : decode cX9_image 2 = .ok (.iconst 1, 1) := by decide +kernel
theorem dX9_image_3 : decode cX9_image 3 = .ok (.invokestatic 41, 3) := by decide +kernel
theorem dX9_image_6 : decode cX9_image 6 = .ok (.ifCond .ne 6, 3) := by decide +kernel
theorem dX9_image_9 : decode cX9_image 9 = .ok (.bipush (-2), 2) := by decide +kernel
theorem dX9_image_11 : decode cX9_image 11 = .ok (.ireturn, 1) := by decide +kernel
theorem dX9_image_12 : decode cX9_image 12 = .ok (.sipush 130, 3) := by decide +kernel
theorem dX9_image_15 : decode cX9_image 15 = .ok (.iload_n 1, 1) := by decide +kernel
theorem dX9_image_16 : decode cX9_image 16 = .ok (.imul, 1) := by decide +kernel
theorem dX9_image_17 : decode cX9_image 17 = .ok (.istore_n 2, 1) := by decide +kernel
theorem dX9_image_18 : decode cX9_image 18 = .ok (.iconst 0, 1) := by decide +kernel
theorem dX9_image_19 : decode cX9_image 19 = .ok (.istore_n 3, 1) := by decide +kernel
theorem dX9_image_20 : decode cX9_image 20 = .ok (.iload_n 3, 1) := by decide +kernel
theorem dX9_image_21 : decode cX9_image 21 = .ok (.bipush 35, 2) := by decide +kernel
theorem dX9_image_23 : decode cX9_image 23 = .ok (.if_icmp .ge 23, 3) := by decide +kernel
theorem dX9_image_26 : decode cX9_image 26 = .ok (.aload_n 0, 1) := by decide +kernel
theorem dX9_image_27 : decode cX9_image 27 = .ok (.getfield 34, 3) := by decide +kernel
theorem dX9_image_30 : decode cX9_image 30 = .ok (.iload_n 2, 1) := by decide +kernel
theorem dX9_image_31 : decode cX9_image 31 = .ok (.iload_n 3, 1) := by decide +kernel
theorem dX9_image_32 : decode cX9_image 32 = .ok (.iadd, 1) := by decide +kernel
theorem dX9_image_33 : decode cX9_image 33 = .ok (.aload_n 0, 1) := by decide +kernel
theorem dX9_image_34 : decode cX9_image 34 = .ok (.getfield 7, 3) := by decide +kernel
theorem dX9_image_37 : decode cX9_image 37 = .ok (.iload_n 3, 1) := by decide +kernel
theorem dX9_image_38 : decode cX9_image 38 = .ok (.iaload, 1) := by decide +kernel
theorem dX9_image_39 : decode cX9_image 39 = .ok (.iastore, 1) := by decide +kernel
theorem dX9_image_40 : decode cX9_image 40 = .ok (.iinc 3 1, 3) := by decide +kernel
theorem dX9_image_43 : decode cX9_image 43 = .ok (.goto (-23), 3) := by decide +kernel
theorem dX9_image_46 : decode cX9_image 46 = .ok (.iconst 0, 1) := by decide +kernel
theorem dX9_image_47 : decode cX9_image 47 = .ok (.istore_n 3, 1) := by decide +kernel
theorem dX9_image_48 : decode cX9_image 48 = .ok (.iload_n 3, 1) := by decide +kernel
theorem dX9_image_49 : decode cX9_image 49 = .ok (.bipush 60, 2) := by decide +kernel
theorem dX9_image_51 : decode cX9_image 51 = .ok (.if_icmp .ge 26, 3) := by decide +kernel
theorem dX9_image_54 : decode cX9_image 54 = .ok (.aload_n 0, 1) := by decide +kernel
theorem dX9_image_55 : decode cX9_image 55 = .ok (.getfield 34, 3) := by decide +kernel
theorem dX9_image_58 : decode cX9_image 58 = .ok (.iload_n 2, 1) := by decide +kernel
theorem dX9_image_59 : decode cX9_image 59 = .ok (.bipush 35, 2) := by decide +kernel
theorem dX9_image_61 : decode cX9_image 61 = .ok (.iadd, 1) := by decide +kernel
theorem dX9_image_62 : decode cX9_image 62 = .ok (.iload_n 3, 1) := by decide +kernel
theorem dX9_image_63 : decode cX9_image 63 = .ok (.iadd, 1) := by decide +kernel
theorem dX9_image_64 : decode cX9_image 64 = .ok (.aload_n 0, 1) := by decide +kernel
theorem dX9_image_65 : decode cX9_image 65 = .ok (.getfield 16, 3) := by decide +kernel
theorem dX9_image_68 : decode cX9_image 68 = .ok (.iload_n 3, 1) := by decide +kernel
theorem dX9_image_69 : decode cX9_image 69 = .ok (.iaload, 1) := by decide +kernel
theorem dX9_image_70 : decode cX9_image 70 = .ok (.iastore, 1) := by decide +kernel
theorem dX9_image_71 : decode cX9_image 71 = .ok (.iinc 3 1, 3) := by decide +kernel
theorem dX9_image_74 : decode cX9_image 74 = .ok (.goto (-26), 3) := by decide +kernel
theorem dX9_image_77 : decode cX9_image 77 = .ok (.iconst 0, 1) := by decide +kernel
theorem dX9_image_78 : decode cX9_image 78 = .ok (.istore_n 3, 1) := by decide +kernel
theorem dX9_image_79 : decode cX9_image 79 = .ok (.iload_n 3, 1) := by decide +kernel
theorem dX9_image_80 : decode cX9_image 80 = .ok (.bipush 24, 2) := by decide +kernel
theorem dX9_image_82 : decode cX9_image 82 = .ok (.if_icmp .ge 26, 3) := by decide +kernel
theorem dX9_image_85 : decode cX9_image 85 = .ok (.aload_n 0, 1) := by decide +kernel
theorem dX9_image_86 : decode cX9_image 86 = .ok (.getfield 34, 3) := by decide +kernel
theorem dX9_image_89 : decode cX9_image 89 = .ok (.iload_n 2, 1) := by decide +kernel
theorem dX9_image_90 : decode cX9_image 90 = .ok (.bipush 95, 2) := by decide +kernel
theorem dX9_image_92 : decode cX9_image 92 = .ok (.iadd, 1) := by decide +kernel
theorem dX9_image_93 : decode cX9_image 93 = .ok (.iload_n 3, 1) := by decide +kernel
theorem dX9_image_94 : decode cX9_image 94 = .ok (.iadd, 1) := by decide +kernel
theorem dX9_image_95 : decode cX9_image 95 = .ok (.aload_n 0, 1) := by decide +kernel
theorem dX9_image_96 : decode cX9_image 96 = .ok (.getfield 19, 3) := by decide +kernel
theorem dX9_image_99 : decode cX9_image 99 = .ok (.iload_n 3, 1) := by decide +kernel
theorem dX9_image_100 : decode cX9_image 100 = .ok (.iaload, 1) := by decide +kernel
theorem dX9_image_101 : decode cX9_image 101 = .ok (.iastore, 1) := by decide +kernel
theorem dX9_image_102 : decode cX9_image 102 = .ok (.iinc 3 1, 3) := by decide +kernel
theorem dX9_image_105 : decode cX9_image 105 = .ok (.goto (-26), 3) := by decide +kernel
theorem dX9_image_108 : decode cX9_image 108 = .ok (.aload_n 0, 1) := by decide +kernel
theorem dX9_image_109 : decode cX9_image 109 = .ok (.getfield 34, 3) := by decide +kernel
theorem dX9_image_112 : decode cX9_image 112 = .ok (.iload_n 2, 1) := by decide +kernel
theorem dX9_image_113 : decode cX9_image 113 = .ok (.bipush 120, 2) := by decide +kernel
theorem dX9_image_115 : decode cX9_image 115 = .ok (.iadd, 1) := by decide +kernel
theorem dX9_image_116 : decode cX9_image 116 = .ok (.aload_n 0, 1) := by decide +kernel
theorem dX9_image_117 : decode cX9_image 117 = .ok (.getfield 132, 3) := by decide +kernel
theorem dX9_image_120 : decode cX9_image 120 = .ok (.iastore, 1) := by decide +kernel
theorem dX9_image_121 : decode cX9_image 121 = .ok (.aload_n 0, 1) := by decide +kernel
theorem dX9_image_122 : decode cX9_image 122 = .ok (.getfield 37, 3) := by decide +kernel
theorem dX9_image_125 : decode cX9_image 125 = .ok (.iload_n 1, 1) := by decide +kernel
theorem dX9_image_126 : decode cX9_image 126 = .ok (.iconst 1, 1) := by decide +kernel
theorem dX9_image_127 : decode cX9_image 127 = .ok (.bastore, 1) := by decide +kernel
theorem dX9_image_128 : decode cX9_image 128 = .ok (.iconst 1, 1) := by decide +kernel
theorem dX9_image_129 : decode cX9_image 129 = .ok (.ireturn, 1) := by decide +kernel
def wtX9_image : List Cond := .code yX9_image cX9_image 4 (some .int) :: (([.fieldLink RX9 34 "DriftKinModel" "image" "[I", .fieldLink RX9 7 "DriftKinModel" "book" "[I", .fieldLink RX9 16 "DriftKinModel" "of" "[I", .fieldLink RX9 19 "DriftKinModel" "sight" "[I", .fieldLink RX9 132 "DriftKinModel" "sights" "I", .fieldLink RX9 37 "DriftKinModel" "isKept" "[Z"]) ++ ((u_ws RX9 TX9 15) ++ ((va_wsS RX9 41 yX9_in wtX9_in) ++ [])))
theorem imX9_image_own : ∀ w ∈ ([.fieldLink RX9 34 "DriftKinModel" "image" "[I", .fieldLink RX9 7 "DriftKinModel" "book" "[I", .fieldLink RX9 16 "DriftKinModel" "of" "[I", .fieldLink RX9 19 "DriftKinModel" "sight" "[I", .fieldLink RX9 132 "DriftKinModel" "sights" "I", .fieldLink RX9 37 "DriftKinModel" "isKept" "[Z"] : List Cond), w ∈ wtX9_image := fun w h => List.mem_cons_of_mem _ (inl h)
theorem imX9_image_u_X9 : ∀ w ∈ (u_ws RX9 TX9 15 : List Cond), w ∈ wtX9_image := fun w h => List.mem_cons_of_mem _ (inr (inl h))
theorem imX9_image_c_X9_in : ∀ w ∈ (va_wsS RX9 41 yX9_in wtX9_in : List Cond), w ∈ wtX9_image := fun w h => List.mem_cons_of_mem _ (inr (inr (inl h)))
theorem gdX9_image : ∀ w ∈ wtX9_image, Gd w := gdc rfl (gda (gdl (by decide +kernel)) (gda (gdu _ _ _) (gda (gda (gdl (by decide +kernel)) gdX9_in) gdn)))
theorem gcX9_image_X9_in : GoodIn wtX9_image (va_wsS RX9 41 yX9_in wtX9_in) := fun w h => ⟨imX9_image_c_X9_in w h, (gda (gdl (by decide +kernel)) gdX9_in) w h⟩
def fX9_image_79 (v_sights : Int32) (v_sight : Nat → Int32) (v_isKept : Nat → Int32) (x1 : Int32) (x2 : Int32) : Nat → (Nat → Int32) → Int32 → Option (Int32 × (Nat → Int32) × (Nat → Int32))
  | 0, _, _ => none
  | n + 1, v_image, x3 =>
    if (24 : Int32) ≤ x3 then
      chk (x2 + (120 : Int32)) 260 (
        chk x1 2 (
          some ((1 : Int32), (wr v_image (x2 + (120 : Int32)) v_sights), (wr v_isKept x1 (vp_nar .boolean (1 : Int32))))))
    else
      chk x3 24 (
        chk ((x2 + (95 : Int32)) + x3) 260 (
          fX9_image_79 v_sights v_sight v_isKept x1 x2 n (wr v_image ((x2 + (95 : Int32)) + x3) (rd v_sight x3)) (x3 + (1 : Int32))))
def fX9_image_48 (v_sights : Int32) (v_of : Nat → Int32) (v_sight : Nat → Int32) (v_isKept : Nat → Int32) (x1 : Int32) (x2 : Int32) : Nat → (Nat → Int32) → Int32 → Option (Int32 × (Nat → Int32) × (Nat → Int32))
  | 0, _, _ => none
  | n + 1, v_image, x3 =>
    if (60 : Int32) ≤ x3 then
      fX9_image_79 v_sights v_sight v_isKept x1 x2 2000 v_image (0 : Int32)
    else
      chk x3 60 (
        chk ((x2 + (35 : Int32)) + x3) 260 (
          fX9_image_48 v_sights v_of v_sight v_isKept x1 x2 n (wr v_image ((x2 + (35 : Int32)) + x3) (rd v_of x3)) (x3 + (1 : Int32))))
def fX9_image_20 (v_sights : Int32) (v_book : Nat → Int32) (v_of : Nat → Int32) (v_sight : Nat → Int32) (v_isKept : Nat → Int32) (x1 : Int32) (x2 : Int32) : Nat → (Nat → Int32) → Int32 → Option (Int32 × (Nat → Int32) × (Nat → Int32))
  | 0, _, _ => none
  | n + 1, v_image, x3 =>
    if (35 : Int32) ≤ x3 then
      fX9_image_48 v_sights v_of v_sight v_isKept x1 x2 2000 v_image (0 : Int32)
    else
      chk x3 35 (
        chk (x2 + x3) 260 (
          fX9_image_20 v_sights v_book v_of v_sight v_isKept x1 x2 n (wr v_image (x2 + x3) (rd v_book x3)) (x3 + (1 : Int32))))
def fX9_image (v_sights : Int32) (v_book : Nat → Int32) (v_of : Nat → Int32) (v_sight : Nat → Int32) (v_image : Nat → Int32) (v_isKept : Nat → Int32) (x1 : Int32) : Option (Int32 × (Nat → Int32) × (Nat → Int32)) :=
  (fX9_in x1 (0 : Int32) (1 : Int32)).bind (fun r1 =>
    if r1 = (0 : Int32) then
      some ((-2 : Int32), v_image, v_isKept)
    else
      fX9_image_20 v_sights v_book v_of v_sight v_isKept x1 ((130 : Int32) * x1) 2000 v_image (0 : Int32))
def wdX9_image (cI cZ : ClassId) (q0 : Nat) (q1 : Nat) (q2 : Nat) (q3 : Nat) (q4 : Nat) (q5 : Nat) (d6 : Nat) (d7 : Nat) (d8 : Nat) (d9 : Nat) (d10 : Nat)  (v_sights : Int32) (v_book : Nat → Int32) (v_of : Nat → Int32) (v_sight : Nat → Int32) (v_image : Nat → Int32) (v_isKept : Nat → Int32) (v_signs : Int32) (v_weddings : Int32) (v_reason : Int32) (v_acts : Int32) : va_W := [(q0, .inr (9, [.ref q1, .ref d6, .ref q2, .int v_sights, .ref q3, .int v_signs, .ref d7, .int v_weddings, .int v_reason, .int v_acts, .ref d8, .ref d9, .ref d10, .ref q4, .ref q5])), (q1, .inl (cI, 35, .inl v_book)), (q2, .inl (cI, 60, .inl v_of)), (q3, .inl (cI, 24, .inl v_sight)), (q4, .inl (cI, 260, .inl v_image)), (q5, .inl (cZ, 2, .inl v_isKept))]
abbrev rmX9_image : Jvm.Room := { frames := 1, cells := 0, slots := 0, locals := 22 }
theorem hyX9_image : yX9_image.cls ≠ "java/lang/invoke/MethodHandle" ∧ yX9_image.cls ≠ "java/lang/invoke/VarHandle" ∧ (parseMethodDescriptor yX9_image.desc).map (fun d => d.parameters.length) = some 1 := by decide +kernel
set_option maxHeartbeats 4000000 in
set_option maxRecDepth 100000 in
theorem mX9_image (l : Launch) (D : va_G) (cI cZ : ClassId) (q0 : Nat) (q1 : Nat) (q2 : Nat) (q3 : Nat) (q4 : Nat) (q5 : Nat) (d6 : Nat) (d7 : Nat) (d8 : Nat) (d9 : Nat) (d10 : Nat) (v_sights : Int32) (v_book : Nat → Int32) (v_of : Nat → Int32) (v_sight : Nat → Int32) (v_image : Nat → Int32) (v_isKept : Nat → Int32) (v_signs : Int32) (v_weddings : Int32) (v_reason : Int32) (v_acts : Int32) (x1 : Int32) (z : Int32 × (Nat → Int32) × (Nat → Int32)) (hF : fX9_image v_sights v_book v_of v_sight v_image v_isKept x1 = some z) : mp l yX9_image wtX9_image rmX9_image D cI cZ [.ref q0, .int x1] (wdX9_image cI cZ q0 q1 q2 q3 q4 q5 d6 d7 d8 d9 d10 v_sights v_book v_of v_sight v_image v_isKept v_signs v_weddings v_reason v_acts) (some (.int z.1)) (wdX9_image cI cZ q0 q1 q2 q3 q4 q5 d6 d7 d8 d9 d10 v_sights v_book v_of v_sight z.2.1 z.2.2 v_signs v_weddings v_reason v_acts) := by
  refine mp_i (lv0 := [(0, .ref q0), (1, .int x1)]) cX9_image 4 z.1 (by decide) rfl (Nat.le_of_ble_eq_true rfl) rfl (fun E h hend0 => ?_)
  have hend : ∀ (z' : Int32 × (Nat → Int32) × (Nat → Int32)), some z' = some z → ∀ (pc : Nat) (lv : List (Nat × Value)), decode cX9_image pc = .ok (.ireturn, 1) → G l D E 4 0 0 (wdX9_image cI cZ q0 q1 q2 q3 q4 q5 d6 d7 d8 d9 d10 v_sights v_book v_of v_sight (z'.2.1) (z'.2.2) v_signs v_weddings v_reason v_acts) pc lv [.int z'.1] := fun z' e => by cases e; exact hend0
  clear hend0
  have hL79 : ∀ (n79 : Nat) (v_image : Nat → Int32) (v_isKept : Nat → Int32) (x2 : Int32) (x3 : Int32), fX9_image_79 v_sights v_sight v_isKept x1 x2 n79 v_image x3 = some z → G l D E 4 0 0 (wdX9_image cI cZ q0 q1 q2 q3 q4 q5 d6 d7 d8 d9 d10 v_sights v_book v_of v_sight v_image v_isKept v_signs v_weddings v_reason v_acts) 79 [(0, .ref q0), (1, .int x1), (2, .int x2), (3, .int x3)] [] := by
    intro n79
    induction n79 with
    | zero =>
      intro v_image v_isKept x2 x3 hF
      rw [fX9_image_79] at hF
      cases hF
    | succ n79 ih79 =>
      intro v_image v_isKept x2 x3 hF
      rw [fX9_image_79] at hF
      refine g_iload_n (np := 80) h 3 rfl rfl dX9_image_79 rfl ?_
      refine g_bipush (np := 82) (v := (24 : Int32)) h (by decide) dX9_image_80 rfl ?_
      refine g_icmp_ge h hF dX9_image_82 (np := 85) rfl (tg := 108) rfl (fun c1001 hF => ?_) (fun c1001 hF => ?_)
      · refine g_aload_n (np := 109) h 0 rfl rfl dX9_image_108 rfl ?_
        refine g_get (np := 112) (T := TX9) h imX9_image_u_X9 0 9 rfl rfl 13 (by decide) (imX9_image_own _ (List.mem_of_getElem? (i := 0) rfl)) rfl dX9_image_109 rfl ?_
        refine g_iload_n (np := 113) h 2 rfl rfl dX9_image_112 rfl ?_
        refine g_bipush (np := 115) (v := (120 : Int32)) h (by decide) dX9_image_113 rfl ?_
        refine g_iadd (np := 116) h dX9_image_115 rfl ?_
        refine g_aload_n (np := 117) h 0 rfl rfl dX9_image_116 rfl ?_
        refine g_get (np := 120) (T := TX9) h imX9_image_u_X9 0 9 rfl rfl 3 (by decide) (imX9_image_own _ (List.mem_of_getElem? (i := 4) rfl)) rfl dX9_image_117 rfl ?_
        refine g_iast (np := 121) (Wd' := (wdX9_image cI cZ q0 q1 q2 q3 q4 q5 d6 d7 d8 d9 d10 v_sights v_book v_of v_sight (wr v_image (x2 + (120 : Int32)) v_sights) v_isKept v_signs v_weddings v_reason v_acts)) h 4 rfl hF rfl dX9_image_120 rfl (fun hi1002 hF => ?_)
        refine g_aload_n (np := 122) h 0 rfl rfl dX9_image_121 rfl ?_
        refine g_get (np := 125) (T := TX9) h imX9_image_u_X9 0 9 rfl rfl 14 (by decide) (imX9_image_own _ (List.mem_of_getElem? (i := 5) rfl)) rfl dX9_image_122 rfl ?_
        refine g_iload_n (np := 126) h 1 rfl rfl dX9_image_125 rfl ?_
        refine g_iconst (np := 127) (v := (1 : Int32)) h (by decide) dX9_image_126 rfl ?_
        refine g_zast (np := 128) (Wd' := (wdX9_image cI cZ q0 q1 q2 q3 q4 q5 d6 d7 d8 d9 d10 v_sights v_book v_of v_sight (wr v_image (x2 + (120 : Int32)) v_sights) (wr v_isKept x1 (vp_nar .boolean (1 : Int32))) v_signs v_weddings v_reason v_acts)) h 5 rfl hF rfl dX9_image_127 rfl (fun hi1003 hF => ?_)
        refine g_iconst (np := 129) (v := (1 : Int32)) h (by decide) dX9_image_128 rfl ?_
        exact hend _ hF _ _ dX9_image_129
      · refine g_aload_n (np := 86) h 0 rfl rfl dX9_image_85 rfl ?_
        refine g_get (np := 89) (T := TX9) h imX9_image_u_X9 0 9 rfl rfl 13 (by decide) (imX9_image_own _ (List.mem_of_getElem? (i := 0) rfl)) rfl dX9_image_86 rfl ?_
        refine g_iload_n (np := 90) h 2 rfl rfl dX9_image_89 rfl ?_
        refine g_bipush (np := 92) (v := (95 : Int32)) h (by decide) dX9_image_90 rfl ?_
        refine g_iadd (np := 93) h dX9_image_92 rfl ?_
        refine g_iload_n (np := 94) h 3 rfl rfl dX9_image_93 rfl ?_
        refine g_iadd (np := 95) h dX9_image_94 rfl ?_
        refine g_aload_n (np := 96) h 0 rfl rfl dX9_image_95 rfl ?_
        refine g_get (np := 99) (T := TX9) h imX9_image_u_X9 0 9 rfl rfl 4 (by decide) (imX9_image_own _ (List.mem_of_getElem? (i := 3) rfl)) rfl dX9_image_96 rfl ?_
        refine g_iload_n (np := 100) h 3 rfl rfl dX9_image_99 rfl ?_
        refine g_iald (np := 101) h 3 rfl hF dX9_image_100 rfl (fun hi1004 hF => ?_)
        refine g_iast (np := 102) (Wd' := (wdX9_image cI cZ q0 q1 q2 q3 q4 q5 d6 d7 d8 d9 d10 v_sights v_book v_of v_sight (wr v_image ((x2 + (95 : Int32)) + x3) (rd v_sight x3)) v_isKept v_signs v_weddings v_reason v_acts)) h 4 rfl hF rfl dX9_image_101 rfl (fun hi1005 hF => ?_)
        refine g_iinc (np := 105) (v := (x3 + (1 : Int32))) (lv' := [(3, .int (x3 + (1 : Int32))), (0, .ref q0), (1, .int x1), (2, .int x2)]) h 3 rfl rfl (by decide) rfl dX9_image_102 rfl ?_
        refine g_goto h dX9_image_105 (np := 79) rfl ?_
        refine g_lv [1, 2, 3, 0] rfl ?_
        exact ih79 (wr v_image ((x2 + (95 : Int32)) + x3) (rd v_sight x3)) v_isKept x2 (x3 + (1 : Int32)) hF
  have hL48 : ∀ (n48 : Nat) (v_image : Nat → Int32) (v_isKept : Nat → Int32) (x2 : Int32) (x3 : Int32), fX9_image_48 v_sights v_of v_sight v_isKept x1 x2 n48 v_image x3 = some z → G l D E 4 0 0 (wdX9_image cI cZ q0 q1 q2 q3 q4 q5 d6 d7 d8 d9 d10 v_sights v_book v_of v_sight v_image v_isKept v_signs v_weddings v_reason v_acts) 48 [(0, .ref q0), (1, .int x1), (2, .int x2), (3, .int x3)] [] := by
    intro n48
    induction n48 with
    | zero =>
      intro v_image v_isKept x2 x3 hF
      rw [fX9_image_48] at hF
      cases hF
    | succ n48 ih48 =>
      intro v_image v_isKept x2 x3 hF
      rw [fX9_image_48] at hF
      refine g_iload_n (np := 49) h 3 rfl rfl dX9_image_48 rfl ?_
      refine g_bipush (np := 51) (v := (60 : Int32)) h (by decide) dX9_image_49 rfl ?_
      refine g_icmp_ge h hF dX9_image_51 (np := 54) rfl (tg := 77) rfl (fun c2001 hF => ?_) (fun c2001 hF => ?_)
      · refine g_iconst (np := 78) (v := (0 : Int32)) h (by decide) dX9_image_77 rfl ?_
        refine g_istore_n (np := 79) (lv' := [(3, .int (0 : Int32)), (0, .ref q0), (1, .int x1), (2, .int x2)]) h rfl (by decide) rfl dX9_image_78 rfl ?_
        refine g_lv [1, 2, 3, 0] rfl ?_
        exact hL79 _ v_image v_isKept x2 (0 : Int32) hF
      · refine g_aload_n (np := 55) h 0 rfl rfl dX9_image_54 rfl ?_
        refine g_get (np := 58) (T := TX9) h imX9_image_u_X9 0 9 rfl rfl 13 (by decide) (imX9_image_own _ (List.mem_of_getElem? (i := 0) rfl)) rfl dX9_image_55 rfl ?_
        refine g_iload_n (np := 59) h 2 rfl rfl dX9_image_58 rfl ?_
        refine g_bipush (np := 61) (v := (35 : Int32)) h (by decide) dX9_image_59 rfl ?_
        refine g_iadd (np := 62) h dX9_image_61 rfl ?_
        refine g_iload_n (np := 63) h 3 rfl rfl dX9_image_62 rfl ?_
        refine g_iadd (np := 64) h dX9_image_63 rfl ?_
        refine g_aload_n (np := 65) h 0 rfl rfl dX9_image_64 rfl ?_
        refine g_get (np := 68) (T := TX9) h imX9_image_u_X9 0 9 rfl rfl 2 (by decide) (imX9_image_own _ (List.mem_of_getElem? (i := 2) rfl)) rfl dX9_image_65 rfl ?_
        refine g_iload_n (np := 69) h 3 rfl rfl dX9_image_68 rfl ?_
        refine g_iald (np := 70) h 2 rfl hF dX9_image_69 rfl (fun hi2002 hF => ?_)
        refine g_iast (np := 71) (Wd' := (wdX9_image cI cZ q0 q1 q2 q3 q4 q5 d6 d7 d8 d9 d10 v_sights v_book v_of v_sight (wr v_image ((x2 + (35 : Int32)) + x3) (rd v_of x3)) v_isKept v_signs v_weddings v_reason v_acts)) h 4 rfl hF rfl dX9_image_70 rfl (fun hi2003 hF => ?_)
        refine g_iinc (np := 74) (v := (x3 + (1 : Int32))) (lv' := [(3, .int (x3 + (1 : Int32))), (0, .ref q0), (1, .int x1), (2, .int x2)]) h 3 rfl rfl (by decide) rfl dX9_image_71 rfl ?_
        refine g_goto h dX9_image_74 (np := 48) rfl ?_
        refine g_lv [1, 2, 3, 0] rfl ?_
        exact ih48 (wr v_image ((x2 + (35 : Int32)) + x3) (rd v_of x3)) v_isKept x2 (x3 + (1 : Int32)) hF
  have hL20 : ∀ (n20 : Nat) (v_image : Nat → Int32) (v_isKept : Nat → Int32) (x2 : Int32) (x3 : Int32), fX9_image_20 v_sights v_book v_of v_sight v_isKept x1 x2 n20 v_image x3 = some z → G l D E 4 0 0 (wdX9_image cI cZ q0 q1 q2 q3 q4 q5 d6 d7 d8 d9 d10 v_sights v_book v_of v_sight v_image v_isKept v_signs v_weddings v_reason v_acts) 20 [(0, .ref q0), (1, .int x1), (2, .int x2), (3, .int x3)] [] := by
    intro n20
    induction n20 with
    | zero =>
      intro v_image v_isKept x2 x3 hF
      rw [fX9_image_20] at hF
      cases hF
    | succ n20 ih20 =>
      intro v_image v_isKept x2 x3 hF
      rw [fX9_image_20] at hF
      refine g_iload_n (np := 21) h 3 rfl rfl dX9_image_20 rfl ?_
      refine g_bipush (np := 23) (v := (35 : Int32)) h (by decide) dX9_image_21 rfl ?_
      refine g_icmp_ge h hF dX9_image_23 (np := 26) rfl (tg := 46) rfl (fun c3001 hF => ?_) (fun c3001 hF => ?_)
      · refine g_iconst (np := 47) (v := (0 : Int32)) h (by decide) dX9_image_46 rfl ?_
        refine g_istore_n (np := 48) (lv' := [(3, .int (0 : Int32)), (0, .ref q0), (1, .int x1), (2, .int x2)]) h rfl (by decide) rfl dX9_image_47 rfl ?_
        refine g_lv [1, 2, 3, 0] rfl ?_
        exact hL48 _ v_image v_isKept x2 (0 : Int32) hF
      · refine g_aload_n (np := 27) h 0 rfl rfl dX9_image_26 rfl ?_
        refine g_get (np := 30) (T := TX9) h imX9_image_u_X9 0 9 rfl rfl 13 (by decide) (imX9_image_own _ (List.mem_of_getElem? (i := 0) rfl)) rfl dX9_image_27 rfl ?_
        refine g_iload_n (np := 31) h 2 rfl rfl dX9_image_30 rfl ?_
        refine g_iload_n (np := 32) h 3 rfl rfl dX9_image_31 rfl ?_
        refine g_iadd (np := 33) h dX9_image_32 rfl ?_
        refine g_aload_n (np := 34) h 0 rfl rfl dX9_image_33 rfl ?_
        refine g_get (np := 37) (T := TX9) h imX9_image_u_X9 0 9 rfl rfl 0 (by decide) (imX9_image_own _ (List.mem_of_getElem? (i := 1) rfl)) rfl dX9_image_34 rfl ?_
        refine g_iload_n (np := 38) h 3 rfl rfl dX9_image_37 rfl ?_
        refine g_iald (np := 39) h 1 rfl hF dX9_image_38 rfl (fun hi3002 hF => ?_)
        refine g_iast (np := 40) (Wd' := (wdX9_image cI cZ q0 q1 q2 q3 q4 q5 d6 d7 d8 d9 d10 v_sights v_book v_of v_sight (wr v_image (x2 + x3) (rd v_book x3)) v_isKept v_signs v_weddings v_reason v_acts)) h 4 rfl hF rfl dX9_image_39 rfl (fun hi3003 hF => ?_)
        refine g_iinc (np := 43) (v := (x3 + (1 : Int32))) (lv' := [(3, .int (x3 + (1 : Int32))), (0, .ref q0), (1, .int x1), (2, .int x2)]) h 3 rfl rfl (by decide) rfl dX9_image_40 rfl ?_
        refine g_goto h dX9_image_43 (np := 20) rfl ?_
        refine g_lv [1, 2, 3, 0] rfl ?_
        exact ih20 (wr v_image (x2 + x3) (rd v_book x3)) v_isKept x2 (x3 + (1 : Int32)) hF
  unfold fX9_image at hF
  refine g_iload_n (np := 1) h 1 rfl rfl dX9_image_0 rfl ?_
  refine g_iconst (np := 2) (v := (0 : Int32)) h (by decide) dX9_image_1 rfl ?_
  refine g_iconst (np := 3) (v := (1 : Int32)) h (by decide) dX9_image_2 rfl ?_
  obtain ⟨r1, hr1, hF⟩ := Option.bind_eq_some_iff.mp hF
  refine g_callS (np := 6) (Wd' := (wdX9_image cI cZ q0 q1 q2 q3 q4 q5 d6 d7 d8 d9 d10 v_sights v_book v_of v_sight v_image v_isKept v_signs v_weddings v_reason v_acts)) (As := [.int x1, .int (0 : Int32), .int (1 : Int32)]) h (mX9_in l D cI cZ x1 (0 : Int32) (1 : Int32) r1 hr1) gcX9_image_X9_in rfl ⟨rfl, rfl⟩ hyX9_in rfl rfl rfl rfl ⟨Nat.zero_le _, Nat.zero_le _⟩ [] [0, 1, 2, 3, 4, 5] (N := 6) (by decide +kernel) rfl rfl rfl rfl rfl dX9_image_3 rfl ?_
  refine g_if_ne h hF dX9_image_6 (np := 9) rfl (tg := 12) rfl (fun c2 hF => ?_) (fun c2 hF => ?_)
  · refine g_sipush (np := 15) (v := (130 : Int32)) h (by decide) dX9_image_12 rfl ?_
    refine g_iload_n (np := 16) h 1 rfl rfl dX9_image_15 rfl ?_
    refine g_imul (np := 17) h dX9_image_16 rfl ?_
    refine g_istore_n (np := 18) (lv' := [(2, .int ((130 : Int32) * x1)), (0, .ref q0), (1, .int x1)]) h rfl (by decide) rfl dX9_image_17 rfl ?_
    refine g_iconst (np := 19) (v := (0 : Int32)) h (by decide) dX9_image_18 rfl ?_
    refine g_istore_n (np := 20) (lv' := [(3, .int (0 : Int32)), (2, .int ((130 : Int32) * x1)), (0, .ref q0), (1, .int x1)]) h rfl (by decide) rfl dX9_image_19 rfl ?_
    refine g_lv [2, 3, 1, 0] rfl ?_
    exact hL20 _ v_image v_isKept ((130 : Int32) * x1) (0 : Int32) hF
  · refine g_bipush (np := 11) (v := (-2 : Int32)) h (by decide) dX9_image_9 rfl ?_
    exact hend _ hF _ _ dX9_image_11
theorem dX9_restore_0 : decode cX9_restore 0 = .ok (.iload_n 1, 1) := by decide +kernel
theorem dX9_restore_1 : decode cX9_restore 1 = .ok (.iconst 0, 1) := by decide +kernel
theorem dX9_restore_2 : decode cX9_restore 2 = .ok (.iconst 1, 1) := by decide +kernel
theorem dX9_restore_3 : decode cX9_restore 3 = .ok (.invokestatic 41, 3) := by decide +kernel
theorem dX9_restore_6 : decode cX9_restore 6 = .ok (.ifCond .ne 6, 3) := by decide +kernel
theorem dX9_restore_9 : decode cX9_restore 9 = .ok (.bipush (-2), 2) := by decide +kernel
theorem dX9_restore_11 : decode cX9_restore 11 = .ok (.ireturn, 1) := by decide +kernel
theorem dX9_restore_12 : decode cX9_restore 12 = .ok (.aload_n 0, 1) := by decide +kernel
theorem dX9_restore_13 : decode cX9_restore 13 = .ok (.getfield 37, 3) := by decide +kernel
theorem dX9_restore_16 : decode cX9_restore 16 = .ok (.iload_n 1, 1) := by decide +kernel
theorem dX9_restore_17 : decode cX9_restore 17 = .ok (.baload, 1) := by decide +kernel
theorem dX9_restore_18 : decode cX9_restore 18 = .ok (.ifCond .ne 6, 3) := by decide +kernel
theorem dX9_restore_21 : decode cX9_restore 21 = .ok (.bipush (-3), 2) := by decide +kernel
theorem dX9_restore_23 : decode cX9_restore 23 = .ok (.ireturn, 1) := by decide +kernel
theorem dX9_restore_24 : decode cX9_restore 24 = .ok (.sipush 130, 3) := by decide +kernel
theorem dX9_restore_27 : decode cX9_restore 27 = .ok (.iload_n 1, 1) := by decide +kernel
theorem dX9_restore_28 : decode cX9_restore 28 = .ok (.imul, 1) := by decide +kernel
theorem dX9_restore_29 : decode cX9_restore 29 = .ok (.istore_n 2, 1) := by decide +kernel
theorem dX9_restore_30 : decode cX9_restore 30 = .ok (.iconst 0, 1) := by decide +kernel
theorem dX9_restore_31 : decode cX9_restore 31 = .ok (.istore_n 3, 1) := by decide +kernel
theorem dX9_restore_32 : decode cX9_restore 32 = .ok (.iload_n 3, 1) := by decide +kernel
theorem dX9_restore_33 : decode cX9_restore 33 = .ok (.bipush 35, 2) := by decide +kernel
theorem dX9_restore_35 : decode cX9_restore 35 = .ok (.if_icmp .ge 23, 3) := by decide +kernel
theorem dX9_restore_38 : decode cX9_restore 38 = .ok (.aload_n 0, 1) := by decide +kernel
theorem dX9_restore_39 : decode cX9_restore 39 = .ok (.getfield 7, 3) := by decide +kernel
theorem dX9_restore_42 : decode cX9_restore 42 = .ok (.iload_n 3, 1) := by decide +kernel
theorem dX9_restore_43 : decode cX9_restore 43 = .ok (.aload_n 0, 1) := by decide +kernel
theorem dX9_restore_44 : decode cX9_restore 44 = .ok (.getfield 34, 3) := by decide +kernel
theorem dX9_restore_47 : decode cX9_restore 47 = .ok (.iload_n 2, 1) := by decide +kernel
theorem dX9_restore_48 : decode cX9_restore 48 = .ok (.iload_n 3, 1) := by decide +kernel
theorem dX9_restore_49 : decode cX9_restore 49 = .ok (.iadd, 1) := by decide +kernel
theorem dX9_restore_50 : decode cX9_restore 50 = .ok (.iaload, 1) := by decide +kernel
theorem dX9_restore_51 : decode cX9_restore 51 = .ok (.iastore, 1) := by decide +kernel
theorem dX9_restore_52 : decode cX9_restore 52 = .ok (.iinc 3 1, 3) := by decide +kernel
theorem dX9_restore_55 : decode cX9_restore 55 = .ok (.goto (-23), 3) := by decide +kernel
theorem dX9_restore_58 : decode cX9_restore 58 = .ok (.iconst 0, 1) := by decide +kernel
theorem dX9_restore_59 : decode cX9_restore 59 = .ok (.istore_n 3, 1) := by decide +kernel
theorem dX9_restore_60 : decode cX9_restore 60 = .ok (.iload_n 3, 1) := by decide +kernel
theorem dX9_restore_61 : decode cX9_restore 61 = .ok (.bipush 60, 2) := by decide +kernel
theorem dX9_restore_63 : decode cX9_restore 63 = .ok (.if_icmp .ge 26, 3) := by decide +kernel
theorem dX9_restore_66 : decode cX9_restore 66 = .ok (.aload_n 0, 1) := by decide +kernel
theorem dX9_restore_67 : decode cX9_restore 67 = .ok (.getfield 16, 3) := by decide +kernel
theorem dX9_restore_70 : decode cX9_restore 70 = .ok (.iload_n 3, 1) := by decide +kernel
theorem dX9_restore_71 : decode cX9_restore 71 = .ok (.aload_n 0, 1) := by decide +kernel
theorem dX9_restore_72 : decode cX9_restore 72 = .ok (.getfield 34, 3) := by decide +kernel
theorem dX9_restore_75 : decode cX9_restore 75 = .ok (.iload_n 2, 1) := by decide +kernel
theorem dX9_restore_76 : decode cX9_restore 76 = .ok (.bipush 35, 2) := by decide +kernel
theorem dX9_restore_78 : decode cX9_restore 78 = .ok (.iadd, 1) := by decide +kernel
theorem dX9_restore_79 : decode cX9_restore 79 = .ok (.iload_n 3, 1) := by decide +kernel
theorem dX9_restore_80 : decode cX9_restore 80 = .ok (.iadd, 1) := by decide +kernel
theorem dX9_restore_81 : decode cX9_restore 81 = .ok (.iaload, 1) := by decide +kernel
theorem dX9_restore_82 : decode cX9_restore 82 = .ok (.iastore, 1) := by decide +kernel
theorem dX9_restore_83 : decode cX9_restore 83 = .ok (.iinc 3 1, 3) := by decide +kernel
theorem dX9_restore_86 : decode cX9_restore 86 = .ok (.goto (-26), 3) := by decide +kernel
theorem dX9_restore_89 : decode cX9_restore 89 = .ok (.iconst 0, 1) := by decide +kernel
theorem dX9_restore_90 : decode cX9_restore 90 = .ok (.istore_n 3, 1) := by decide +kernel
theorem dX9_restore_91 : decode cX9_restore 91 = .ok (.iload_n 3, 1) := by decide +kernel
theorem dX9_restore_92 : decode cX9_restore 92 = .ok (.bipush 24, 2) := by decide +kernel
theorem dX9_restore_94 : decode cX9_restore 94 = .ok (.if_icmp .ge 26, 3) := by decide +kernel
theorem dX9_restore_97 : decode cX9_restore 97 = .ok (.aload_n 0, 1) := by decide +kernel
theorem dX9_restore_98 : decode cX9_restore 98 = .ok (.getfield 19, 3) := by decide +kernel
theorem dX9_restore_101 : decode cX9_restore 101 = .ok (.iload_n 3, 1) := by decide +kernel
theorem dX9_restore_102 : decode cX9_restore 102 = .ok (.aload_n 0, 1) := by decide +kernel
theorem dX9_restore_103 : decode cX9_restore 103 = .ok (.getfield 34, 3) := by decide +kernel
theorem dX9_restore_106 : decode cX9_restore 106 = .ok (.iload_n 2, 1) := by decide +kernel
theorem dX9_restore_107 : decode cX9_restore 107 = .ok (.bipush 95, 2) := by decide +kernel
theorem dX9_restore_109 : decode cX9_restore 109 = .ok (.iadd, 1) := by decide +kernel
theorem dX9_restore_110 : decode cX9_restore 110 = .ok (.iload_n 3, 1) := by decide +kernel
theorem dX9_restore_111 : decode cX9_restore 111 = .ok (.iadd, 1) := by decide +kernel
theorem dX9_restore_112 : decode cX9_restore 112 = .ok (.iaload, 1) := by decide +kernel
theorem dX9_restore_113 : decode cX9_restore 113 = .ok (.iastore, 1) := by decide +kernel
theorem dX9_restore_114 : decode cX9_restore 114 = .ok (.iinc 3 1, 3) := by decide +kernel
theorem dX9_restore_117 : decode cX9_restore 117 = .ok (.goto (-26), 3) := by decide +kernel
theorem dX9_restore_120 : decode cX9_restore 120 = .ok (.aload_n 0, 1) := by decide +kernel
theorem dX9_restore_121 : decode cX9_restore 121 = .ok (.aload_n 0, 1) := by decide +kernel
theorem dX9_restore_122 : decode cX9_restore 122 = .ok (.getfield 34, 3) := by decide +kernel
theorem dX9_restore_125 : decode cX9_restore 125 = .ok (.iload_n 2, 1) := by decide +kernel
theorem dX9_restore_126 : decode cX9_restore 126 = .ok (.bipush 120, 2) := by decide +kernel
theorem dX9_restore_128 : decode cX9_restore 128 = .ok (.iadd, 1) := by decide +kernel
theorem dX9_restore_129 : decode cX9_restore 129 = .ok (.iaload, 1) := by decide +kernel
theorem dX9_restore_130 : decode cX9_restore 130 = .ok (.putfield 132, 3) := by decide +kernel
theorem dX9_restore_133 : decode cX9_restore 133 = .ok (.iconst 1, 1) := by decide +kernel
theorem dX9_restore_134 : decode cX9_restore 134 = .ok (.ireturn, 1) := by decide +kernel
def wtX9_restore : List Cond := .code yX9_restore cX9_restore 4 (some .int) :: (([.fieldLink RX9 37 "DriftKinModel" "isKept" "[Z", .fieldLink RX9 7 "DriftKinModel" "book" "[I", .fieldLink RX9 34 "DriftKinModel" "image" "[I", .fieldLink RX9 16 "DriftKinModel" "of" "[I", .fieldLink RX9 19 "DriftKinModel" "sight" "[I", .fieldLink RX9 132 "DriftKinModel" "sights" "I"]) ++ ((u_ws RX9 TX9 15) ++ ((va_wsS RX9 41 yX9_in wtX9_in) ++ [])))
theorem imX9_restore_own : ∀ w ∈ ([.fieldLink RX9 37 "DriftKinModel" "isKept" "[Z", .fieldLink RX9 7 "DriftKinModel" "book" "[I", .fieldLink RX9 34 "DriftKinModel" "image" "[I", .fieldLink RX9 16 "DriftKinModel" "of" "[I", .fieldLink RX9 19 "DriftKinModel" "sight" "[I", .fieldLink RX9 132 "DriftKinModel" "sights" "I"] : List Cond), w ∈ wtX9_restore := fun w h => List.mem_cons_of_mem _ (inl h)
theorem imX9_restore_u_X9 : ∀ w ∈ (u_ws RX9 TX9 15 : List Cond), w ∈ wtX9_restore := fun w h => List.mem_cons_of_mem _ (inr (inl h))
theorem imX9_restore_c_X9_in : ∀ w ∈ (va_wsS RX9 41 yX9_in wtX9_in : List Cond), w ∈ wtX9_restore := fun w h => List.mem_cons_of_mem _ (inr (inr (inl h)))
theorem gdX9_restore : ∀ w ∈ wtX9_restore, Gd w := gdc rfl (gda (gdl (by decide +kernel)) (gda (gdu _ _ _) (gda (gda (gdl (by decide +kernel)) gdX9_in) gdn)))
theorem gcX9_restore_X9_in : GoodIn wtX9_restore (va_wsS RX9 41 yX9_in wtX9_in) := fun w h => ⟨imX9_restore_c_X9_in w h, (gda (gdl (by decide +kernel)) gdX9_in) w h⟩
def fX9_restore_91 (v_sights : Int32) (v_book : Nat → Int32) (v_of : Nat → Int32) (v_image : Nat → Int32) (x2 : Int32) : Nat → (Nat → Int32) → Int32 → Option (Int32 × Int32 × (Nat → Int32) × (Nat → Int32) × (Nat → Int32))
  | 0, _, _ => none
  | n + 1, v_sight, x3 =>
    if (24 : Int32) ≤ x3 then
      chk (x2 + (120 : Int32)) 260 (
        some ((1 : Int32), (rd v_image (x2 + (120 : Int32))), v_book, v_of, v_sight))
    else
      chk ((x2 + (95 : Int32)) + x3) 260 (
        chk x3 24 (
          fX9_restore_91 v_sights v_book v_of v_image x2 n (wr v_sight x3 (rd v_image ((x2 + (95 : Int32)) + x3))) (x3 + (1 : Int32))))
def fX9_restore_60 (v_sights : Int32) (v_book : Nat → Int32) (v_sight : Nat → Int32) (v_image : Nat → Int32) (x2 : Int32) : Nat → (Nat → Int32) → Int32 → Option (Int32 × Int32 × (Nat → Int32) × (Nat → Int32) × (Nat → Int32))
  | 0, _, _ => none
  | n + 1, v_of, x3 =>
    if (60 : Int32) ≤ x3 then
      fX9_restore_91 v_sights v_book v_of v_image x2 2000 v_sight (0 : Int32)
    else
      chk ((x2 + (35 : Int32)) + x3) 260 (
        chk x3 60 (
          fX9_restore_60 v_sights v_book v_sight v_image x2 n (wr v_of x3 (rd v_image ((x2 + (35 : Int32)) + x3))) (x3 + (1 : Int32))))
def fX9_restore_32 (v_sights : Int32) (v_of : Nat → Int32) (v_sight : Nat → Int32) (v_image : Nat → Int32) (x2 : Int32) : Nat → (Nat → Int32) → Int32 → Option (Int32 × Int32 × (Nat → Int32) × (Nat → Int32) × (Nat → Int32))
  | 0, _, _ => none
  | n + 1, v_book, x3 =>
    if (35 : Int32) ≤ x3 then
      fX9_restore_60 v_sights v_book v_sight v_image x2 2000 v_of (0 : Int32)
    else
      chk (x2 + x3) 260 (
        chk x3 35 (
          fX9_restore_32 v_sights v_of v_sight v_image x2 n (wr v_book x3 (rd v_image (x2 + x3))) (x3 + (1 : Int32))))
def fX9_restore (v_sights : Int32) (v_book : Nat → Int32) (v_of : Nat → Int32) (v_sight : Nat → Int32) (v_image : Nat → Int32) (v_isKept : Nat → Int32) (x1 : Int32) : Option (Int32 × Int32 × (Nat → Int32) × (Nat → Int32) × (Nat → Int32)) :=
  (fX9_in x1 (0 : Int32) (1 : Int32)).bind (fun r1 =>
    if r1 = (0 : Int32) then
      some ((-2 : Int32), v_sights, v_book, v_of, v_sight)
    else
      chk x1 2 (
        if (rd v_isKept x1) = (0 : Int32) then
          some ((-3 : Int32), v_sights, v_book, v_of, v_sight)
        else
          fX9_restore_32 v_sights v_of v_sight v_image ((130 : Int32) * x1) 2000 v_book (0 : Int32)))
def wdX9_restore (cI cZ : ClassId) (q0 : Nat) (q1 : Nat) (q2 : Nat) (q3 : Nat) (q4 : Nat) (q5 : Nat) (d6 : Nat) (d7 : Nat) (d8 : Nat) (d9 : Nat) (d10 : Nat)  (v_sights : Int32) (v_book : Nat → Int32) (v_of : Nat → Int32) (v_sight : Nat → Int32) (v_image : Nat → Int32) (v_isKept : Nat → Int32) (v_signs : Int32) (v_weddings : Int32) (v_reason : Int32) (v_acts : Int32) : va_W := [(q0, .inr (9, [.ref q1, .ref d6, .ref q2, .int v_sights, .ref q3, .int v_signs, .ref d7, .int v_weddings, .int v_reason, .int v_acts, .ref d8, .ref d9, .ref d10, .ref q4, .ref q5])), (q1, .inl (cI, 35, .inl v_book)), (q2, .inl (cI, 60, .inl v_of)), (q3, .inl (cI, 24, .inl v_sight)), (q4, .inl (cI, 260, .inl v_image)), (q5, .inl (cZ, 2, .inl v_isKept))]
abbrev rmX9_restore : Jvm.Room := { frames := 1, cells := 0, slots := 0, locals := 22 }
theorem hyX9_restore : yX9_restore.cls ≠ "java/lang/invoke/MethodHandle" ∧ yX9_restore.cls ≠ "java/lang/invoke/VarHandle" ∧ (parseMethodDescriptor yX9_restore.desc).map (fun d => d.parameters.length) = some 1 := by decide +kernel
set_option maxHeartbeats 4000000 in
set_option maxRecDepth 100000 in
theorem mX9_restore (l : Launch) (D : va_G) (cI cZ : ClassId) (q0 : Nat) (q1 : Nat) (q2 : Nat) (q3 : Nat) (q4 : Nat) (q5 : Nat) (d6 : Nat) (d7 : Nat) (d8 : Nat) (d9 : Nat) (d10 : Nat) (v_sights : Int32) (v_book : Nat → Int32) (v_of : Nat → Int32) (v_sight : Nat → Int32) (v_image : Nat → Int32) (v_isKept : Nat → Int32) (v_signs : Int32) (v_weddings : Int32) (v_reason : Int32) (v_acts : Int32) (x1 : Int32) (z : Int32 × Int32 × (Nat → Int32) × (Nat → Int32) × (Nat → Int32)) (hF : fX9_restore v_sights v_book v_of v_sight v_image v_isKept x1 = some z) : mp l yX9_restore wtX9_restore rmX9_restore D cI cZ [.ref q0, .int x1] (wdX9_restore cI cZ q0 q1 q2 q3 q4 q5 d6 d7 d8 d9 d10 v_sights v_book v_of v_sight v_image v_isKept v_signs v_weddings v_reason v_acts) (some (.int z.1)) (wdX9_restore cI cZ q0 q1 q2 q3 q4 q5 d6 d7 d8 d9 d10 z.2.1 z.2.2.1 z.2.2.2.1 z.2.2.2.2 v_image v_isKept v_signs v_weddings v_reason v_acts) := by
  refine mp_i (lv0 := [(0, .ref q0), (1, .int x1)]) cX9_restore 4 z.1 (by decide) rfl (Nat.le_of_ble_eq_true rfl) rfl (fun E h hend0 => ?_)
  have hend : ∀ (z' : Int32 × Int32 × (Nat → Int32) × (Nat → Int32) × (Nat → Int32)), some z' = some z → ∀ (pc : Nat) (lv : List (Nat × Value)), decode cX9_restore pc = .ok (.ireturn, 1) → G l D E 4 0 0 (wdX9_restore cI cZ q0 q1 q2 q3 q4 q5 d6 d7 d8 d9 d10 (z'.2.1) (z'.2.2.1) (z'.2.2.2.1) (z'.2.2.2.2) v_image v_isKept v_signs v_weddings v_reason v_acts) pc lv [.int z'.1] := fun z' e => by cases e; exact hend0
  clear hend0
  have hL91 : ∀ (n91 : Nat) (v_sights : Int32) (v_book : Nat → Int32) (v_of : Nat → Int32) (v_sight : Nat → Int32) (x2 : Int32) (x3 : Int32), fX9_restore_91 v_sights v_book v_of v_image x2 n91 v_sight x3 = some z → G l D E 4 0 0 (wdX9_restore cI cZ q0 q1 q2 q3 q4 q5 d6 d7 d8 d9 d10 v_sights v_book v_of v_sight v_image v_isKept v_signs v_weddings v_reason v_acts) 91 [(0, .ref q0), (2, .int x2), (3, .int x3)] [] := by
    intro n91
    induction n91 with
    | zero =>
      intro v_sights v_book v_of v_sight x2 x3 hF
      rw [fX9_restore_91] at hF
      cases hF
    | succ n91 ih91 =>
      intro v_sights v_book v_of v_sight x2 x3 hF
      rw [fX9_restore_91] at hF
      refine g_iload_n (np := 92) h 2 rfl rfl dX9_restore_91 rfl ?_
      refine g_bipush (np := 94) (v := (24 : Int32)) h (by decide) dX9_restore_92 rfl ?_
      refine g_icmp_ge h hF dX9_restore_94 (np := 97) rfl (tg := 120) rfl (fun c1001 hF => ?_) (fun c1001 hF => ?_)
      · refine g_aload_n (np := 121) h 0 rfl rfl dX9_restore_120 rfl ?_
        refine g_aload_n (np := 122) h 0 rfl rfl dX9_restore_121 rfl ?_
        refine g_get (np := 125) (T := TX9) h imX9_restore_u_X9 0 9 rfl rfl 13 (by decide) (imX9_restore_own _ (List.mem_of_getElem? (i := 2) rfl)) rfl dX9_restore_122 rfl ?_
        refine g_iload_n (np := 126) h 1 rfl rfl dX9_restore_125 rfl ?_
        refine g_bipush (np := 128) (v := (120 : Int32)) h (by decide) dX9_restore_126 rfl ?_
        refine g_iadd (np := 129) h dX9_restore_128 rfl ?_
        refine g_iald (np := 130) h 4 rfl hF dX9_restore_129 rfl (fun hi1002 hF => ?_)
        refine g_put (np := 133) (T := TX9) (Wd' := (wdX9_restore cI cZ q0 q1 q2 q3 q4 q5 d6 d7 d8 d9 d10 (rd v_image (x2 + (120 : Int32))) v_book v_of v_sight v_image v_isKept v_signs v_weddings v_reason v_acts)) h imX9_restore_u_X9 tyX9_ok nmX9 0 9 rfl rfl 3 (by decide) (imX9_restore_own _ (List.mem_of_getElem? (i := 5) rfl)) rfl rfl rfl (Nat.le_of_ble_eq_true rfl) rfl dX9_restore_130 rfl ?_
        refine g_iconst (np := 134) (v := (1 : Int32)) h (by decide) dX9_restore_133 rfl ?_
        exact hend _ hF _ _ dX9_restore_134
      · refine g_aload_n (np := 98) h 0 rfl rfl dX9_restore_97 rfl ?_
        refine g_get (np := 101) (T := TX9) h imX9_restore_u_X9 0 9 rfl rfl 4 (by decide) (imX9_restore_own _ (List.mem_of_getElem? (i := 4) rfl)) rfl dX9_restore_98 rfl ?_
        refine g_iload_n (np := 102) h 2 rfl rfl dX9_restore_101 rfl ?_
        refine g_aload_n (np := 103) h 0 rfl rfl dX9_restore_102 rfl ?_
        refine g_get (np := 106) (T := TX9) h imX9_restore_u_X9 0 9 rfl rfl 13 (by decide) (imX9_restore_own _ (List.mem_of_getElem? (i := 2) rfl)) rfl dX9_restore_103 rfl ?_
        refine g_iload_n (np := 107) h 1 rfl rfl dX9_restore_106 rfl ?_
        refine g_bipush (np := 109) (v := (95 : Int32)) h (by decide) dX9_restore_107 rfl ?_
        refine g_iadd (np := 110) h dX9_restore_109 rfl ?_
        refine g_iload_n (np := 111) h 2 rfl rfl dX9_restore_110 rfl ?_
        refine g_iadd (np := 112) h dX9_restore_111 rfl ?_
        refine g_iald (np := 113) h 4 rfl hF dX9_restore_112 rfl (fun hi1003 hF => ?_)
        refine g_iast (np := 114) (Wd' := (wdX9_restore cI cZ q0 q1 q2 q3 q4 q5 d6 d7 d8 d9 d10 v_sights v_book v_of (wr v_sight x3 (rd v_image ((x2 + (95 : Int32)) + x3))) v_image v_isKept v_signs v_weddings v_reason v_acts)) h 3 rfl hF rfl dX9_restore_113 rfl (fun hi1004 hF => ?_)
        refine g_iinc (np := 117) (v := (x3 + (1 : Int32))) (lv' := [(3, .int (x3 + (1 : Int32))), (0, .ref q0), (2, .int x2)]) h 2 rfl rfl (by decide) rfl dX9_restore_114 rfl ?_
        refine g_goto h dX9_restore_117 (np := 91) rfl ?_
        refine g_lv [1, 2, 0] rfl ?_
        exact ih91 v_sights v_book v_of (wr v_sight x3 (rd v_image ((x2 + (95 : Int32)) + x3))) x2 (x3 + (1 : Int32)) hF
  have hL60 : ∀ (n60 : Nat) (v_sights : Int32) (v_book : Nat → Int32) (v_of : Nat → Int32) (v_sight : Nat → Int32) (x2 : Int32) (x3 : Int32), fX9_restore_60 v_sights v_book v_sight v_image x2 n60 v_of x3 = some z → G l D E 4 0 0 (wdX9_restore cI cZ q0 q1 q2 q3 q4 q5 d6 d7 d8 d9 d10 v_sights v_book v_of v_sight v_image v_isKept v_signs v_weddings v_reason v_acts) 60 [(0, .ref q0), (2, .int x2), (3, .int x3)] [] := by
    intro n60
    induction n60 with
    | zero =>
      intro v_sights v_book v_of v_sight x2 x3 hF
      rw [fX9_restore_60] at hF
      cases hF
    | succ n60 ih60 =>
      intro v_sights v_book v_of v_sight x2 x3 hF
      rw [fX9_restore_60] at hF
      refine g_iload_n (np := 61) h 2 rfl rfl dX9_restore_60 rfl ?_
      refine g_bipush (np := 63) (v := (60 : Int32)) h (by decide) dX9_restore_61 rfl ?_
      refine g_icmp_ge h hF dX9_restore_63 (np := 66) rfl (tg := 89) rfl (fun c2001 hF => ?_) (fun c2001 hF => ?_)
      · refine g_iconst (np := 90) (v := (0 : Int32)) h (by decide) dX9_restore_89 rfl ?_
        refine g_istore_n (np := 91) (lv' := [(3, .int (0 : Int32)), (0, .ref q0), (2, .int x2)]) h rfl (by decide) rfl dX9_restore_90 rfl ?_
        refine g_lv [1, 2, 0] rfl ?_
        exact hL91 _ v_sights v_book v_of v_sight x2 (0 : Int32) hF
      · refine g_aload_n (np := 67) h 0 rfl rfl dX9_restore_66 rfl ?_
        refine g_get (np := 70) (T := TX9) h imX9_restore_u_X9 0 9 rfl rfl 2 (by decide) (imX9_restore_own _ (List.mem_of_getElem? (i := 3) rfl)) rfl dX9_restore_67 rfl ?_
        refine g_iload_n (np := 71) h 2 rfl rfl dX9_restore_70 rfl ?_
        refine g_aload_n (np := 72) h 0 rfl rfl dX9_restore_71 rfl ?_
        refine g_get (np := 75) (T := TX9) h imX9_restore_u_X9 0 9 rfl rfl 13 (by decide) (imX9_restore_own _ (List.mem_of_getElem? (i := 2) rfl)) rfl dX9_restore_72 rfl ?_
        refine g_iload_n (np := 76) h 1 rfl rfl dX9_restore_75 rfl ?_
        refine g_bipush (np := 78) (v := (35 : Int32)) h (by decide) dX9_restore_76 rfl ?_
        refine g_iadd (np := 79) h dX9_restore_78 rfl ?_
        refine g_iload_n (np := 80) h 2 rfl rfl dX9_restore_79 rfl ?_
        refine g_iadd (np := 81) h dX9_restore_80 rfl ?_
        refine g_iald (np := 82) h 4 rfl hF dX9_restore_81 rfl (fun hi2002 hF => ?_)
        refine g_iast (np := 83) (Wd' := (wdX9_restore cI cZ q0 q1 q2 q3 q4 q5 d6 d7 d8 d9 d10 v_sights v_book (wr v_of x3 (rd v_image ((x2 + (35 : Int32)) + x3))) v_sight v_image v_isKept v_signs v_weddings v_reason v_acts)) h 2 rfl hF rfl dX9_restore_82 rfl (fun hi2003 hF => ?_)
        refine g_iinc (np := 86) (v := (x3 + (1 : Int32))) (lv' := [(3, .int (x3 + (1 : Int32))), (0, .ref q0), (2, .int x2)]) h 2 rfl rfl (by decide) rfl dX9_restore_83 rfl ?_
        refine g_goto h dX9_restore_86 (np := 60) rfl ?_
        refine g_lv [1, 2, 0] rfl ?_
        exact ih60 v_sights v_book (wr v_of x3 (rd v_image ((x2 + (35 : Int32)) + x3))) v_sight x2 (x3 + (1 : Int32)) hF
  have hL32 : ∀ (n32 : Nat) (v_sights : Int32) (v_book : Nat → Int32) (v_of : Nat → Int32) (v_sight : Nat → Int32) (x2 : Int32) (x3 : Int32), fX9_restore_32 v_sights v_of v_sight v_image x2 n32 v_book x3 = some z → G l D E 4 0 0 (wdX9_restore cI cZ q0 q1 q2 q3 q4 q5 d6 d7 d8 d9 d10 v_sights v_book v_of v_sight v_image v_isKept v_signs v_weddings v_reason v_acts) 32 [(0, .ref q0), (2, .int x2), (3, .int x3)] [] := by
    intro n32
    induction n32 with
    | zero =>
      intro v_sights v_book v_of v_sight x2 x3 hF
      rw [fX9_restore_32] at hF
      cases hF
    | succ n32 ih32 =>
      intro v_sights v_book v_of v_sight x2 x3 hF
      rw [fX9_restore_32] at hF
      refine g_iload_n (np := 33) h 2 rfl rfl dX9_restore_32 rfl ?_
      refine g_bipush (np := 35) (v := (35 : Int32)) h (by decide) dX9_restore_33 rfl ?_
      refine g_icmp_ge h hF dX9_restore_35 (np := 38) rfl (tg := 58) rfl (fun c3001 hF => ?_) (fun c3001 hF => ?_)
      · refine g_iconst (np := 59) (v := (0 : Int32)) h (by decide) dX9_restore_58 rfl ?_
        refine g_istore_n (np := 60) (lv' := [(3, .int (0 : Int32)), (0, .ref q0), (2, .int x2)]) h rfl (by decide) rfl dX9_restore_59 rfl ?_
        refine g_lv [1, 2, 0] rfl ?_
        exact hL60 _ v_sights v_book v_of v_sight x2 (0 : Int32) hF
      · refine g_aload_n (np := 39) h 0 rfl rfl dX9_restore_38 rfl ?_
        refine g_get (np := 42) (T := TX9) h imX9_restore_u_X9 0 9 rfl rfl 0 (by decide) (imX9_restore_own _ (List.mem_of_getElem? (i := 1) rfl)) rfl dX9_restore_39 rfl ?_
        refine g_iload_n (np := 43) h 2 rfl rfl dX9_restore_42 rfl ?_
        refine g_aload_n (np := 44) h 0 rfl rfl dX9_restore_43 rfl ?_
        refine g_get (np := 47) (T := TX9) h imX9_restore_u_X9 0 9 rfl rfl 13 (by decide) (imX9_restore_own _ (List.mem_of_getElem? (i := 2) rfl)) rfl dX9_restore_44 rfl ?_
        refine g_iload_n (np := 48) h 1 rfl rfl dX9_restore_47 rfl ?_
        refine g_iload_n (np := 49) h 2 rfl rfl dX9_restore_48 rfl ?_
        refine g_iadd (np := 50) h dX9_restore_49 rfl ?_
        refine g_iald (np := 51) h 4 rfl hF dX9_restore_50 rfl (fun hi3002 hF => ?_)
        refine g_iast (np := 52) (Wd' := (wdX9_restore cI cZ q0 q1 q2 q3 q4 q5 d6 d7 d8 d9 d10 v_sights (wr v_book x3 (rd v_image (x2 + x3))) v_of v_sight v_image v_isKept v_signs v_weddings v_reason v_acts)) h 1 rfl hF rfl dX9_restore_51 rfl (fun hi3003 hF => ?_)
        refine g_iinc (np := 55) (v := (x3 + (1 : Int32))) (lv' := [(3, .int (x3 + (1 : Int32))), (0, .ref q0), (2, .int x2)]) h 2 rfl rfl (by decide) rfl dX9_restore_52 rfl ?_
        refine g_goto h dX9_restore_55 (np := 32) rfl ?_
        refine g_lv [1, 2, 0] rfl ?_
        exact ih32 v_sights (wr v_book x3 (rd v_image (x2 + x3))) v_of v_sight x2 (x3 + (1 : Int32)) hF
  unfold fX9_restore at hF
  refine g_iload_n (np := 1) h 1 rfl rfl dX9_restore_0 rfl ?_
  refine g_iconst (np := 2) (v := (0 : Int32)) h (by decide) dX9_restore_1 rfl ?_
  refine g_iconst (np := 3) (v := (1 : Int32)) h (by decide) dX9_restore_2 rfl ?_
  obtain ⟨r1, hr1, hF⟩ := Option.bind_eq_some_iff.mp hF
  refine g_callS (np := 6) (Wd' := (wdX9_restore cI cZ q0 q1 q2 q3 q4 q5 d6 d7 d8 d9 d10 v_sights v_book v_of v_sight v_image v_isKept v_signs v_weddings v_reason v_acts)) (As := [.int x1, .int (0 : Int32), .int (1 : Int32)]) h (mX9_in l D cI cZ x1 (0 : Int32) (1 : Int32) r1 hr1) gcX9_restore_X9_in rfl ⟨rfl, rfl⟩ hyX9_in rfl rfl rfl rfl ⟨Nat.zero_le _, Nat.zero_le _⟩ [] [0, 1, 2, 3, 4, 5] (N := 6) (by decide +kernel) rfl rfl rfl rfl rfl dX9_restore_3 rfl ?_
  refine g_if_ne h hF dX9_restore_6 (np := 9) rfl (tg := 12) rfl (fun c2 hF => ?_) (fun c2 hF => ?_)
  · refine g_aload_n (np := 13) h 0 rfl rfl dX9_restore_12 rfl ?_
    refine g_get (np := 16) (T := TX9) h imX9_restore_u_X9 0 9 rfl rfl 14 (by decide) (imX9_restore_own _ (List.mem_of_getElem? (i := 0) rfl)) rfl dX9_restore_13 rfl ?_
    refine g_iload_n (np := 17) h 1 rfl rfl dX9_restore_16 rfl ?_
    refine g_zald (np := 18) h 5 rfl hF dX9_restore_17 rfl (fun hi3 hF => ?_)
    refine g_if_ne h hF dX9_restore_18 (np := 21) rfl (tg := 24) rfl (fun c4 hF => ?_) (fun c4 hF => ?_)
    · refine g_sipush (np := 27) (v := (130 : Int32)) h (by decide) dX9_restore_24 rfl ?_
      refine g_iload_n (np := 28) h 1 rfl rfl dX9_restore_27 rfl ?_
      refine g_imul (np := 29) h dX9_restore_28 rfl ?_
      refine g_istore_n (np := 30) (lv' := [(2, .int ((130 : Int32) * x1)), (0, .ref q0), (1, .int x1)]) h rfl (by decide) rfl dX9_restore_29 rfl ?_
      refine g_iconst (np := 31) (v := (0 : Int32)) h (by decide) dX9_restore_30 rfl ?_
      refine g_istore_n (np := 32) (lv' := [(3, .int (0 : Int32)), (2, .int ((130 : Int32) * x1)), (0, .ref q0), (1, .int x1)]) h rfl (by decide) rfl dX9_restore_31 rfl ?_
      refine g_lv [2, 1, 0] rfl ?_
      exact hL32 _ v_sights v_book v_of v_sight ((130 : Int32) * x1) (0 : Int32) hF
    · refine g_bipush (np := 23) (v := (-3 : Int32)) h (by decide) dX9_restore_21 rfl ?_
      exact hend _ hF _ _ dX9_restore_23
  · refine g_bipush (np := 11) (v := (-2 : Int32)) h (by decide) dX9_restore_9 rfl ?_
    exact hend _ hF _ _ dX9_restore_11
theorem dX9_told_0 : decode cX9_told 0 = .ok (.iload_n 1, 1) := by decide +kernel
theorem dX9_told_1 : decode cX9_told 1 = .ok (.sipush 200, 3) := by decide +kernel
theorem dX9_told_4 : decode cX9_told 4 = .ok (.if_icmp .lt 49, 3) := by decide +kernel
theorem dX9_told_7 : decode cX9_told 7 = .ok (.iload_n 1, 1) := by decide +kernel
theorem dX9_told_8 : decode cX9_told 8 = .ok (.bipush 10, 2) := by decide +kernel
theorem dX9_told_10 : decode cX9_told 10 = .ok (.idiv, 1) := by decide +kernel
theorem dX9_told_11 : decode cX9_told 11 = .ok (.bipush 20, 2) := by decide +kernel
theorem dX9_told_13 : decode cX9_told 13 = .ok (.isub, 1) := by decide +kernel
theorem dX9_told_14 : decode cX9_told 14 = .ok (.istore_n 2, 1) := by decide +kernel
theorem dX9_told_15 : decode cX9_told 15 = .ok (.iload_n 2, 1) := by decide +kernel
theorem dX9_told_16 : decode cX9_told 16 = .ok (.invokestatic 106, 3) := by decide +kernel
theorem dX9_told_19 : decode cX9_told 19 = .ok (.ifCond .eq 31, 3) := by decide +kernel
theorem dX9_told_22 : decode cX9_told 22 = .ok (.iload_n 1, 1) := by decide +kernel
theorem dX9_told_23 : decode cX9_told 23 = .ok (.bipush 10, 2) := by decide +kernel
theorem dX9_told_25 : decode cX9_told 25 = .ok (.irem, 1) := by decide +kernel
theorem dX9_told_26 : decode cX9_told 26 = .ok (.iconst 3, 1) := by decide +kernel
theorem dX9_told_27 : decode cX9_told 27 = .ok (.if_icmp .ge 23, 3) := by decide +kernel
theorem dX9_told_30 : decode cX9_told 30 = .ok (.aload_n 0, 1) := by decide +kernel
theorem dX9_told_31 : decode cX9_told 31 = .ok (.getfield 7, 3) := by decide +kernel
theorem dX9_told_34 : decode cX9_told 34 = .ok (.bipush 10, 2) := by decide +kernel
theorem dX9_told_36 : decode cX9_told 36 = .ok (.bipush 8, 2) := by decide +kernel
theorem dX9_told_38 : decode cX9_told 38 = .ok (.iload_n 1, 1) := by decide +kernel
theorem dX9_told_39 : decode cX9_told 39 = .ok (.bipush 10, 2) := by decide +kernel
theorem dX9_told_41 : decode cX9_told 41 = .ok (.irem, 1) := by decide +kernel
theorem dX9_told_42 : decode cX9_told 42 = .ok (.imul, 1) := by decide +kernel
theorem dX9_told_43 : decode cX9_told 43 = .ok (.iadd, 1) := by decide +kernel
theorem dX9_told_44 : decode cX9_told 44 = .ok (.iload_n 2, 1) := by decide +kernel
theorem dX9_told_45 : decode cX9_told 45 = .ok (.iadd, 1) := by decide +kernel
theorem dX9_told_46 : decode cX9_told 46 = .ok (.iaload, 1) := by decide +kernel
theorem dX9_told_47 : decode cX9_told 47 = .ok (.goto 5, 3) := by decide +kernel
theorem dX9_told_50 : decode cX9_told 50 = .ok (.bipush (-2), 2) := by decide +kernel
theorem dX9_told_52 : decode cX9_told 52 = .ok (.ireturn, 1) := by decide +kernel
theorem dX9_told_53 : decode cX9_told 53 = .ok (.iload_n 1, 1) := by decide +kernel
theorem dX9_told_54 : decode cX9_told 54 = .ok (.bipush 10, 2) := by decide +kernel
theorem dX9_told_56 : decode cX9_told 56 = .ok (.if_icmp .lt 74, 3) := by decide +kernel
theorem dX9_told_59 : decode cX9_told 59 = .ok (.iload_n 1, 1) := by decide +kernel
theorem dX9_told_60 : decode cX9_told 60 = .ok (.bipush 10, 2) := by decide +kernel
theorem dX9_told_62 : decode cX9_told 62 = .ok (.idiv, 1) := by decide +kernel
theorem dX9_told_63 : decode cX9_told 63 = .ok (.iconst 1, 1) := by decide +kernel
theorem dX9_told_64 : decode cX9_told 64 = .ok (.isub, 1) := by decide +kernel
theorem dX9_told_65 : decode cX9_told 65 = .ok (.istore_n 2, 1) := by decide +kernel
theorem dX9_told_66 : decode cX9_told 66 = .ok (.iload_n 1, 1) := by decide +kernel
theorem dX9_told_67 : decode cX9_told 67 = .ok (.bipush 10, 2) := by decide +kernel
theorem dX9_told_69 : decode cX9_told 69 = .ok (.irem, 1) := by decide +kernel
theorem dX9_told_70 : decode cX9_told 70 = .ok (.istore_n 3, 1) := by decide +kernel
theorem dX9_told_71 : decode cX9_told 71 = .ok (.iload_n 2, 1) := by decide +kernel
theorem dX9_told_72 : decode cX9_told 72 = .ok (.invokestatic 45, 3) := by decide +kernel
theorem dX9_told_75 : decode cX9_told 75 = .ok (.ifCond .eq 9, 3) := by decide +kernel
theorem dX9_told_78 : decode cX9_told 78 = .ok (.iload_n 3, 1) := by decide +kernel
theorem dX9_told_79 : decode cX9_told 79 = .ok (.bipush 6, 2) := by decide +kernel
theorem dX9_told_81 : decode cX9_told 81 = .ok (.if_icmp .le 6, 3) := by decide +kernel
theorem dX9_told_84 : decode cX9_told 84 = .ok (.bipush (-2), 2) := by decide +kernel
theorem dX9_told_86 : decode cX9_told 86 = .ok (.ireturn, 1) := by decide +kernel
theorem dX9_told_87 : decode cX9_told 87 = .ok (.iload_n 3, 1) := by decide +kernel
theorem dX9_told_88 : decode cX9_told 88 = .ok (.iconst 5, 1) := by decide +kernel
theorem dX9_told_89 : decode cX9_told 89 = .ok (.if_icmp .ge 17, 3) := by decide +kernel
theorem dX9_told_92 : decode cX9_told 92 = .ok (.aload_n 0, 1) := by decide +kernel
theorem dX9_told_93 : decode cX9_told 93 = .ok (.getfield 16, 3) := by decide +kernel
theorem dX9_told_96 : decode cX9_told 96 = .ok (.bipush 10, 2) := by decide +kernel
theorem dX9_told_98 : decode cX9_told 98 = .ok (.iload_n 3, 1) := by decide +kernel
theorem dX9_told_99 : decode cX9_told 99 = .ok (.imul, 1) := by decide +kernel
theorem dX9_told_100 : decode cX9_told 100 = .ok (.iload_n 2, 1) := by decide +kernel
theorem dX9_told_101 : decode cX9_told 101 = .ok (.iadd, 1) := by decide +kernel
theorem dX9_told_102 : decode cX9_told 102 = .ok (.iaload, 1) := by decide +kernel
theorem dX9_told_103 : decode cX9_told 103 = .ok (.goto 26, 3) := by decide +kernel
theorem dX9_told_106 : decode cX9_told 106 = .ok (.iload_n 3, 1) := by decide +kernel
theorem dX9_told_107 : decode cX9_told 107 = .ok (.iconst 5, 1) := by decide +kernel
theorem dX9_told_108 : decode cX9_told 108 = .ok (.if_icmp .ne 12, 3) := by decide +kernel
theorem dX9_told_111 : decode cX9_told 111 = .ok (.aload_n 0, 1) := by decide +kernel
theorem dX9_told_112 : decode cX9_told 112 = .ok (.getfield 7, 3) := by decide +kernel
theorem dX9_told_115 : decode cX9_told 115 = .ok (.iload_n 2, 1) := by decide +kernel
theorem dX9_told_116 : decode cX9_told 116 = .ok (.iaload, 1) := by decide +kernel
theorem dX9_told_117 : decode cX9_told 117 = .ok (.goto 12, 3) := by decide +kernel
theorem dX9_told_120 : decode cX9_told 120 = .ok (.aload_n 0, 1) := by decide +kernel
theorem dX9_told_121 : decode cX9_told 121 = .ok (.getfield 16, 3) := by decide +kernel
theorem dX9_told_124 : decode cX9_told 124 = .ok (.bipush 50, 2) := by decide +kernel
theorem dX9_told_126 : decode cX9_told 126 = .ok (.iload_n 2, 1) := by decide +kernel
theorem dX9_told_127 : decode cX9_told 127 = .ok (.iadd, 1) := by decide +kernel
theorem dX9_told_128 : decode cX9_told 128 = .ok (.iaload, 1) := by decide +kernel
theorem dX9_told_129 : decode cX9_told 129 = .ok (.ireturn, 1) := by decide +kernel
theorem dX9_told_130 : decode cX9_told 130 = .ok (.iload_n 1, 1) := by decide +kernel
theorem dX9_told_131 : decode cX9_told 131 = .ok (.ifCond .ne 10, 3) := by decide +kernel
theorem dX9_told_134 : decode cX9_told 134 = .ok (.aload_n 0, 1) := by decide +kernel
theorem dX9_told_135 : decode cX9_told 135 = .ok (.getfield 50, 3) := by decide +kernel
theorem dX9_told_138 : decode cX9_told 138 = .ok (.goto 32, 3) := by decide +kernel
theorem dX9_told_141 : decode cX9_told 141 = .ok (.iload_n 1, 1) := by decide +kernel
theorem dX9_told_142 : decode cX9_told 142 = .ok (.iconst 1, 1) := by decide +kernel
theorem dX9_told_143 : decode cX9_told 143 = .ok (.if_icmp .ne 13, 3) := by decide +kernel
theorem dX9_told_146 : decode cX9_told 146 = .ok (.aload_n 0, 1) := by decide +kernel
theorem dX9_told_147 : decode cX9_told 147 = .ok (.getfield 7, 3) := by decide +kernel
theorem dX9_told_150 : decode cX9_told 150 = .ok (.bipush 34, 2) := by decide +kernel
theorem dX9_told_152 : decode cX9_told 152 = .ok (.iaload, 1) := by decide +kernel
theorem dX9_told_153 : decode cX9_told 153 = .ok (.goto 17, 3) := by decide +kernel
theorem dX9_told_156 : decode cX9_told 156 = .ok (.iload_n 1, 1) := by decide +kernel
theorem dX9_told_157 : decode cX9_told 157 = .ok (.iconst 2, 1) := by decide +kernel
theorem dX9_told_158 : decode cX9_told 158 = .ok (.if_icmp .ne 10, 3) := by decide +kernel
theorem dX9_told_161 : decode cX9_told 161 = .ok (.aload_n 0, 1) := by decide +kernel
theorem dX9_told_162 : decode cX9_told 162 = .ok (.getfield 132, 3) := by decide +kernel
theorem dX9_told_165 : decode cX9_told 165 = .ok (.goto 5, 3) := by decide +kernel
theorem dX9_told_168 : decode cX9_told 168 = .ok (.bipush (-2), 2) := by decide +kernel
theorem dX9_told_170 : decode cX9_told 170 = .ok (.ireturn, 1) := by decide +kernel
def wtX9_told : List Cond := .code yX9_told cX9_told 4 (some .int) :: (([.fieldLink RX9 7 "DriftKinModel" "book" "[I", .fieldLink RX9 16 "DriftKinModel" "of" "[I", .fieldLink RX9 50 "DriftKinModel" "signs" "I", .fieldLink RX9 132 "DriftKinModel" "sights" "I"]) ++ ((u_ws RX9 TX9 15) ++ ((va_wsS RX9 106 yX9_isHouse wtX9_isHouse) ++ ((va_wsS RX9 45 yX9_isPiece wtX9_isPiece) ++ []))))
theorem imX9_told_own : ∀ w ∈ ([.fieldLink RX9 7 "DriftKinModel" "book" "[I", .fieldLink RX9 16 "DriftKinModel" "of" "[I", .fieldLink RX9 50 "DriftKinModel" "signs" "I", .fieldLink RX9 132 "DriftKinModel" "sights" "I"] : List Cond), w ∈ wtX9_told := fun w h => List.mem_cons_of_mem _ (inl h)
theorem imX9_told_u_X9 : ∀ w ∈ (u_ws RX9 TX9 15 : List Cond), w ∈ wtX9_told := fun w h => List.mem_cons_of_mem _ (inr (inl h))
theorem imX9_told_c_X9_isHouse : ∀ w ∈ (va_wsS RX9 106 yX9_isHouse wtX9_isHouse : List Cond), w ∈ wtX9_told := fun w h => List.mem_cons_of_mem _ (inr (inr (inl h)))
theorem imX9_told_c_X9_isPiece : ∀ w ∈ (va_wsS RX9 45 yX9_isPiece wtX9_isPiece : List Cond), w ∈ wtX9_told := fun w h => List.mem_cons_of_mem _ (inr (inr (inr (inl h))))
theorem gdX9_told : ∀ w ∈ wtX9_told, Gd w := gdc rfl (gda (gdl (by decide +kernel)) (gda (gdu _ _ _) (gda (gda (gdl (by decide +kernel)) gdX9_isHouse) (gda (gda (gdl (by decide +kernel)) gdX9_isPiece) gdn))))
theorem gcX9_told_X9_isHouse : GoodIn wtX9_told (va_wsS RX9 106 yX9_isHouse wtX9_isHouse) := fun w h => ⟨imX9_told_c_X9_isHouse w h, (gda (gdl (by decide +kernel)) gdX9_isHouse) w h⟩
theorem gcX9_told_X9_isPiece : GoodIn wtX9_told (va_wsS RX9 45 yX9_isPiece wtX9_isPiece) := fun w h => ⟨imX9_told_c_X9_isPiece w h, (gda (gdl (by decide +kernel)) gdX9_isPiece) w h⟩
def fX9_told (v_sights : Int32) (v_signs : Int32) (v_book : Nat → Int32) (v_of : Nat → Int32) (x1 : Int32) : Option (Int32) :=
  if x1 < (200 : Int32) then
    if x1 < (10 : Int32) then
      if x1 = (0 : Int32) then
        some v_signs
      else
        if x1 = (1 : Int32) then
          chk (34 : Int32) 35 (
            some (rd v_book (34 : Int32)))
        else
          if x1 = (2 : Int32) then
            some v_sights
          else
            some (-2 : Int32)
    else
      (fX9_isPiece ((x1 / (10 : Int32)) - (1 : Int32))).bind (fun r7 =>
        if r7 = (0 : Int32) then
          some (-2 : Int32)
        else
          if (jrem x1 (10 : Int32)) ≤ (6 : Int32) then
            if (5 : Int32) ≤ (jrem x1 (10 : Int32)) then
              if (jrem x1 (10 : Int32)) = (5 : Int32) then
                chk ((x1 / (10 : Int32)) - (1 : Int32)) 35 (
                  some (rd v_book ((x1 / (10 : Int32)) - (1 : Int32))))
              else
                chk ((50 : Int32) + ((x1 / (10 : Int32)) - (1 : Int32))) 60 (
                  some (rd v_of ((50 : Int32) + ((x1 / (10 : Int32)) - (1 : Int32)))))
            else
              bnd (((10 : Int32) * (jrem x1 (10 : Int32))) + ((x1 / (10 : Int32)) - (1 : Int32))) (fun t14 =>
                chk t14 60 (
                  some (rd v_of t14)))
          else
            some (-2 : Int32))
  else
    (fX9_isHouse ((x1 / (10 : Int32)) - (20 : Int32))).bind (fun r16 =>
      if r16 = (0 : Int32) then
        some (-2 : Int32)
      else
        if (3 : Int32) ≤ (jrem x1 (10 : Int32)) then
          some (-2 : Int32)
        else
          bnd (((10 : Int32) + ((8 : Int32) * (jrem x1 (10 : Int32)))) + ((x1 / (10 : Int32)) - (20 : Int32))) (fun t19 =>
            chk t19 35 (
              some (rd v_book t19))))
def wdX9_told (cI cZ : ClassId) (q0 : Nat) (q1 : Nat) (q2 : Nat) (d3 : Nat) (d4 : Nat) (d5 : Nat) (d6 : Nat) (d7 : Nat) (d8 : Nat) (d9 : Nat) (d10 : Nat)  (v_sights : Int32) (v_signs : Int32) (v_book : Nat → Int32) (v_of : Nat → Int32) (v_weddings : Int32) (v_reason : Int32) (v_acts : Int32) : va_W := [(q0, .inr (9, [.ref q1, .ref d3, .ref q2, .int v_sights, .ref d4, .int v_signs, .ref d5, .int v_weddings, .int v_reason, .int v_acts, .ref d6, .ref d7, .ref d8, .ref d9, .ref d10])), (q1, .inl (cI, 35, .inl v_book)), (q2, .inl (cI, 60, .inl v_of))]
abbrev rmX9_told : Jvm.Room := { frames := 2, cells := 0, slots := 0, locals := 42 }
theorem hyX9_told : yX9_told.cls ≠ "java/lang/invoke/MethodHandle" ∧ yX9_told.cls ≠ "java/lang/invoke/VarHandle" ∧ (parseMethodDescriptor yX9_told.desc).map (fun d => d.parameters.length) = some 1 := by decide +kernel
set_option maxHeartbeats 4000000 in
set_option maxRecDepth 100000 in
theorem mX9_told (l : Launch) (D : va_G) (cI cZ : ClassId) (q0 : Nat) (q1 : Nat) (q2 : Nat) (d3 : Nat) (d4 : Nat) (d5 : Nat) (d6 : Nat) (d7 : Nat) (d8 : Nat) (d9 : Nat) (d10 : Nat) (v_sights : Int32) (v_signs : Int32) (v_book : Nat → Int32) (v_of : Nat → Int32) (v_weddings : Int32) (v_reason : Int32) (v_acts : Int32) (x1 : Int32) (z : Int32) (hF : fX9_told v_sights v_signs v_book v_of x1 = some z) : mp l yX9_told wtX9_told rmX9_told D cI cZ [.ref q0, .int x1] (wdX9_told cI cZ q0 q1 q2 d3 d4 d5 d6 d7 d8 d9 d10 v_sights v_signs v_book v_of v_weddings v_reason v_acts) (some (.int z)) (wdX9_told cI cZ q0 q1 q2 d3 d4 d5 d6 d7 d8 d9 d10 v_sights v_signs v_book v_of v_weddings v_reason v_acts) := by
  refine mp_i (lv0 := [(0, .ref q0), (1, .int x1)]) cX9_told 4 z (by decide) rfl (Nat.le_of_ble_eq_true rfl) rfl (fun E h hend0 => ?_)
  have hend : ∀ (z' : Int32), some z' = some z → ∀ (pc : Nat) (lv : List (Nat × Value)), decode cX9_told pc = .ok (.ireturn, 1) → G l D E 4 0 0 (wdX9_told cI cZ q0 q1 q2 d3 d4 d5 d6 d7 d8 d9 d10 v_sights v_signs v_book v_of v_weddings v_reason v_acts) pc lv [.int z'] := fun z' e => by cases e; exact hend0
  clear hend0
  unfold fX9_told at hF
  refine g_iload_n (np := 1) h 1 rfl rfl dX9_told_0 rfl ?_
  refine g_sipush (np := 4) (v := (200 : Int32)) h (by decide) dX9_told_1 rfl ?_
  refine g_icmp_lt h hF dX9_told_4 (np := 7) rfl (tg := 53) rfl (fun c1 hF => ?_) (fun c1 hF => ?_)
  · refine g_iload_n (np := 54) h 1 rfl rfl dX9_told_53 rfl ?_
    refine g_bipush (np := 56) (v := (10 : Int32)) h (by decide) dX9_told_54 rfl ?_
    refine g_icmp_lt h hF dX9_told_56 (np := 59) rfl (tg := 130) rfl (fun c2 hF => ?_) (fun c2 hF => ?_)
    · refine g_iload_n (np := 131) h 1 rfl rfl dX9_told_130 rfl ?_
      refine g_if_ne h hF dX9_told_131 (np := 134) rfl (tg := 141) rfl (fun c3 hF => ?_) (fun c3 hF => ?_)
      · refine g_iload_n (np := 142) h 1 rfl rfl dX9_told_141 rfl ?_
        refine g_iconst (np := 143) (v := (1 : Int32)) h (by decide) dX9_told_142 rfl ?_
        refine g_icmp_ne h hF dX9_told_143 (np := 146) rfl (tg := 156) rfl (fun c4 hF => ?_) (fun c4 hF => ?_)
        · refine g_iload_n (np := 157) h 1 rfl rfl dX9_told_156 rfl ?_
          refine g_iconst (np := 158) (v := (2 : Int32)) h (by decide) dX9_told_157 rfl ?_
          refine g_icmp_ne h hF dX9_told_158 (np := 161) rfl (tg := 168) rfl (fun c5 hF => ?_) (fun c5 hF => ?_)
          · refine g_bipush (np := 170) (v := (-2 : Int32)) h (by decide) dX9_told_168 rfl ?_
            exact hend _ hF _ _ dX9_told_170
          · refine g_aload_n (np := 162) h 0 rfl rfl dX9_told_161 rfl ?_
            refine g_get (np := 165) (T := TX9) h imX9_told_u_X9 0 9 rfl rfl 3 (by decide) (imX9_told_own _ (List.mem_of_getElem? (i := 3) rfl)) rfl dX9_told_162 rfl ?_
            refine g_goto h dX9_told_165 (np := 170) rfl ?_
            exact hend _ hF _ _ dX9_told_170
        · refine g_aload_n (np := 147) h 0 rfl rfl dX9_told_146 rfl ?_
          refine g_get (np := 150) (T := TX9) h imX9_told_u_X9 0 9 rfl rfl 0 (by decide) (imX9_told_own _ (List.mem_of_getElem? (i := 0) rfl)) rfl dX9_told_147 rfl ?_
          refine g_bipush (np := 152) (v := (34 : Int32)) h (by decide) dX9_told_150 rfl ?_
          refine g_iald (np := 153) h 1 rfl hF dX9_told_152 rfl (fun hi6 hF => ?_)
          refine g_goto h dX9_told_153 (np := 170) rfl ?_
          exact hend _ hF _ _ dX9_told_170
      · refine g_aload_n (np := 135) h 0 rfl rfl dX9_told_134 rfl ?_
        refine g_get (np := 138) (T := TX9) h imX9_told_u_X9 0 9 rfl rfl 5 (by decide) (imX9_told_own _ (List.mem_of_getElem? (i := 2) rfl)) rfl dX9_told_135 rfl ?_
        refine g_goto h dX9_told_138 (np := 170) rfl ?_
        exact hend _ hF _ _ dX9_told_170
    · refine g_iload_n (np := 60) h 1 rfl rfl dX9_told_59 rfl ?_
      refine g_bipush (np := 62) (v := (10 : Int32)) h (by decide) dX9_told_60 rfl ?_
      refine g_idiv (np := 63) h (by decide) dX9_told_62 rfl ?_
      refine g_iconst (np := 64) (v := (1 : Int32)) h (by decide) dX9_told_63 rfl ?_
      refine g_isub (np := 65) h dX9_told_64 rfl ?_
      refine g_istore_n (np := 66) (lv' := [(2, .int ((x1 / (10 : Int32)) - (1 : Int32))), (0, .ref q0), (1, .int x1)]) h rfl (by decide) rfl dX9_told_65 rfl ?_
      refine g_iload_n (np := 67) h 2 rfl rfl dX9_told_66 rfl ?_
      refine g_bipush (np := 69) (v := (10 : Int32)) h (by decide) dX9_told_67 rfl ?_
      refine g_irem (np := 70) h (by decide) dX9_told_69 rfl ?_
      refine g_istore_n (np := 71) (lv' := [(3, .int (jrem x1 (10 : Int32))), (2, .int ((x1 / (10 : Int32)) - (1 : Int32))), (0, .ref q0), (1, .int x1)]) h rfl (by decide) rfl dX9_told_70 rfl ?_
      refine g_iload_n (np := 72) h 1 rfl rfl dX9_told_71 rfl ?_
      obtain ⟨r7, hr7, hF⟩ := Option.bind_eq_some_iff.mp hF
      refine g_callS (np := 75) (Wd' := (wdX9_told cI cZ q0 q1 q2 d3 d4 d5 d6 d7 d8 d9 d10 v_sights v_signs v_book v_of v_weddings v_reason v_acts)) (As := [.int ((x1 / (10 : Int32)) - (1 : Int32))]) h (mX9_isPiece l D cI cZ ((x1 / (10 : Int32)) - (1 : Int32)) r7 hr7) gcX9_told_X9_isPiece rfl ⟨rfl, rfl⟩ hyX9_isPiece rfl rfl rfl rfl ⟨Nat.zero_le _, Nat.zero_le _⟩ [] [0, 1, 2] (N := 3) (by decide +kernel) rfl rfl rfl rfl rfl dX9_told_72 rfl ?_
      refine g_if_eq h hF dX9_told_75 (np := 78) rfl (tg := 84) rfl (fun c8 hF => ?_) (fun c8 hF => ?_)
      · refine g_bipush (np := 86) (v := (-2 : Int32)) h (by decide) dX9_told_84 rfl ?_
        exact hend _ hF _ _ dX9_told_86
      · refine g_iload_n (np := 79) h 0 rfl rfl dX9_told_78 rfl ?_
        refine g_bipush (np := 81) (v := (6 : Int32)) h (by decide) dX9_told_79 rfl ?_
        refine g_icmp_le h hF dX9_told_81 (np := 84) rfl (tg := 87) rfl (fun c9 hF => ?_) (fun c9 hF => ?_)
        · refine g_iload_n (np := 88) h 0 rfl rfl dX9_told_87 rfl ?_
          refine g_iconst (np := 89) (v := (5 : Int32)) h (by decide) dX9_told_88 rfl ?_
          refine g_icmp_ge h hF dX9_told_89 (np := 92) rfl (tg := 106) rfl (fun c10 hF => ?_) (fun c10 hF => ?_)
          · refine g_iload_n (np := 107) h 0 rfl rfl dX9_told_106 rfl ?_
            refine g_iconst (np := 108) (v := (5 : Int32)) h (by decide) dX9_told_107 rfl ?_
            refine g_icmp_ne h hF dX9_told_108 (np := 111) rfl (tg := 120) rfl (fun c11 hF => ?_) (fun c11 hF => ?_)
            · refine g_aload_n (np := 121) h 2 rfl rfl dX9_told_120 rfl ?_
              refine g_get (np := 124) (T := TX9) h imX9_told_u_X9 0 9 rfl rfl 2 (by decide) (imX9_told_own _ (List.mem_of_getElem? (i := 1) rfl)) rfl dX9_told_121 rfl ?_
              refine g_bipush (np := 126) (v := (50 : Int32)) h (by decide) dX9_told_124 rfl ?_
              refine g_iload_n (np := 127) h 1 rfl rfl dX9_told_126 rfl ?_
              refine g_iadd (np := 128) h dX9_told_127 rfl ?_
              refine g_iald (np := 129) h 2 rfl hF dX9_told_128 rfl (fun hi12 hF => ?_)
              exact hend _ hF _ _ dX9_told_129
            · refine g_aload_n (np := 112) h 2 rfl rfl dX9_told_111 rfl ?_
              refine g_get (np := 115) (T := TX9) h imX9_told_u_X9 0 9 rfl rfl 0 (by decide) (imX9_told_own _ (List.mem_of_getElem? (i := 0) rfl)) rfl dX9_told_112 rfl ?_
              refine g_iload_n (np := 116) h 1 rfl rfl dX9_told_115 rfl ?_
              refine g_iald (np := 117) h 1 rfl hF dX9_told_116 rfl (fun hi13 hF => ?_)
              refine g_goto h dX9_told_117 (np := 129) rfl ?_
              exact hend _ hF _ _ dX9_told_129
          · refine g_aload_n (np := 93) h 2 rfl rfl dX9_told_92 rfl ?_
            refine g_get (np := 96) (T := TX9) h imX9_told_u_X9 0 9 rfl rfl 2 (by decide) (imX9_told_own _ (List.mem_of_getElem? (i := 1) rfl)) rfl dX9_told_93 rfl ?_
            refine g_bipush (np := 98) (v := (10 : Int32)) h (by decide) dX9_told_96 rfl ?_
            refine g_iload_n (np := 99) h 0 rfl rfl dX9_told_98 rfl ?_
            refine g_imul (np := 100) h dX9_told_99 rfl ?_
            refine g_iload_n (np := 101) h 1 rfl rfl dX9_told_100 rfl ?_
            refine g_iadd (np := 102) h dX9_told_101 rfl ?_
            refine g_top hF (fun t14 et14 hF => ?_)
            refine g_iald (np := 103) h 2 rfl hF dX9_told_102 rfl (fun hi15 hF => ?_)
            refine g_goto h dX9_told_103 (np := 129) rfl ?_
            exact hend _ hF _ _ dX9_told_129
        · refine g_bipush (np := 86) (v := (-2 : Int32)) h (by decide) dX9_told_84 rfl ?_
          exact hend _ hF _ _ dX9_told_86
  · refine g_iload_n (np := 8) h 1 rfl rfl dX9_told_7 rfl ?_
    refine g_bipush (np := 10) (v := (10 : Int32)) h (by decide) dX9_told_8 rfl ?_
    refine g_idiv (np := 11) h (by decide) dX9_told_10 rfl ?_
    refine g_bipush (np := 13) (v := (20 : Int32)) h (by decide) dX9_told_11 rfl ?_
    refine g_isub (np := 14) h dX9_told_13 rfl ?_
    refine g_istore_n (np := 15) (lv' := [(2, .int ((x1 / (10 : Int32)) - (20 : Int32))), (0, .ref q0), (1, .int x1)]) h rfl (by decide) rfl dX9_told_14 rfl ?_
    refine g_iload_n (np := 16) h 0 rfl rfl dX9_told_15 rfl ?_
    obtain ⟨r16, hr16, hF⟩ := Option.bind_eq_some_iff.mp hF
    refine g_callS (np := 19) (Wd' := (wdX9_told cI cZ q0 q1 q2 d3 d4 d5 d6 d7 d8 d9 d10 v_sights v_signs v_book v_of v_weddings v_reason v_acts)) (As := [.int ((x1 / (10 : Int32)) - (20 : Int32))]) h (mX9_isHouse l D cI cZ ((x1 / (10 : Int32)) - (20 : Int32)) r16 hr16) gcX9_told_X9_isHouse rfl ⟨rfl, rfl⟩ hyX9_isHouse rfl rfl rfl rfl ⟨Nat.zero_le _, Nat.zero_le _⟩ [] [0, 1, 2] (N := 3) (by decide +kernel) rfl rfl rfl rfl rfl dX9_told_16 rfl ?_
    refine g_if_eq h hF dX9_told_19 (np := 22) rfl (tg := 50) rfl (fun c17 hF => ?_) (fun c17 hF => ?_)
    · refine g_bipush (np := 52) (v := (-2 : Int32)) h (by decide) dX9_told_50 rfl ?_
      exact hend _ hF _ _ dX9_told_52
    · refine g_iload_n (np := 23) h 2 rfl rfl dX9_told_22 rfl ?_
      refine g_bipush (np := 25) (v := (10 : Int32)) h (by decide) dX9_told_23 rfl ?_
      refine g_irem (np := 26) h (by decide) dX9_told_25 rfl ?_
      refine g_iconst (np := 27) (v := (3 : Int32)) h (by decide) dX9_told_26 rfl ?_
      refine g_icmp_ge h hF dX9_told_27 (np := 30) rfl (tg := 50) rfl (fun c18 hF => ?_) (fun c18 hF => ?_)
      · refine g_bipush (np := 52) (v := (-2 : Int32)) h (by decide) dX9_told_50 rfl ?_
        exact hend _ hF _ _ dX9_told_52
      · refine g_aload_n (np := 31) h 1 rfl rfl dX9_told_30 rfl ?_
        refine g_get (np := 34) (T := TX9) h imX9_told_u_X9 0 9 rfl rfl 0 (by decide) (imX9_told_own _ (List.mem_of_getElem? (i := 0) rfl)) rfl dX9_told_31 rfl ?_
        refine g_bipush (np := 36) (v := (10 : Int32)) h (by decide) dX9_told_34 rfl ?_
        refine g_bipush (np := 38) (v := (8 : Int32)) h (by decide) dX9_told_36 rfl ?_
        refine g_iload_n (np := 39) h 2 rfl rfl dX9_told_38 rfl ?_
        refine g_bipush (np := 41) (v := (10 : Int32)) h (by decide) dX9_told_39 rfl ?_
        refine g_irem (np := 42) h (by decide) dX9_told_41 rfl ?_
        refine g_imul (np := 43) h dX9_told_42 rfl ?_
        refine g_iadd (np := 44) h dX9_told_43 rfl ?_
        refine g_iload_n (np := 45) h 0 rfl rfl dX9_told_44 rfl ?_
        refine g_iadd (np := 46) h dX9_told_45 rfl ?_
        refine g_top hF (fun t19 et19 hF => ?_)
        refine g_iald (np := 47) h 1 rfl hF dX9_told_46 rfl (fun hi20 hF => ?_)
        refine g_goto h dX9_told_47 (np := 52) rfl ?_
        exact hend _ hF _ _ dX9_told_52
