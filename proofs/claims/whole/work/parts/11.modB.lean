theorem dX9_judge_0 : decode cX9_judge 0 = .ok (.iload_n 1, 1) := by decide +kernel
theorem dX9_judge_1 : decode cX9_judge 1 = .ok (.iconst 0, 1) := by decide +kernel
theorem dX9_judge_2 : decode cX9_judge 2 = .ok (.iconst 1, 1) := by decide +kernel
theorem dX9_judge_3 : decode cX9_judge 3 = .ok (.invokestatic 41, 3) := by decide +kernel
theorem dX9_judge_6 : decode cX9_judge 6 = .ok (.ifCond .ne 6, 3) := by decide +kernel
theorem dX9_judge_9 : decode cX9_judge 9 = .ok (.bipush (-2), 2) := by decide +kernel
theorem dX9_judge_11 : decode cX9_judge 11 = .ok (.ireturn, 1) := by decide +kernel
theorem dX9_judge_12 : decode cX9_judge 12 = .ok (.aload_n 0, 1) := by decide +kernel
theorem dX9_judge_13 : decode cX9_judge 13 = .ok (.invokevirtual 60, 3) := by decide +kernel
theorem dX9_judge_16 : decode cX9_judge 16 = .ok (.ifCond .lt 6, 3) := by decide +kernel
theorem dX9_judge_19 : decode cX9_judge 19 = .ok (.bipush (-5), 2) := by decide +kernel
theorem dX9_judge_21 : decode cX9_judge 21 = .ok (.ireturn, 1) := by decide +kernel
theorem dX9_judge_22 : decode cX9_judge 22 = .ok (.aload_n 0, 1) := by decide +kernel
theorem dX9_judge_23 : decode cX9_judge 23 = .ok (.invokevirtual 100, 3) := by decide +kernel
theorem dX9_judge_26 : decode cX9_judge 26 = .ok (.istore_n 2, 1) := by decide +kernel
theorem dX9_judge_27 : decode cX9_judge 27 = .ok (.iload_n 2, 1) := by decide +kernel
theorem dX9_judge_28 : decode cX9_judge 28 = .ok (.ifCond .lt 7, 3) := by decide +kernel
theorem dX9_judge_31 : decode cX9_judge 31 = .ok (.iload_n 1, 1) := by decide +kernel
theorem dX9_judge_32 : decode cX9_judge 32 = .ok (.ifCond .ne 7, 3) := by decide +kernel
theorem dX9_judge_35 : decode cX9_judge 35 = .ok (.iload_n 2, 1) := by decide +kernel
theorem dX9_judge_36 : decode cX9_judge 36 = .ok (.goto 7, 3) := by decide +kernel
theorem dX9_judge_39 : decode cX9_judge 39 = .ok (.aload_n 0, 1) := by decide +kernel
theorem dX9_judge_40 : decode cX9_judge 40 = .ok (.getfield 91, 3) := by decide +kernel
theorem dX9_judge_43 : decode cX9_judge 43 = .ok (.ireturn, 1) := by decide +kernel
def wtX9_judge : List Cond := .code yX9_judge cX9_judge 3 (some .int) :: (([.fieldLink RX9 91 "DriftKinModel" "reason" "I"]) ++ ((u_ws RX9 TX9 15) ++ ((va_wsS RX9 41 yX9_in wtX9_in) ++ ((wsV RX9 60 RX9 yX9_faultOf wtX9_faultOf) ++ ((wsV RX9 100 RX9 yX9_goYears wtX9_goYears) ++ [])))))
theorem imX9_judge_own : ∀ w ∈ ([.fieldLink RX9 91 "DriftKinModel" "reason" "I"] : List Cond), w ∈ wtX9_judge := fun w h => List.mem_cons_of_mem _ (inl h)
theorem imX9_judge_u_X9 : ∀ w ∈ (u_ws RX9 TX9 15 : List Cond), w ∈ wtX9_judge := fun w h => List.mem_cons_of_mem _ (inr (inl h))
theorem imX9_judge_c_X9_in : ∀ w ∈ (va_wsS RX9 41 yX9_in wtX9_in : List Cond), w ∈ wtX9_judge := fun w h => List.mem_cons_of_mem _ (inr (inr (inl h)))
theorem imX9_judge_c_X9_faultOf : ∀ w ∈ (wsV RX9 60 RX9 yX9_faultOf wtX9_faultOf : List Cond), w ∈ wtX9_judge := fun w h => List.mem_cons_of_mem _ (inr (inr (inr (inl h))))
theorem imX9_judge_c_X9_goYears : ∀ w ∈ (wsV RX9 100 RX9 yX9_goYears wtX9_goYears : List Cond), w ∈ wtX9_judge := fun w h => List.mem_cons_of_mem _ (inr (inr (inr (inr (inl h)))))
theorem gdX9_judge : ∀ w ∈ wtX9_judge, Gd w := gdc rfl (gda (gdl (by decide +kernel)) (gda (gdu _ _ _) (gda (gda (gdl (by decide +kernel)) gdX9_in) (gda (gda (gdl (by decide +kernel)) gdX9_faultOf) (gda (gda (gdl (by decide +kernel)) gdX9_goYears) gdn)))))
theorem gcX9_judge_X9_in : GoodIn wtX9_judge (va_wsS RX9 41 yX9_in wtX9_in) := fun w h => ⟨imX9_judge_c_X9_in w h, (gda (gdl (by decide +kernel)) gdX9_in) w h⟩
theorem gcX9_judge_X9_faultOf : GoodIn wtX9_judge (wsV RX9 60 RX9 yX9_faultOf wtX9_faultOf) := fun w h => ⟨imX9_judge_c_X9_faultOf w h, (gda (gdl (by decide +kernel)) gdX9_faultOf) w h⟩
theorem gcX9_judge_X9_goYears : GoodIn wtX9_judge (wsV RX9 100 RX9 yX9_goYears wtX9_goYears) := fun w h => ⟨imX9_judge_c_X9_goYears w h, (gda (gdl (by decide +kernel)) gdX9_goYears) w h⟩
def fX9_judge (v_signs : Int32) (v_weddings : Int32) (v_reason : Int32) (v_acts : Int32) (v_book : Nat → Int32) (v_now : Nat → Int32) (v_of : Nat → Int32) (v_pad : Nat → Int32) (x1 : Int32) : Option (Int32 × Int32 × Int32 × Int32 × (Nat → Int32)) :=
  (fX9_in x1 (0 : Int32) (1 : Int32)).bind (fun r1 =>
    if r1 = (0 : Int32) then
      some ((-2 : Int32), v_weddings, v_reason, v_acts, v_now)
    else
      (fX9_faultOf v_signs v_pad).bind (fun r3 =>
        if r3 < (0 : Int32) then
          (fX9_goYears v_signs v_weddings v_reason v_acts v_book v_now v_of v_pad).bind (fun r5 =>
            if r5.1 < (0 : Int32) then
              some (r5.1, r5.2.1, r5.2.2.1, r5.2.2.2.1, r5.2.2.2.2)
            else
              if x1 = (0 : Int32) then
                some (r5.1, r5.2.1, r5.2.2.1, r5.2.2.2.1, r5.2.2.2.2)
              else
                some (r5.2.2.1, r5.2.1, r5.2.2.1, r5.2.2.2.1, r5.2.2.2.2))
        else
          some ((-5 : Int32), v_weddings, v_reason, v_acts, v_now)))
def wdX9_judge (cI cZ : ClassId) (q0 : Nat) (q1 : Nat) (q2 : Nat) (q3 : Nat) (q4 : Nat) (d5 : Nat) (d6 : Nat) (d7 : Nat) (d8 : Nat) (d9 : Nat) (d10 : Nat)  (v_signs : Int32) (v_weddings : Int32) (v_reason : Int32) (v_acts : Int32) (v_book : Nat → Int32) (v_now : Nat → Int32) (v_of : Nat → Int32) (v_pad : Nat → Int32) (v_sights : Int32) : va_W := [(q0, .inr (9, [.ref q1, .ref q2, .ref q3, .int v_sights, .ref d5, .int v_signs, .ref q4, .int v_weddings, .int v_reason, .int v_acts, .ref d6, .ref d7, .ref d8, .ref d9, .ref d10])), (q1, .inl (cI, 35, .inl v_book)), (q2, .inl (cI, 35, .inl v_now)), (q3, .inl (cI, 60, .inl v_of)), (q4, .inl (cI, 60, .inl v_pad))]
abbrev rmX9_judge : Jvm.Room := { frames := 3, cells := 0, slots := 0, locals := 68 }
theorem hyX9_judge : yX9_judge.cls ≠ "java/lang/invoke/MethodHandle" ∧ yX9_judge.cls ≠ "java/lang/invoke/VarHandle" ∧ (parseMethodDescriptor yX9_judge.desc).map (fun d => d.parameters.length) = some 1 := by decide +kernel
set_option maxHeartbeats 4000000 in
set_option maxRecDepth 100000 in
theorem mX9_judge (l : Launch) (D : va_G) (cI cZ : ClassId) (q0 : Nat) (q1 : Nat) (q2 : Nat) (q3 : Nat) (q4 : Nat) (d5 : Nat) (d6 : Nat) (d7 : Nat) (d8 : Nat) (d9 : Nat) (d10 : Nat) (v_signs : Int32) (v_weddings : Int32) (v_reason : Int32) (v_acts : Int32) (v_book : Nat → Int32) (v_now : Nat → Int32) (v_of : Nat → Int32) (v_pad : Nat → Int32) (v_sights : Int32) (x1 : Int32) (z : Int32 × Int32 × Int32 × Int32 × (Nat → Int32)) (hF : fX9_judge v_signs v_weddings v_reason v_acts v_book v_now v_of v_pad x1 = some z) : mp l yX9_judge wtX9_judge rmX9_judge D cI cZ [.ref q0, .int x1] (wdX9_judge cI cZ q0 q1 q2 q3 q4 d5 d6 d7 d8 d9 d10 v_signs v_weddings v_reason v_acts v_book v_now v_of v_pad v_sights) (some (.int z.1)) (wdX9_judge cI cZ q0 q1 q2 q3 q4 d5 d6 d7 d8 d9 d10 v_signs z.2.1 z.2.2.1 z.2.2.2.1 v_book z.2.2.2.2 v_of v_pad v_sights) := by
  refine mp_i (lv0 := [(0, .ref q0), (1, .int x1)]) cX9_judge 3 z.1 (by decide) rfl (Nat.le_of_ble_eq_true rfl) rfl (fun E h hend0 => ?_)
  have hend : ∀ (z' : Int32 × Int32 × Int32 × Int32 × (Nat → Int32)), some z' = some z → ∀ (pc : Nat) (lv : List (Nat × Value)), decode cX9_judge pc = .ok (.ireturn, 1) → G l D E 3 0 0 (wdX9_judge cI cZ q0 q1 q2 q3 q4 d5 d6 d7 d8 d9 d10 v_signs (z'.2.1) (z'.2.2.1) (z'.2.2.2.1) v_book (z'.2.2.2.2) v_of v_pad v_sights) pc lv [.int z'.1] := fun z' e => by cases e; exact hend0
  clear hend0
  unfold fX9_judge at hF
  refine g_iload_n (np := 1) h 1 rfl rfl dX9_judge_0 rfl ?_
  refine g_iconst (np := 2) (v := (0 : Int32)) h (by decide) dX9_judge_1 rfl ?_
  refine g_iconst (np := 3) (v := (1 : Int32)) h (by decide) dX9_judge_2 rfl ?_
  obtain ⟨r1, hr1, hF⟩ := Option.bind_eq_some_iff.mp hF
  refine g_callS (np := 6) (Wd' := (wdX9_judge cI cZ q0 q1 q2 q3 q4 d5 d6 d7 d8 d9 d10 v_signs v_weddings v_reason v_acts v_book v_now v_of v_pad v_sights)) (As := [.int x1, .int (0 : Int32), .int (1 : Int32)]) h (mX9_in l D cI cZ x1 (0 : Int32) (1 : Int32) r1 hr1) gcX9_judge_X9_in rfl ⟨rfl, rfl⟩ hyX9_in rfl rfl rfl rfl ⟨Nat.zero_le _, Nat.zero_le _⟩ [] [0, 1, 2, 3, 4] (N := 5) (by decide +kernel) rfl rfl rfl rfl rfl dX9_judge_3 rfl ?_
  refine g_if_ne h hF dX9_judge_6 (np := 9) rfl (tg := 12) rfl (fun c2 hF => ?_) (fun c2 hF => ?_)
  · refine g_aload_n (np := 13) h 0 rfl rfl dX9_judge_12 rfl ?_
    obtain ⟨r3, hr3, hF⟩ := Option.bind_eq_some_iff.mp hF
    refine g_callV (np := 16) (Wd' := (wdX9_judge cI cZ q0 q1 q2 q3 q4 d5 d6 d7 d8 d9 d10 v_signs v_weddings v_reason v_acts v_book v_now v_of v_pad v_sights)) (As := []) h (mX9_faultOf l D cI cZ q0 q4 q1 q2 q3 d5 d6 d7 d8 d9 d10 v_signs v_pad v_sights v_weddings v_reason v_acts r3 hr3) gcX9_judge_X9_faultOf rfl ⟨rfl, rfl⟩ ⟨rfl, hyX9_faultOf⟩ rfl 9 0 rfl rfl rfl rfl rfl rfl ⟨Nat.zero_le _, Nat.zero_le _⟩ [0, 4] [1, 2, 3] (N := 5) (by decide +kernel) rfl rfl rfl rfl rfl dX9_judge_13 rfl ?_
    refine g_if_lt h hF dX9_judge_16 (np := 19) rfl (tg := 22) rfl (fun c4 hF => ?_) (fun c4 hF => ?_)
    · refine g_aload_n (np := 23) h 0 rfl rfl dX9_judge_22 rfl ?_
      obtain ⟨r5, hr5, hF⟩ := Option.bind_eq_some_iff.mp hF
      refine g_callV (np := 26) (Wd' := (wdX9_judge cI cZ q0 q1 q2 q3 q4 d5 d6 d7 d8 d9 d10 v_signs r5.2.1 r5.2.2.1 r5.2.2.2.1 v_book r5.2.2.2.2 v_of v_pad v_sights)) (As := []) h (mX9_goYears l D cI cZ q0 q1 q2 q3 q4 d5 d6 d7 d8 d9 d10 v_signs v_weddings v_reason v_acts v_book v_now v_of v_pad v_sights r5 hr5) gcX9_judge_X9_goYears rfl ⟨rfl, rfl⟩ ⟨rfl, hyX9_goYears⟩ rfl 9 0 rfl rfl rfl rfl rfl rfl ⟨Nat.zero_le _, Nat.zero_le _⟩ [0, 1, 2, 3, 4] [] (N := 5) (by decide +kernel) rfl rfl rfl rfl rfl dX9_judge_23 rfl ?_
      refine g_istore_n (np := 27) (lv' := [(2, .int r5.1), (0, .ref q0), (1, .int x1)]) h rfl (by decide) rfl dX9_judge_26 rfl ?_
      refine g_iload_n (np := 28) h 0 rfl rfl dX9_judge_27 rfl ?_
      refine g_if_lt h hF dX9_judge_28 (np := 31) rfl (tg := 35) rfl (fun c6 hF => ?_) (fun c6 hF => ?_)
      · refine g_iload_n (np := 36) h 0 rfl rfl dX9_judge_35 rfl ?_
        refine g_goto h dX9_judge_36 (np := 43) rfl ?_
        exact hend _ hF _ _ dX9_judge_43
      · refine g_iload_n (np := 32) h 2 rfl rfl dX9_judge_31 rfl ?_
        refine g_if_ne h hF dX9_judge_32 (np := 35) rfl (tg := 39) rfl (fun c7 hF => ?_) (fun c7 hF => ?_)
        · refine g_aload_n (np := 40) h 1 rfl rfl dX9_judge_39 rfl ?_
          refine g_get (np := 43) (T := TX9) h imX9_judge_u_X9 0 9 rfl rfl 8 (by decide) (imX9_judge_own _ (List.mem_of_getElem? (i := 0) rfl)) rfl dX9_judge_40 rfl ?_
          exact hend _ hF _ _ dX9_judge_43
        · refine g_iload_n (np := 36) h 0 rfl rfl dX9_judge_35 rfl ?_
          refine g_goto h dX9_judge_36 (np := 43) rfl ?_
          exact hend _ hF _ _ dX9_judge_43
    · refine g_bipush (np := 21) (v := (-5 : Int32)) h (by decide) dX9_judge_19 rfl ?_
      exact hend _ hF _ _ dX9_judge_21
  · refine g_bipush (np := 11) (v := (-2 : Int32)) h (by decide) dX9_judge_9 rfl ?_
    exact hend _ hF _ _ dX9_judge_11
theorem dX9_barOfYears_0 : decode cX9_barOfYears 0 = .ok (.aload_n 0, 1) := by decide +kernel
theorem dX9_barOfYears_1 : decode cX9_barOfYears 1 = .ok (.invokevirtual 60, 3) := by decide +kernel
theorem dX9_barOfYears_4 : decode cX9_barOfYears 4 = .ok (.ifCond .ge 10, 3) := by decide +kernel
theorem dX9_barOfYears_7 : decode cX9_barOfYears 7 = .ok (.aload_n 0, 1) := by decide +kernel
theorem dX9_barOfYears_8 : decode cX9_barOfYears 8 = .ok (.invokevirtual 100, 3) := by decide +kernel
theorem dX9_barOfYears_11 : decode cX9_barOfYears 11 = .ok (.ifCond .lt 8, 3) := by decide +kernel
theorem dX9_barOfYears_14 : decode cX9_barOfYears 14 = .ok (.bipush (-5), 2) := by decide +kernel
theorem dX9_barOfYears_16 : decode cX9_barOfYears 16 = .ok (.goto 4, 3) := by decide +kernel
theorem dX9_barOfYears_19 : decode cX9_barOfYears 19 = .ok (.iconst 0, 1) := by decide +kernel
theorem dX9_barOfYears_20 : decode cX9_barOfYears 20 = .ok (.ireturn, 1) := by decide +kernel
def wtX9_barOfYears : List Cond := .code yX9_barOfYears cX9_barOfYears 1 (some .int) :: (([]) ++ ((wsV RX9 60 RX9 yX9_faultOf wtX9_faultOf) ++ ((wsV RX9 100 RX9 yX9_goYears wtX9_goYears) ++ [])))
theorem imX9_barOfYears_own : ∀ w ∈ ([] : List Cond), w ∈ wtX9_barOfYears := fun w h => List.mem_cons_of_mem _ (inl h)
theorem imX9_barOfYears_c_X9_faultOf : ∀ w ∈ (wsV RX9 60 RX9 yX9_faultOf wtX9_faultOf : List Cond), w ∈ wtX9_barOfYears := fun w h => List.mem_cons_of_mem _ (inr (inl h))
theorem imX9_barOfYears_c_X9_goYears : ∀ w ∈ (wsV RX9 100 RX9 yX9_goYears wtX9_goYears : List Cond), w ∈ wtX9_barOfYears := fun w h => List.mem_cons_of_mem _ (inr (inr (inl h)))
theorem gdX9_barOfYears : ∀ w ∈ wtX9_barOfYears, Gd w := gdc rfl (gda (gdl (by decide +kernel)) (gda (gda (gdl (by decide +kernel)) gdX9_faultOf) (gda (gda (gdl (by decide +kernel)) gdX9_goYears) gdn)))
theorem gcX9_barOfYears_X9_faultOf : GoodIn wtX9_barOfYears (wsV RX9 60 RX9 yX9_faultOf wtX9_faultOf) := fun w h => ⟨imX9_barOfYears_c_X9_faultOf w h, (gda (gdl (by decide +kernel)) gdX9_faultOf) w h⟩
theorem gcX9_barOfYears_X9_goYears : GoodIn wtX9_barOfYears (wsV RX9 100 RX9 yX9_goYears wtX9_goYears) := fun w h => ⟨imX9_barOfYears_c_X9_goYears w h, (gda (gdl (by decide +kernel)) gdX9_goYears) w h⟩
def fX9_barOfYears (v_signs : Int32) (v_weddings : Int32) (v_reason : Int32) (v_acts : Int32) (v_book : Nat → Int32) (v_now : Nat → Int32) (v_of : Nat → Int32) (v_pad : Nat → Int32) : Option (Int32 × Int32 × Int32 × Int32 × (Nat → Int32)) :=
  (fX9_faultOf v_signs v_pad).bind (fun r1 =>
    if (0 : Int32) ≤ r1 then
      some ((-5 : Int32), v_weddings, v_reason, v_acts, v_now)
    else
      (fX9_goYears v_signs v_weddings v_reason v_acts v_book v_now v_of v_pad).bind (fun r3 =>
        if r3.1 < (0 : Int32) then
          some ((0 : Int32), r3.2.1, r3.2.2.1, r3.2.2.2.1, r3.2.2.2.2)
        else
          some ((-5 : Int32), r3.2.1, r3.2.2.1, r3.2.2.2.1, r3.2.2.2.2)))
def wdX9_barOfYears (cI cZ : ClassId) (q0 : Nat) (q1 : Nat) (q2 : Nat) (q3 : Nat) (q4 : Nat) (d5 : Nat) (d6 : Nat) (d7 : Nat) (d8 : Nat) (d9 : Nat) (d10 : Nat)  (v_signs : Int32) (v_weddings : Int32) (v_reason : Int32) (v_acts : Int32) (v_book : Nat → Int32) (v_now : Nat → Int32) (v_of : Nat → Int32) (v_pad : Nat → Int32) (v_sights : Int32) : va_W := [(q0, .inr (9, [.ref q1, .ref q2, .ref q3, .int v_sights, .ref d5, .int v_signs, .ref q4, .int v_weddings, .int v_reason, .int v_acts, .ref d6, .ref d7, .ref d8, .ref d9, .ref d10])), (q1, .inl (cI, 35, .inl v_book)), (q2, .inl (cI, 35, .inl v_now)), (q3, .inl (cI, 60, .inl v_of)), (q4, .inl (cI, 60, .inl v_pad))]
abbrev rmX9_barOfYears : Jvm.Room := { frames := 3, cells := 0, slots := 0, locals := 68 }
theorem hyX9_barOfYears : yX9_barOfYears.cls ≠ "java/lang/invoke/MethodHandle" ∧ yX9_barOfYears.cls ≠ "java/lang/invoke/VarHandle" ∧ (parseMethodDescriptor yX9_barOfYears.desc).map (fun d => d.parameters.length) = some 0 := by decide +kernel
set_option maxHeartbeats 4000000 in
set_option maxRecDepth 100000 in
theorem mX9_barOfYears (l : Launch) (D : va_G) (cI cZ : ClassId) (q0 : Nat) (q1 : Nat) (q2 : Nat) (q3 : Nat) (q4 : Nat) (d5 : Nat) (d6 : Nat) (d7 : Nat) (d8 : Nat) (d9 : Nat) (d10 : Nat) (v_signs : Int32) (v_weddings : Int32) (v_reason : Int32) (v_acts : Int32) (v_book : Nat → Int32) (v_now : Nat → Int32) (v_of : Nat → Int32) (v_pad : Nat → Int32) (v_sights : Int32) (z : Int32 × Int32 × Int32 × Int32 × (Nat → Int32)) (hF : fX9_barOfYears v_signs v_weddings v_reason v_acts v_book v_now v_of v_pad = some z) : mp l yX9_barOfYears wtX9_barOfYears rmX9_barOfYears D cI cZ [.ref q0] (wdX9_barOfYears cI cZ q0 q1 q2 q3 q4 d5 d6 d7 d8 d9 d10 v_signs v_weddings v_reason v_acts v_book v_now v_of v_pad v_sights) (some (.int z.1)) (wdX9_barOfYears cI cZ q0 q1 q2 q3 q4 d5 d6 d7 d8 d9 d10 v_signs z.2.1 z.2.2.1 z.2.2.2.1 v_book z.2.2.2.2 v_of v_pad v_sights) := by
  refine mp_i (lv0 := [(0, .ref q0)]) cX9_barOfYears 1 z.1 (by decide) rfl (Nat.le_of_ble_eq_true rfl) rfl (fun E h hend0 => ?_)
  have hend : ∀ (z' : Int32 × Int32 × Int32 × Int32 × (Nat → Int32)), some z' = some z → ∀ (pc : Nat) (lv : List (Nat × Value)), decode cX9_barOfYears pc = .ok (.ireturn, 1) → G l D E 1 0 0 (wdX9_barOfYears cI cZ q0 q1 q2 q3 q4 d5 d6 d7 d8 d9 d10 v_signs (z'.2.1) (z'.2.2.1) (z'.2.2.2.1) v_book (z'.2.2.2.2) v_of v_pad v_sights) pc lv [.int z'.1] := fun z' e => by cases e; exact hend0
  clear hend0
  unfold fX9_barOfYears at hF
  refine g_aload_n (np := 1) h 0 rfl rfl dX9_barOfYears_0 rfl ?_
  obtain ⟨r1, hr1, hF⟩ := Option.bind_eq_some_iff.mp hF
  refine g_callV (np := 4) (Wd' := (wdX9_barOfYears cI cZ q0 q1 q2 q3 q4 d5 d6 d7 d8 d9 d10 v_signs v_weddings v_reason v_acts v_book v_now v_of v_pad v_sights)) (As := []) h (mX9_faultOf l D cI cZ q0 q4 q1 q2 q3 d5 d6 d7 d8 d9 d10 v_signs v_pad v_sights v_weddings v_reason v_acts r1 hr1) gcX9_barOfYears_X9_faultOf rfl ⟨rfl, rfl⟩ ⟨rfl, hyX9_faultOf⟩ rfl 9 0 rfl rfl rfl rfl rfl rfl ⟨Nat.zero_le _, Nat.zero_le _⟩ [0, 4] [1, 2, 3] (N := 5) (by decide +kernel) rfl rfl rfl rfl rfl dX9_barOfYears_1 rfl ?_
  refine g_if_ge h hF dX9_barOfYears_4 (np := 7) rfl (tg := 14) rfl (fun c2 hF => ?_) (fun c2 hF => ?_)
  · refine g_bipush (np := 16) (v := (-5 : Int32)) h (by decide) dX9_barOfYears_14 rfl ?_
    refine g_goto h dX9_barOfYears_16 (np := 20) rfl ?_
    exact hend _ hF _ _ dX9_barOfYears_20
  · refine g_aload_n (np := 8) h 0 rfl rfl dX9_barOfYears_7 rfl ?_
    obtain ⟨r3, hr3, hF⟩ := Option.bind_eq_some_iff.mp hF
    refine g_callV (np := 11) (Wd' := (wdX9_barOfYears cI cZ q0 q1 q2 q3 q4 d5 d6 d7 d8 d9 d10 v_signs r3.2.1 r3.2.2.1 r3.2.2.2.1 v_book r3.2.2.2.2 v_of v_pad v_sights)) (As := []) h (mX9_goYears l D cI cZ q0 q1 q2 q3 q4 d5 d6 d7 d8 d9 d10 v_signs v_weddings v_reason v_acts v_book v_now v_of v_pad v_sights r3 hr3) gcX9_barOfYears_X9_goYears rfl ⟨rfl, rfl⟩ ⟨rfl, hyX9_goYears⟩ rfl 9 0 rfl rfl rfl rfl rfl rfl ⟨Nat.zero_le _, Nat.zero_le _⟩ [0, 1, 2, 3, 4] [] (N := 5) (by decide +kernel) rfl rfl rfl rfl rfl dX9_barOfYears_8 rfl ?_
    refine g_if_lt h hF dX9_barOfYears_11 (np := 14) rfl (tg := 19) rfl (fun c4 hF => ?_) (fun c4 hF => ?_)
    · refine g_iconst (np := 20) (v := (0 : Int32)) h (by decide) dX9_barOfYears_19 rfl ?_
      exact hend _ hF _ _ dX9_barOfYears_20
    · refine g_bipush (np := 16) (v := (-5 : Int32)) h (by decide) dX9_barOfYears_14 rfl ?_
      refine g_goto h dX9_barOfYears_16 (np := 20) rfl ?_
      exact hend _ hF _ _ dX9_barOfYears_20
theorem dX9_done_0 : decode cX9_done 0 = .ok (.aload_n 0, 1) := by decide +kernel
theorem dX9_done_1 : decode cX9_done 1 = .ok (.invokevirtual 103, 3) := by decide +kernel
theorem dX9_done_4 : decode cX9_done 4 = .ok (.ifCond .ge 6, 3) := by decide +kernel
theorem dX9_done_7 : decode cX9_done 7 = .ok (.bipush (-5), 2) := by decide +kernel
theorem dX9_done_9 : decode cX9_done 9 = .ok (.ireturn, 1) := by decide +kernel
theorem dX9_done_10 : decode cX9_done 10 = .ok (.iconst 0, 1) := by decide +kernel
theorem dX9_done_11 : decode cX9_done 11 = .ok (.istore_n 1, 1) := by decide +kernel
theorem dX9_done_12 : decode cX9_done 12 = .ok (.iload_n 1, 1) := by decide +kernel
theorem dX9_done_13 : decode cX9_done 13 = .ok (.bipush 35, 2) := by decide +kernel
theorem dX9_done_15 : decode cX9_done 15 = .ok (.if_icmp .ge 21, 3) := by decide +kernel
theorem dX9_done_18 : decode cX9_done 18 = .ok (.aload_n 0, 1) := by decide +kernel
theorem dX9_done_19 : decode cX9_done 19 = .ok (.getfield 7, 3) := by decide +kernel
theorem dX9_done_22 : decode cX9_done 22 = .ok (.iload_n 1, 1) := by decide +kernel
theorem dX9_done_23 : decode cX9_done 23 = .ok (.aload_n 0, 1) := by decide +kernel
theorem dX9_done_24 : decode cX9_done 24 = .ok (.getfield 13, 3) := by decide +kernel
theorem dX9_done_27 : decode cX9_done 27 = .ok (.iload_n 1, 1) := by decide +kernel
theorem dX9_done_28 : decode cX9_done 28 = .ok (.iaload, 1) := by decide +kernel
theorem dX9_done_29 : decode cX9_done 29 = .ok (.iastore, 1) := by decide +kernel
theorem dX9_done_30 : decode cX9_done 30 = .ok (.iinc 1 1, 3) := by decide +kernel
theorem dX9_done_33 : decode cX9_done 33 = .ok (.goto (-21), 3) := by decide +kernel
theorem dX9_done_36 : decode cX9_done 36 = .ok (.aload_n 0, 1) := by decide +kernel
theorem dX9_done_37 : decode cX9_done 37 = .ok (.iconst 0, 1) := by decide +kernel
theorem dX9_done_38 : decode cX9_done 38 = .ok (.putfield 50, 3) := by decide +kernel
theorem dX9_done_41 : decode cX9_done 41 = .ok (.aload_n 0, 1) := by decide +kernel
theorem dX9_done_42 : decode cX9_done 42 = .ok (.getfield 84, 3) := by decide +kernel
theorem dX9_done_45 : decode cX9_done 45 = .ok (.ireturn, 1) := by decide +kernel
def wtX9_done : List Cond := .code yX9_done cX9_done 2 (some .int) :: (([.fieldLink RX9 7 "DriftKinModel" "book" "[I", .fieldLink RX9 13 "DriftKinModel" "now" "[I", .fieldLink RX9 50 "DriftKinModel" "signs" "I", .fieldLink RX9 84 "DriftKinModel" "acts" "I"]) ++ ((u_ws RX9 TX9 15) ++ ((wsV RX9 103 RX9 yX9_barOfYears wtX9_barOfYears) ++ [])))
theorem imX9_done_own : ∀ w ∈ ([.fieldLink RX9 7 "DriftKinModel" "book" "[I", .fieldLink RX9 13 "DriftKinModel" "now" "[I", .fieldLink RX9 50 "DriftKinModel" "signs" "I", .fieldLink RX9 84 "DriftKinModel" "acts" "I"] : List Cond), w ∈ wtX9_done := fun w h => List.mem_cons_of_mem _ (inl h)
theorem imX9_done_u_X9 : ∀ w ∈ (u_ws RX9 TX9 15 : List Cond), w ∈ wtX9_done := fun w h => List.mem_cons_of_mem _ (inr (inl h))
theorem imX9_done_c_X9_barOfYears : ∀ w ∈ (wsV RX9 103 RX9 yX9_barOfYears wtX9_barOfYears : List Cond), w ∈ wtX9_done := fun w h => List.mem_cons_of_mem _ (inr (inr (inl h)))
theorem gdX9_done : ∀ w ∈ wtX9_done, Gd w := gdc rfl (gda (gdl (by decide +kernel)) (gda (gdu _ _ _) (gda (gda (gdl (by decide +kernel)) gdX9_barOfYears) gdn)))
theorem gcX9_done_X9_barOfYears : GoodIn wtX9_done (wsV RX9 103 RX9 yX9_barOfYears wtX9_barOfYears) := fun w h => ⟨imX9_done_c_X9_barOfYears w h, (gda (gdl (by decide +kernel)) gdX9_barOfYears) w h⟩
def fX9_done_12 (v_signs : Int32) (v_weddings : Int32) (v_reason : Int32) (v_acts : Int32) (v_now : Nat → Int32) : Nat → (Nat → Int32) → Int32 → Option (Int32 × Int32 × Int32 × Int32 × Int32 × (Nat → Int32) × (Nat → Int32))
  | 0, _, _ => none
  | n + 1, v_book, x1 =>
    if (35 : Int32) ≤ x1 then
      some (v_acts, (0 : Int32), v_weddings, v_reason, v_acts, v_book, v_now)
    else
      chk x1 35 (
        chk x1 35 (
          fX9_done_12 v_signs v_weddings v_reason v_acts v_now n (wr v_book x1 (rd v_now x1)) (x1 + (1 : Int32))))
def fX9_done (v_signs : Int32) (v_weddings : Int32) (v_reason : Int32) (v_acts : Int32) (v_book : Nat → Int32) (v_now : Nat → Int32) (v_of : Nat → Int32) (v_pad : Nat → Int32) : Option (Int32 × Int32 × Int32 × Int32 × Int32 × (Nat → Int32) × (Nat → Int32)) :=
  (fX9_barOfYears v_signs v_weddings v_reason v_acts v_book v_now v_of v_pad).bind (fun r1 =>
    if (0 : Int32) ≤ r1.1 then
      fX9_done_12 v_signs r1.2.1 r1.2.2.1 r1.2.2.2.1 r1.2.2.2.2 2000 v_book (0 : Int32)
    else
      some ((-5 : Int32), v_signs, r1.2.1, r1.2.2.1, r1.2.2.2.1, v_book, r1.2.2.2.2))
def wdX9_done (cI cZ : ClassId) (q0 : Nat) (q1 : Nat) (q2 : Nat) (q3 : Nat) (q4 : Nat) (d5 : Nat) (d6 : Nat) (d7 : Nat) (d8 : Nat) (d9 : Nat) (d10 : Nat)  (v_signs : Int32) (v_weddings : Int32) (v_reason : Int32) (v_acts : Int32) (v_book : Nat → Int32) (v_now : Nat → Int32) (v_of : Nat → Int32) (v_pad : Nat → Int32) (v_sights : Int32) : va_W := [(q0, .inr (9, [.ref q1, .ref q2, .ref q3, .int v_sights, .ref d5, .int v_signs, .ref q4, .int v_weddings, .int v_reason, .int v_acts, .ref d6, .ref d7, .ref d8, .ref d9, .ref d10])), (q1, .inl (cI, 35, .inl v_book)), (q2, .inl (cI, 35, .inl v_now)), (q3, .inl (cI, 60, .inl v_of)), (q4, .inl (cI, 60, .inl v_pad))]
abbrev rmX9_done : Jvm.Room := { frames := 4, cells := 0, slots := 0, locals := 88 }
theorem hyX9_done : yX9_done.cls ≠ "java/lang/invoke/MethodHandle" ∧ yX9_done.cls ≠ "java/lang/invoke/VarHandle" ∧ (parseMethodDescriptor yX9_done.desc).map (fun d => d.parameters.length) = some 0 := by decide +kernel
set_option maxHeartbeats 4000000 in
set_option maxRecDepth 100000 in
theorem mX9_done (l : Launch) (D : va_G) (cI cZ : ClassId) (q0 : Nat) (q1 : Nat) (q2 : Nat) (q3 : Nat) (q4 : Nat) (d5 : Nat) (d6 : Nat) (d7 : Nat) (d8 : Nat) (d9 : Nat) (d10 : Nat) (v_signs : Int32) (v_weddings : Int32) (v_reason : Int32) (v_acts : Int32) (v_book : Nat → Int32) (v_now : Nat → Int32) (v_of : Nat → Int32) (v_pad : Nat → Int32) (v_sights : Int32) (z : Int32 × Int32 × Int32 × Int32 × Int32 × (Nat → Int32) × (Nat → Int32)) (hF : fX9_done v_signs v_weddings v_reason v_acts v_book v_now v_of v_pad = some z) : mp l yX9_done wtX9_done rmX9_done D cI cZ [.ref q0] (wdX9_done cI cZ q0 q1 q2 q3 q4 d5 d6 d7 d8 d9 d10 v_signs v_weddings v_reason v_acts v_book v_now v_of v_pad v_sights) (some (.int z.1)) (wdX9_done cI cZ q0 q1 q2 q3 q4 d5 d6 d7 d8 d9 d10 z.2.1 z.2.2.1 z.2.2.2.1 z.2.2.2.2.1 z.2.2.2.2.2.1 z.2.2.2.2.2.2 v_of v_pad v_sights) := by
  refine mp_i (lv0 := [(0, .ref q0)]) cX9_done 2 z.1 (by decide) rfl (Nat.le_of_ble_eq_true rfl) rfl (fun E h hend0 => ?_)
  have hend : ∀ (z' : Int32 × Int32 × Int32 × Int32 × Int32 × (Nat → Int32) × (Nat → Int32)), some z' = some z → ∀ (pc : Nat) (lv : List (Nat × Value)), decode cX9_done pc = .ok (.ireturn, 1) → G l D E 2 0 0 (wdX9_done cI cZ q0 q1 q2 q3 q4 d5 d6 d7 d8 d9 d10 (z'.2.1) (z'.2.2.1) (z'.2.2.2.1) (z'.2.2.2.2.1) (z'.2.2.2.2.2.1) (z'.2.2.2.2.2.2) v_of v_pad v_sights) pc lv [.int z'.1] := fun z' e => by cases e; exact hend0
  clear hend0
  have hL12 : ∀ (n12 : Nat) (v_signs : Int32) (v_weddings : Int32) (v_reason : Int32) (v_acts : Int32) (v_book : Nat → Int32) (v_now : Nat → Int32) (x1 : Int32), fX9_done_12 v_signs v_weddings v_reason v_acts v_now n12 v_book x1 = some z → G l D E 2 0 0 (wdX9_done cI cZ q0 q1 q2 q3 q4 d5 d6 d7 d8 d9 d10 v_signs v_weddings v_reason v_acts v_book v_now v_of v_pad v_sights) 12 [(0, .ref q0), (1, .int x1)] [] := by
    intro n12
    induction n12 with
    | zero =>
      intro v_signs v_weddings v_reason v_acts v_book v_now x1 hF
      rw [fX9_done_12] at hF
      cases hF
    | succ n12 ih12 =>
      intro v_signs v_weddings v_reason v_acts v_book v_now x1 hF
      rw [fX9_done_12] at hF
      refine g_iload_n (np := 13) h 1 rfl rfl dX9_done_12 rfl ?_
      refine g_bipush (np := 15) (v := (35 : Int32)) h (by decide) dX9_done_13 rfl ?_
      refine g_icmp_ge h hF dX9_done_15 (np := 18) rfl (tg := 36) rfl (fun c1001 hF => ?_) (fun c1001 hF => ?_)
      · refine g_aload_n (np := 37) h 0 rfl rfl dX9_done_36 rfl ?_
        refine g_iconst (np := 38) (v := (0 : Int32)) h (by decide) dX9_done_37 rfl ?_
        refine g_put (np := 41) (T := TX9) (Wd' := (wdX9_done cI cZ q0 q1 q2 q3 q4 d5 d6 d7 d8 d9 d10 (0 : Int32) v_weddings v_reason v_acts v_book v_now v_of v_pad v_sights)) h imX9_done_u_X9 tyX9_ok nmX9 0 9 rfl rfl 5 (by decide) (imX9_done_own _ (List.mem_of_getElem? (i := 2) rfl)) rfl rfl rfl (Nat.le_of_ble_eq_true rfl) rfl dX9_done_38 rfl ?_
        refine g_aload_n (np := 42) h 0 rfl rfl dX9_done_41 rfl ?_
        refine g_get (np := 45) (T := TX9) h imX9_done_u_X9 0 9 rfl rfl 9 (by decide) (imX9_done_own _ (List.mem_of_getElem? (i := 3) rfl)) rfl dX9_done_42 rfl ?_
        exact hend _ hF _ _ dX9_done_45
      · refine g_aload_n (np := 19) h 0 rfl rfl dX9_done_18 rfl ?_
        refine g_get (np := 22) (T := TX9) h imX9_done_u_X9 0 9 rfl rfl 0 (by decide) (imX9_done_own _ (List.mem_of_getElem? (i := 0) rfl)) rfl dX9_done_19 rfl ?_
        refine g_iload_n (np := 23) h 1 rfl rfl dX9_done_22 rfl ?_
        refine g_aload_n (np := 24) h 0 rfl rfl dX9_done_23 rfl ?_
        refine g_get (np := 27) (T := TX9) h imX9_done_u_X9 0 9 rfl rfl 1 (by decide) (imX9_done_own _ (List.mem_of_getElem? (i := 1) rfl)) rfl dX9_done_24 rfl ?_
        refine g_iload_n (np := 28) h 1 rfl rfl dX9_done_27 rfl ?_
        refine g_iald (np := 29) h 2 rfl hF dX9_done_28 rfl (fun hi1002 hF => ?_)
        refine g_iast (np := 30) (Wd' := (wdX9_done cI cZ q0 q1 q2 q3 q4 d5 d6 d7 d8 d9 d10 v_signs v_weddings v_reason v_acts (wr v_book x1 (rd v_now x1)) v_now v_of v_pad v_sights)) h 1 rfl hF rfl dX9_done_29 rfl (fun hi1003 hF => ?_)
        refine g_iinc (np := 33) (v := (x1 + (1 : Int32))) (lv' := [(1, .int (x1 + (1 : Int32))), (0, .ref q0)]) h 1 rfl rfl (by decide) rfl dX9_done_30 rfl ?_
        refine g_goto h dX9_done_33 (np := 12) rfl ?_
        refine g_lv [1, 0] rfl ?_
        exact ih12 v_signs v_weddings v_reason v_acts (wr v_book x1 (rd v_now x1)) v_now (x1 + (1 : Int32)) hF
  unfold fX9_done at hF
  refine g_aload_n (np := 1) h 0 rfl rfl dX9_done_0 rfl ?_
  obtain ⟨r1, hr1, hF⟩ := Option.bind_eq_some_iff.mp hF
  refine g_callV (np := 4) (Wd' := (wdX9_done cI cZ q0 q1 q2 q3 q4 d5 d6 d7 d8 d9 d10 v_signs r1.2.1 r1.2.2.1 r1.2.2.2.1 v_book r1.2.2.2.2 v_of v_pad v_sights)) (As := []) h (mX9_barOfYears l D cI cZ q0 q1 q2 q3 q4 d5 d6 d7 d8 d9 d10 v_signs v_weddings v_reason v_acts v_book v_now v_of v_pad v_sights r1 hr1) gcX9_done_X9_barOfYears rfl ⟨rfl, rfl⟩ ⟨rfl, hyX9_barOfYears⟩ rfl 9 0 rfl rfl rfl rfl rfl rfl ⟨Nat.zero_le _, Nat.zero_le _⟩ [0, 1, 2, 3, 4] [] (N := 5) (by decide +kernel) rfl rfl rfl rfl rfl dX9_done_1 rfl ?_
  refine g_if_ge h hF dX9_done_4 (np := 7) rfl (tg := 10) rfl (fun c2 hF => ?_) (fun c2 hF => ?_)
  · refine g_iconst (np := 11) (v := (0 : Int32)) h (by decide) dX9_done_10 rfl ?_
    refine g_istore_n (np := 12) (lv' := [(1, .int (0 : Int32)), (0, .ref q0)]) h rfl (by decide) rfl dX9_done_11 rfl ?_
    refine g_lv [1, 0] rfl ?_
    exact hL12 _ v_signs r1.2.1 r1.2.2.1 r1.2.2.2.1 v_book r1.2.2.2.2 (0 : Int32) hF
  · refine g_bipush (np := 9) (v := (-5 : Int32)) h (by decide) dX9_done_7 rfl ?_
    exact hend _ hF _ _ dX9_done_9
theorem dX9_where_0 : decode cX9_where 0 = .ok (.iload_n 1, 1) := by decide +kernel
theorem dX9_where_1 : decode cX9_where 1 = .ok (.invokestatic 45, 3) := by decide +kernel
theorem dX9_where_4 : decode cX9_where 4 = .ok (.ifCond .ne 5, 3) := by decide +kernel
theorem dX9_where_7 : decode cX9_where 7 = .ok (.iconst (-1), 1) := by decide +kernel
theorem dX9_where_8 : decode cX9_where 8 = .ok (.ireturn, 1) := by decide +kernel
theorem dX9_where_9 : decode cX9_where 9 = .ok (.aload_n 0, 1) := by decide +kernel
theorem dX9_where_10 : decode cX9_where 10 = .ok (.invokevirtual 103, 3) := by decide +kernel
theorem dX9_where_13 : decode cX9_where 13 = .ok (.ifCond .ge 8, 3) := by decide +kernel
theorem dX9_where_16 : decode cX9_where 16 = .ok (.bipush (-5), 2) := by decide +kernel
theorem dX9_where_18 : decode cX9_where 18 = .ok (.goto 9, 3) := by decide +kernel
theorem dX9_where_21 : decode cX9_where 21 = .ok (.aload_n 0, 1) := by decide +kernel
theorem dX9_where_22 : decode cX9_where 22 = .ok (.getfield 13, 3) := by decide +kernel
theorem dX9_where_25 : decode cX9_where 25 = .ok (.iload_n 1, 1) := by decide +kernel
theorem dX9_where_26 : decode cX9_where 26 = .ok (.iaload, 1) := by decide +kernel
theorem dX9_where_27 : decode cX9_where 27 = .ok (.ireturn, 1) := by decide +kernel
def wtX9_where : List Cond := .code yX9_where cX9_where 2 (some .int) :: (([.fieldLink RX9 13 "DriftKinModel" "now" "[I"]) ++ ((u_ws RX9 TX9 15) ++ ((va_wsS RX9 45 yX9_isPiece wtX9_isPiece) ++ ((wsV RX9 103 RX9 yX9_barOfYears wtX9_barOfYears) ++ []))))
theorem imX9_where_own : ∀ w ∈ ([.fieldLink RX9 13 "DriftKinModel" "now" "[I"] : List Cond), w ∈ wtX9_where := fun w h => List.mem_cons_of_mem _ (inl h)
theorem imX9_where_u_X9 : ∀ w ∈ (u_ws RX9 TX9 15 : List Cond), w ∈ wtX9_where := fun w h => List.mem_cons_of_mem _ (inr (inl h))
theorem imX9_where_c_X9_isPiece : ∀ w ∈ (va_wsS RX9 45 yX9_isPiece wtX9_isPiece : List Cond), w ∈ wtX9_where := fun w h => List.mem_cons_of_mem _ (inr (inr (inl h)))
theorem imX9_where_c_X9_barOfYears : ∀ w ∈ (wsV RX9 103 RX9 yX9_barOfYears wtX9_barOfYears : List Cond), w ∈ wtX9_where := fun w h => List.mem_cons_of_mem _ (inr (inr (inr (inl h))))
theorem gdX9_where : ∀ w ∈ wtX9_where, Gd w := gdc rfl (gda (gdl (by decide +kernel)) (gda (gdu _ _ _) (gda (gda (gdl (by decide +kernel)) gdX9_isPiece) (gda (gda (gdl (by decide +kernel)) gdX9_barOfYears) gdn))))
theorem gcX9_where_X9_isPiece : GoodIn wtX9_where (va_wsS RX9 45 yX9_isPiece wtX9_isPiece) := fun w h => ⟨imX9_where_c_X9_isPiece w h, (gda (gdl (by decide +kernel)) gdX9_isPiece) w h⟩
theorem gcX9_where_X9_barOfYears : GoodIn wtX9_where (wsV RX9 103 RX9 yX9_barOfYears wtX9_barOfYears) := fun w h => ⟨imX9_where_c_X9_barOfYears w h, (gda (gdl (by decide +kernel)) gdX9_barOfYears) w h⟩
def fX9_where (v_signs : Int32) (v_weddings : Int32) (v_reason : Int32) (v_acts : Int32) (v_book : Nat → Int32) (v_now : Nat → Int32) (v_of : Nat → Int32) (v_pad : Nat → Int32) (x1 : Int32) : Option (Int32 × Int32 × Int32 × Int32 × (Nat → Int32)) :=
  (fX9_isPiece x1).bind (fun r1 =>
    if r1 = (0 : Int32) then
      some ((-1 : Int32), v_weddings, v_reason, v_acts, v_now)
    else
      (fX9_barOfYears v_signs v_weddings v_reason v_acts v_book v_now v_of v_pad).bind (fun r3 =>
        if (0 : Int32) ≤ r3.1 then
          chk x1 35 (
            some ((rd r3.2.2.2.2 x1), r3.2.1, r3.2.2.1, r3.2.2.2.1, r3.2.2.2.2))
        else
          some ((-5 : Int32), r3.2.1, r3.2.2.1, r3.2.2.2.1, r3.2.2.2.2)))
def wdX9_where (cI cZ : ClassId) (q0 : Nat) (q1 : Nat) (q2 : Nat) (q3 : Nat) (q4 : Nat) (d5 : Nat) (d6 : Nat) (d7 : Nat) (d8 : Nat) (d9 : Nat) (d10 : Nat)  (v_signs : Int32) (v_weddings : Int32) (v_reason : Int32) (v_acts : Int32) (v_book : Nat → Int32) (v_now : Nat → Int32) (v_of : Nat → Int32) (v_pad : Nat → Int32) (v_sights : Int32) : va_W := [(q0, .inr (9, [.ref q1, .ref q2, .ref q3, .int v_sights, .ref d5, .int v_signs, .ref q4, .int v_weddings, .int v_reason, .int v_acts, .ref d6, .ref d7, .ref d8, .ref d9, .ref d10])), (q1, .inl (cI, 35, .inl v_book)), (q2, .inl (cI, 35, .inl v_now)), (q3, .inl (cI, 60, .inl v_of)), (q4, .inl (cI, 60, .inl v_pad))]
abbrev rmX9_where : Jvm.Room := { frames := 4, cells := 0, slots := 0, locals := 88 }
theorem hyX9_where : yX9_where.cls ≠ "java/lang/invoke/MethodHandle" ∧ yX9_where.cls ≠ "java/lang/invoke/VarHandle" ∧ (parseMethodDescriptor yX9_where.desc).map (fun d => d.parameters.length) = some 1 := by decide +kernel
set_option maxHeartbeats 4000000 in
set_option maxRecDepth 100000 in
theorem mX9_where (l : Launch) (D : va_G) (cI cZ : ClassId) (q0 : Nat) (q1 : Nat) (q2 : Nat) (q3 : Nat) (q4 : Nat) (d5 : Nat) (d6 : Nat) (d7 : Nat) (d8 : Nat) (d9 : Nat) (d10 : Nat) (v_signs : Int32) (v_weddings : Int32) (v_reason : Int32) (v_acts : Int32) (v_book : Nat → Int32) (v_now : Nat → Int32) (v_of : Nat → Int32) (v_pad : Nat → Int32) (v_sights : Int32) (x1 : Int32) (z : Int32 × Int32 × Int32 × Int32 × (Nat → Int32)) (hF : fX9_where v_signs v_weddings v_reason v_acts v_book v_now v_of v_pad x1 = some z) : mp l yX9_where wtX9_where rmX9_where D cI cZ [.ref q0, .int x1] (wdX9_where cI cZ q0 q1 q2 q3 q4 d5 d6 d7 d8 d9 d10 v_signs v_weddings v_reason v_acts v_book v_now v_of v_pad v_sights) (some (.int z.1)) (wdX9_where cI cZ q0 q1 q2 q3 q4 d5 d6 d7 d8 d9 d10 v_signs z.2.1 z.2.2.1 z.2.2.2.1 v_book z.2.2.2.2 v_of v_pad v_sights) := by
  refine mp_i (lv0 := [(0, .ref q0), (1, .int x1)]) cX9_where 2 z.1 (by decide) rfl (Nat.le_of_ble_eq_true rfl) rfl (fun E h hend0 => ?_)
  have hend : ∀ (z' : Int32 × Int32 × Int32 × Int32 × (Nat → Int32)), some z' = some z → ∀ (pc : Nat) (lv : List (Nat × Value)), decode cX9_where pc = .ok (.ireturn, 1) → G l D E 2 0 0 (wdX9_where cI cZ q0 q1 q2 q3 q4 d5 d6 d7 d8 d9 d10 v_signs (z'.2.1) (z'.2.2.1) (z'.2.2.2.1) v_book (z'.2.2.2.2) v_of v_pad v_sights) pc lv [.int z'.1] := fun z' e => by cases e; exact hend0
  clear hend0
  unfold fX9_where at hF
  refine g_iload_n (np := 1) h 1 rfl rfl dX9_where_0 rfl ?_
  obtain ⟨r1, hr1, hF⟩ := Option.bind_eq_some_iff.mp hF
  refine g_callS (np := 4) (Wd' := (wdX9_where cI cZ q0 q1 q2 q3 q4 d5 d6 d7 d8 d9 d10 v_signs v_weddings v_reason v_acts v_book v_now v_of v_pad v_sights)) (As := [.int x1]) h (mX9_isPiece l D cI cZ x1 r1 hr1) gcX9_where_X9_isPiece rfl ⟨rfl, rfl⟩ hyX9_isPiece rfl rfl rfl rfl ⟨Nat.zero_le _, Nat.zero_le _⟩ [] [0, 1, 2, 3, 4] (N := 5) (by decide +kernel) rfl rfl rfl rfl rfl dX9_where_1 rfl ?_
  refine g_if_ne h hF dX9_where_4 (np := 7) rfl (tg := 9) rfl (fun c2 hF => ?_) (fun c2 hF => ?_)
  · refine g_aload_n (np := 10) h 0 rfl rfl dX9_where_9 rfl ?_
    obtain ⟨r3, hr3, hF⟩ := Option.bind_eq_some_iff.mp hF
    refine g_callV (np := 13) (Wd' := (wdX9_where cI cZ q0 q1 q2 q3 q4 d5 d6 d7 d8 d9 d10 v_signs r3.2.1 r3.2.2.1 r3.2.2.2.1 v_book r3.2.2.2.2 v_of v_pad v_sights)) (As := []) h (mX9_barOfYears l D cI cZ q0 q1 q2 q3 q4 d5 d6 d7 d8 d9 d10 v_signs v_weddings v_reason v_acts v_book v_now v_of v_pad v_sights r3 hr3) gcX9_where_X9_barOfYears rfl ⟨rfl, rfl⟩ ⟨rfl, hyX9_barOfYears⟩ rfl 9 0 rfl rfl rfl rfl rfl rfl ⟨Nat.zero_le _, Nat.zero_le _⟩ [0, 1, 2, 3, 4] [] (N := 5) (by decide +kernel) rfl rfl rfl rfl rfl dX9_where_10 rfl ?_
    refine g_if_ge h hF dX9_where_13 (np := 16) rfl (tg := 21) rfl (fun c4 hF => ?_) (fun c4 hF => ?_)
    · refine g_aload_n (np := 22) h 0 rfl rfl dX9_where_21 rfl ?_
      refine g_get (np := 25) (T := TX9) h imX9_where_u_X9 0 9 rfl rfl 1 (by decide) (imX9_where_own _ (List.mem_of_getElem? (i := 0) rfl)) rfl dX9_where_22 rfl ?_
      refine g_iload_n (np := 26) h 1 rfl rfl dX9_where_25 rfl ?_
      refine g_iald (np := 27) h 2 rfl hF dX9_where_26 rfl (fun hi5 hF => ?_)
      exact hend _ hF _ _ dX9_where_27
    · refine g_bipush (np := 18) (v := (-5 : Int32)) h (by decide) dX9_where_16 rfl ?_
      refine g_goto h dX9_where_18 (np := 27) rfl ?_
      exact hend _ hF _ _ dX9_where_27
  · refine g_iconst (np := 8) (v := (-1 : Int32)) h (by decide) dX9_where_7 rfl ?_
    exact hend _ hF _ _ dX9_where_8
theorem dX9_behind_0 : decode cX9_behind 0 = .ok (.iload_n 1, 1) := by decide +kernel
theorem dX9_behind_1 : decode cX9_behind 1 = .ok (.invokestatic 106, 3) := by decide +kernel
theorem dX9_behind_4 : decode cX9_behind 4 = .ok (.ifCond .ne 5, 3) := by decide +kernel
theorem dX9_behind_7 : decode cX9_behind 7 = .ok (.iconst (-1), 1) := by decide +kernel
theorem dX9_behind_8 : decode cX9_behind 8 = .ok (.ireturn, 1) := by decide +kernel
theorem dX9_behind_9 : decode cX9_behind 9 = .ok (.iload_n 2, 1) := by decide +kernel
theorem dX9_behind_10 : decode cX9_behind 10 = .ok (.iconst 0, 1) := by decide +kernel
theorem dX9_behind_11 : decode cX9_behind 11 = .ok (.iconst 2, 1) := by decide +kernel
theorem dX9_behind_12 : decode cX9_behind 12 = .ok (.invokestatic 41, 3) := by decide +kernel
theorem dX9_behind_15 : decode cX9_behind 15 = .ok (.ifCond .ne 6, 3) := by decide +kernel
theorem dX9_behind_18 : decode cX9_behind 18 = .ok (.bipush (-2), 2) := by decide +kernel
theorem dX9_behind_20 : decode cX9_behind 20 = .ok (.ireturn, 1) := by decide +kernel
theorem dX9_behind_21 : decode cX9_behind 21 = .ok (.aload_n 0, 1) := by decide +kernel
theorem dX9_behind_22 : decode cX9_behind 22 = .ok (.invokevirtual 103, 3) := by decide +kernel
theorem dX9_behind_25 : decode cX9_behind 25 = .ok (.ifCond .ge 8, 3) := by decide +kernel
theorem dX9_behind_28 : decode cX9_behind 28 = .ok (.bipush (-5), 2) := by decide +kernel
theorem dX9_behind_30 : decode cX9_behind 30 = .ok (.goto 17, 3) := by decide +kernel
theorem dX9_behind_33 : decode cX9_behind 33 = .ok (.aload_n 0, 1) := by decide +kernel
theorem dX9_behind_34 : decode cX9_behind 34 = .ok (.getfield 13, 3) := by decide +kernel
theorem dX9_behind_37 : decode cX9_behind 37 = .ok (.bipush 10, 2) := by decide +kernel
theorem dX9_behind_39 : decode cX9_behind 39 = .ok (.bipush 8, 2) := by decide +kernel
theorem dX9_behind_41 : decode cX9_behind 41 = .ok (.iload_n 2, 1) := by decide +kernel
theorem dX9_behind_42 : decode cX9_behind 42 = .ok (.imul, 1) := by decide +kernel
theorem dX9_behind_43 : decode cX9_behind 43 = .ok (.iadd, 1) := by decide +kernel
theorem dX9_behind_44 : decode cX9_behind 44 = .ok (.iload_n 1, 1) := by decide +kernel
theorem dX9_behind_45 : decode cX9_behind 45 = .ok (.iadd, 1) := by decide +kernel
theorem dX9_behind_46 : decode cX9_behind 46 = .ok (.iaload, 1) := by decide +kernel
theorem dX9_behind_47 : decode cX9_behind 47 = .ok (.ireturn, 1) := by decide +kernel
def wtX9_behind : List Cond := .code yX9_behind cX9_behind 3 (some .int) :: (([.fieldLink RX9 13 "DriftKinModel" "now" "[I"]) ++ ((u_ws RX9 TX9 15) ++ ((va_wsS RX9 106 yX9_isHouse wtX9_isHouse) ++ ((va_wsS RX9 41 yX9_in wtX9_in) ++ ((wsV RX9 103 RX9 yX9_barOfYears wtX9_barOfYears) ++ [])))))
theorem imX9_behind_own : ∀ w ∈ ([.fieldLink RX9 13 "DriftKinModel" "now" "[I"] : List Cond), w ∈ wtX9_behind := fun w h => List.mem_cons_of_mem _ (inl h)
theorem imX9_behind_u_X9 : ∀ w ∈ (u_ws RX9 TX9 15 : List Cond), w ∈ wtX9_behind := fun w h => List.mem_cons_of_mem _ (inr (inl h))
theorem imX9_behind_c_X9_isHouse : ∀ w ∈ (va_wsS RX9 106 yX9_isHouse wtX9_isHouse : List Cond), w ∈ wtX9_behind := fun w h => List.mem_cons_of_mem _ (inr (inr (inl h)))
theorem imX9_behind_c_X9_in : ∀ w ∈ (va_wsS RX9 41 yX9_in wtX9_in : List Cond), w ∈ wtX9_behind := fun w h => List.mem_cons_of_mem _ (inr (inr (inr (inl h))))
theorem imX9_behind_c_X9_barOfYears : ∀ w ∈ (wsV RX9 103 RX9 yX9_barOfYears wtX9_barOfYears : List Cond), w ∈ wtX9_behind := fun w h => List.mem_cons_of_mem _ (inr (inr (inr (inr (inl h)))))
theorem gdX9_behind : ∀ w ∈ wtX9_behind, Gd w := gdc rfl (gda (gdl (by decide +kernel)) (gda (gdu _ _ _) (gda (gda (gdl (by decide +kernel)) gdX9_isHouse) (gda (gda (gdl (by decide +kernel)) gdX9_in) (gda (gda (gdl (by decide +kernel)) gdX9_barOfYears) gdn)))))
theorem gcX9_behind_X9_isHouse : GoodIn wtX9_behind (va_wsS RX9 106 yX9_isHouse wtX9_isHouse) := fun w h => ⟨imX9_behind_c_X9_isHouse w h, (gda (gdl (by decide +kernel)) gdX9_isHouse) w h⟩
theorem gcX9_behind_X9_in : GoodIn wtX9_behind (va_wsS RX9 41 yX9_in wtX9_in) := fun w h => ⟨imX9_behind_c_X9_in w h, (gda (gdl (by decide +kernel)) gdX9_in) w h⟩
theorem gcX9_behind_X9_barOfYears : GoodIn wtX9_behind (wsV RX9 103 RX9 yX9_barOfYears wtX9_barOfYears) := fun w h => ⟨imX9_behind_c_X9_barOfYears w h, (gda (gdl (by decide +kernel)) gdX9_barOfYears) w h⟩
def fX9_behind (v_signs : Int32) (v_weddings : Int32) (v_reason : Int32) (v_acts : Int32) (v_book : Nat → Int32) (v_now : Nat → Int32) (v_of : Nat → Int32) (v_pad : Nat → Int32) (x1 : Int32) (x2 : Int32) : Option (Int32 × Int32 × Int32 × Int32 × (Nat → Int32)) :=
  (fX9_isHouse x1).bind (fun r1 =>
    if r1 = (0 : Int32) then
      some ((-1 : Int32), v_weddings, v_reason, v_acts, v_now)
    else
      (fX9_in x2 (0 : Int32) (2 : Int32)).bind (fun r3 =>
        if r3 = (0 : Int32) then
          some ((-2 : Int32), v_weddings, v_reason, v_acts, v_now)
        else
          (fX9_barOfYears v_signs v_weddings v_reason v_acts v_book v_now v_of v_pad).bind (fun r5 =>
            if (0 : Int32) ≤ r5.1 then
              chk (((10 : Int32) + ((8 : Int32) * x2)) + x1) 35 (
                some ((rd r5.2.2.2.2 (((10 : Int32) + ((8 : Int32) * x2)) + x1)), r5.2.1, r5.2.2.1, r5.2.2.2.1, r5.2.2.2.2))
            else
              some ((-5 : Int32), r5.2.1, r5.2.2.1, r5.2.2.2.1, r5.2.2.2.2))))
def wdX9_behind (cI cZ : ClassId) (q0 : Nat) (q1 : Nat) (q2 : Nat) (q3 : Nat) (q4 : Nat) (d5 : Nat) (d6 : Nat) (d7 : Nat) (d8 : Nat) (d9 : Nat) (d10 : Nat)  (v_signs : Int32) (v_weddings : Int32) (v_reason : Int32) (v_acts : Int32) (v_book : Nat → Int32) (v_now : Nat → Int32) (v_of : Nat → Int32) (v_pad : Nat → Int32) (v_sights : Int32) : va_W := [(q0, .inr (9, [.ref q1, .ref q2, .ref q3, .int v_sights, .ref d5, .int v_signs, .ref q4, .int v_weddings, .int v_reason, .int v_acts, .ref d6, .ref d7, .ref d8, .ref d9, .ref d10])), (q1, .inl (cI, 35, .inl v_book)), (q2, .inl (cI, 35, .inl v_now)), (q3, .inl (cI, 60, .inl v_of)), (q4, .inl (cI, 60, .inl v_pad))]
abbrev rmX9_behind : Jvm.Room := { frames := 4, cells := 0, slots := 0, locals := 88 }
theorem hyX9_behind : yX9_behind.cls ≠ "java/lang/invoke/MethodHandle" ∧ yX9_behind.cls ≠ "java/lang/invoke/VarHandle" ∧ (parseMethodDescriptor yX9_behind.desc).map (fun d => d.parameters.length) = some 2 := by decide +kernel
set_option maxHeartbeats 4000000 in
set_option maxRecDepth 100000 in
theorem mX9_behind (l : Launch) (D : va_G) (cI cZ : ClassId) (q0 : Nat) (q1 : Nat) (q2 : Nat) (q3 : Nat) (q4 : Nat) (d5 : Nat) (d6 : Nat) (d7 : Nat) (d8 : Nat) (d9 : Nat) (d10 : Nat) (v_signs : Int32) (v_weddings : Int32) (v_reason : Int32) (v_acts : Int32) (v_book : Nat → Int32) (v_now : Nat → Int32) (v_of : Nat → Int32) (v_pad : Nat → Int32) (v_sights : Int32) (x1 : Int32) (x2 : Int32) (z : Int32 × Int32 × Int32 × Int32 × (Nat → Int32)) (hF : fX9_behind v_signs v_weddings v_reason v_acts v_book v_now v_of v_pad x1 x2 = some z) : mp l yX9_behind wtX9_behind rmX9_behind D cI cZ [.ref q0, .int x1, .int x2] (wdX9_behind cI cZ q0 q1 q2 q3 q4 d5 d6 d7 d8 d9 d10 v_signs v_weddings v_reason v_acts v_book v_now v_of v_pad v_sights) (some (.int z.1)) (wdX9_behind cI cZ q0 q1 q2 q3 q4 d5 d6 d7 d8 d9 d10 v_signs z.2.1 z.2.2.1 z.2.2.2.1 v_book z.2.2.2.2 v_of v_pad v_sights) := by
  refine mp_i (lv0 := [(0, .ref q0), (1, .int x1), (2, .int x2)]) cX9_behind 3 z.1 (by decide) rfl (Nat.le_of_ble_eq_true rfl) rfl (fun E h hend0 => ?_)
  have hend : ∀ (z' : Int32 × Int32 × Int32 × Int32 × (Nat → Int32)), some z' = some z → ∀ (pc : Nat) (lv : List (Nat × Value)), decode cX9_behind pc = .ok (.ireturn, 1) → G l D E 3 0 0 (wdX9_behind cI cZ q0 q1 q2 q3 q4 d5 d6 d7 d8 d9 d10 v_signs (z'.2.1) (z'.2.2.1) (z'.2.2.2.1) v_book (z'.2.2.2.2) v_of v_pad v_sights) pc lv [.int z'.1] := fun z' e => by cases e; exact hend0
  clear hend0
  unfold fX9_behind at hF
  refine g_iload_n (np := 1) h 1 rfl rfl dX9_behind_0 rfl ?_
  obtain ⟨r1, hr1, hF⟩ := Option.bind_eq_some_iff.mp hF
  refine g_callS (np := 4) (Wd' := (wdX9_behind cI cZ q0 q1 q2 q3 q4 d5 d6 d7 d8 d9 d10 v_signs v_weddings v_reason v_acts v_book v_now v_of v_pad v_sights)) (As := [.int x1]) h (mX9_isHouse l D cI cZ x1 r1 hr1) gcX9_behind_X9_isHouse rfl ⟨rfl, rfl⟩ hyX9_isHouse rfl rfl rfl rfl ⟨Nat.zero_le _, Nat.zero_le _⟩ [] [0, 1, 2, 3, 4] (N := 5) (by decide +kernel) rfl rfl rfl rfl rfl dX9_behind_1 rfl ?_
  refine g_if_ne h hF dX9_behind_4 (np := 7) rfl (tg := 9) rfl (fun c2 hF => ?_) (fun c2 hF => ?_)
  · refine g_iload_n (np := 10) h 2 rfl rfl dX9_behind_9 rfl ?_
    refine g_iconst (np := 11) (v := (0 : Int32)) h (by decide) dX9_behind_10 rfl ?_
    refine g_iconst (np := 12) (v := (2 : Int32)) h (by decide) dX9_behind_11 rfl ?_
    obtain ⟨r3, hr3, hF⟩ := Option.bind_eq_some_iff.mp hF
    refine g_callS (np := 15) (Wd' := (wdX9_behind cI cZ q0 q1 q2 q3 q4 d5 d6 d7 d8 d9 d10 v_signs v_weddings v_reason v_acts v_book v_now v_of v_pad v_sights)) (As := [.int x2, .int (0 : Int32), .int (2 : Int32)]) h (mX9_in l D cI cZ x2 (0 : Int32) (2 : Int32) r3 hr3) gcX9_behind_X9_in rfl ⟨rfl, rfl⟩ hyX9_in rfl rfl rfl rfl ⟨Nat.zero_le _, Nat.zero_le _⟩ [] [0, 1, 2, 3, 4] (N := 5) (by decide +kernel) rfl rfl rfl rfl rfl dX9_behind_12 rfl ?_
    refine g_if_ne h hF dX9_behind_15 (np := 18) rfl (tg := 21) rfl (fun c4 hF => ?_) (fun c4 hF => ?_)
    · refine g_aload_n (np := 22) h 0 rfl rfl dX9_behind_21 rfl ?_
      obtain ⟨r5, hr5, hF⟩ := Option.bind_eq_some_iff.mp hF
      refine g_callV (np := 25) (Wd' := (wdX9_behind cI cZ q0 q1 q2 q3 q4 d5 d6 d7 d8 d9 d10 v_signs r5.2.1 r5.2.2.1 r5.2.2.2.1 v_book r5.2.2.2.2 v_of v_pad v_sights)) (As := []) h (mX9_barOfYears l D cI cZ q0 q1 q2 q3 q4 d5 d6 d7 d8 d9 d10 v_signs v_weddings v_reason v_acts v_book v_now v_of v_pad v_sights r5 hr5) gcX9_behind_X9_barOfYears rfl ⟨rfl, rfl⟩ ⟨rfl, hyX9_barOfYears⟩ rfl 9 0 rfl rfl rfl rfl rfl rfl ⟨Nat.zero_le _, Nat.zero_le _⟩ [0, 1, 2, 3, 4] [] (N := 5) (by decide +kernel) rfl rfl rfl rfl rfl dX9_behind_22 rfl ?_
      refine g_if_ge h hF dX9_behind_25 (np := 28) rfl (tg := 33) rfl (fun c6 hF => ?_) (fun c6 hF => ?_)
      · refine g_aload_n (np := 34) h 0 rfl rfl dX9_behind_33 rfl ?_
        refine g_get (np := 37) (T := TX9) h imX9_behind_u_X9 0 9 rfl rfl 1 (by decide) (imX9_behind_own _ (List.mem_of_getElem? (i := 0) rfl)) rfl dX9_behind_34 rfl ?_
        refine g_bipush (np := 39) (v := (10 : Int32)) h (by decide) dX9_behind_37 rfl ?_
        refine g_bipush (np := 41) (v := (8 : Int32)) h (by decide) dX9_behind_39 rfl ?_
        refine g_iload_n (np := 42) h 2 rfl rfl dX9_behind_41 rfl ?_
        refine g_imul (np := 43) h dX9_behind_42 rfl ?_
        refine g_iadd (np := 44) h dX9_behind_43 rfl ?_
        refine g_iload_n (np := 45) h 1 rfl rfl dX9_behind_44 rfl ?_
        refine g_iadd (np := 46) h dX9_behind_45 rfl ?_
        refine g_iald (np := 47) h 2 rfl hF dX9_behind_46 rfl (fun hi7 hF => ?_)
        exact hend _ hF _ _ dX9_behind_47
      · refine g_bipush (np := 30) (v := (-5 : Int32)) h (by decide) dX9_behind_28 rfl ?_
        refine g_goto h dX9_behind_30 (np := 47) rfl ?_
        exact hend _ hF _ _ dX9_behind_47
    · refine g_bipush (np := 20) (v := (-2 : Int32)) h (by decide) dX9_behind_18 rfl ?_
      exact hend _ hF _ _ dX9_behind_20
  · refine g_iconst (np := 8) (v := (-1 : Int32)) h (by decide) dX9_behind_7 rfl ?_
    exact hend _ hF _ _ dX9_behind_8
theorem dX9_then_0 : decode cX9_then 0 = .ok (.iload_n 1, 1) := by decide +kernel
theorem dX9_then_1 : decode cX9_then 1 = .ok (.iconst 0, 1) := by decide +kernel
theorem dX9_then_2 : decode cX9_then 2 = .ok (.iconst 2, 1) := by decide +kernel
theorem dX9_then_3 : decode cX9_then 3 = .ok (.invokestatic 41, 3) := by decide +kernel
theorem dX9_then_6 : decode cX9_then 6 = .ok (.ifCond .ne 6, 3) := by decide +kernel
theorem dX9_then_9 : decode cX9_then 9 = .ok (.bipush (-2), 2) := by decide +kernel
theorem dX9_then_11 : decode cX9_then 11 = .ok (.ireturn, 1) := by decide +kernel
theorem dX9_then_12 : decode cX9_then 12 = .ok (.aload_n 0, 1) := by decide +kernel
theorem dX9_then_13 : decode cX9_then 13 = .ok (.invokevirtual 103, 3) := by decide +kernel
theorem dX9_then_16 : decode cX9_then 16 = .ok (.ifCond .ge 6, 3) := by decide +kernel
theorem dX9_then_19 : decode cX9_then 19 = .ok (.bipush (-5), 2) := by decide +kernel
theorem dX9_then_21 : decode cX9_then 21 = .ok (.ireturn, 1) := by decide +kernel
theorem dX9_then_22 : decode cX9_then 22 = .ok (.iconst 0, 1) := by decide +kernel
theorem dX9_then_23 : decode cX9_then 23 = .ok (.istore_n 2, 1) := by decide +kernel
theorem dX9_then_24 : decode cX9_then 24 = .ok (.iconst 0, 1) := by decide +kernel
theorem dX9_then_25 : decode cX9_then 25 = .ok (.istore_n 3, 1) := by decide +kernel
theorem dX9_then_26 : decode cX9_then 26 = .ok (.iload_n 3, 1) := by decide +kernel
theorem dX9_then_27 : decode cX9_then 27 = .ok (.bipush 10, 2) := by decide +kernel
theorem dX9_then_29 : decode cX9_then 29 = .ok (.if_icmp .ge 29, 3) := by decide +kernel
theorem dX9_then_32 : decode cX9_then 32 = .ok (.iload_n 2, 1) := by decide +kernel
theorem dX9_then_33 : decode cX9_then 33 = .ok (.aload_n 0, 1) := by decide +kernel
theorem dX9_then_34 : decode cX9_then 34 = .ok (.getfield 13, 3) := by decide +kernel
theorem dX9_then_37 : decode cX9_then 37 = .ok (.iload_n 3, 1) := by decide +kernel
theorem dX9_then_38 : decode cX9_then 38 = .ok (.iaload, 1) := by decide +kernel
theorem dX9_then_39 : decode cX9_then 39 = .ok (.iconst 1, 1) := by decide +kernel
theorem dX9_then_40 : decode cX9_then 40 = .ok (.if_icmp .ne 9, 3) := by decide +kernel
theorem dX9_then_43 : decode cX9_then 43 = .ok (.iconst 1, 1) := by decide +kernel
theorem dX9_then_44 : decode cX9_then 44 = .ok (.iload_n 3, 1) := by decide +kernel
theorem dX9_then_45 : decode cX9_then 45 = .ok (.ishl, 1) := by decide +kernel
theorem dX9_then_46 : decode cX9_then 46 = .ok (.goto 4, 3) := by decide +kernel
theorem dX9_then_49 : decode cX9_then 49 = .ok (.iconst 0, 1) := by decide +kernel
theorem dX9_then_50 : decode cX9_then 50 = .ok (.ior, 1) := by decide +kernel
theorem dX9_then_51 : decode cX9_then 51 = .ok (.istore_n 2, 1) := by decide +kernel
theorem dX9_then_52 : decode cX9_then 52 = .ok (.iinc 3 1, 3) := by decide +kernel
theorem dX9_then_55 : decode cX9_then 55 = .ok (.goto (-29), 3) := by decide +kernel
theorem dX9_then_58 : decode cX9_then 58 = .ok (.iload_n 1, 1) := by decide +kernel
theorem dX9_then_59 : decode cX9_then 59 = .ok (.ifCond .ne 7, 3) := by decide +kernel
theorem dX9_then_62 : decode cX9_then 62 = .ok (.iload_n 2, 1) := by decide +kernel
theorem dX9_then_63 : decode cX9_then 63 = .ok (.goto 22, 3) := by decide +kernel
theorem dX9_then_66 : decode cX9_then 66 = .ok (.iload_n 1, 1) := by decide +kernel
theorem dX9_then_67 : decode cX9_then 67 = .ok (.iconst 1, 1) := by decide +kernel
theorem dX9_then_68 : decode cX9_then 68 = .ok (.if_icmp .ne 10, 3) := by decide +kernel
theorem dX9_then_71 : decode cX9_then 71 = .ok (.aload_n 0, 1) := by decide +kernel
theorem dX9_then_72 : decode cX9_then 72 = .ok (.getfield 64, 3) := by decide +kernel
theorem dX9_then_75 : decode cX9_then 75 = .ok (.goto 10, 3) := by decide +kernel
theorem dX9_then_78 : decode cX9_then 78 = .ok (.aload_n 0, 1) := by decide +kernel
theorem dX9_then_79 : decode cX9_then 79 = .ok (.getfield 13, 3) := by decide +kernel
theorem dX9_then_82 : decode cX9_then 82 = .ok (.bipush 34, 2) := by decide +kernel
theorem dX9_then_84 : decode cX9_then 84 = .ok (.iaload, 1) := by decide +kernel
theorem dX9_then_85 : decode cX9_then 85 = .ok (.ireturn, 1) := by decide +kernel
def wtX9_then : List Cond := .code yX9_then cX9_then 4 (some .int) :: (([.fieldLink RX9 13 "DriftKinModel" "now" "[I", .fieldLink RX9 64 "DriftKinModel" "weddings" "I"]) ++ ((u_ws RX9 TX9 15) ++ ((va_wsS RX9 41 yX9_in wtX9_in) ++ ((wsV RX9 103 RX9 yX9_barOfYears wtX9_barOfYears) ++ []))))
theorem imX9_then_own : ∀ w ∈ ([.fieldLink RX9 13 "DriftKinModel" "now" "[I", .fieldLink RX9 64 "DriftKinModel" "weddings" "I"] : List Cond), w ∈ wtX9_then := fun w h => List.mem_cons_of_mem _ (inl h)
theorem imX9_then_u_X9 : ∀ w ∈ (u_ws RX9 TX9 15 : List Cond), w ∈ wtX9_then := fun w h => List.mem_cons_of_mem _ (inr (inl h))
theorem imX9_then_c_X9_in : ∀ w ∈ (va_wsS RX9 41 yX9_in wtX9_in : List Cond), w ∈ wtX9_then := fun w h => List.mem_cons_of_mem _ (inr (inr (inl h)))
theorem imX9_then_c_X9_barOfYears : ∀ w ∈ (wsV RX9 103 RX9 yX9_barOfYears wtX9_barOfYears : List Cond), w ∈ wtX9_then := fun w h => List.mem_cons_of_mem _ (inr (inr (inr (inl h))))
theorem gdX9_then : ∀ w ∈ wtX9_then, Gd w := gdc rfl (gda (gdl (by decide +kernel)) (gda (gdu _ _ _) (gda (gda (gdl (by decide +kernel)) gdX9_in) (gda (gda (gdl (by decide +kernel)) gdX9_barOfYears) gdn))))
theorem gcX9_then_X9_in : GoodIn wtX9_then (va_wsS RX9 41 yX9_in wtX9_in) := fun w h => ⟨imX9_then_c_X9_in w h, (gda (gdl (by decide +kernel)) gdX9_in) w h⟩
theorem gcX9_then_X9_barOfYears : GoodIn wtX9_then (wsV RX9 103 RX9 yX9_barOfYears wtX9_barOfYears) := fun w h => ⟨imX9_then_c_X9_barOfYears w h, (gda (gdl (by decide +kernel)) gdX9_barOfYears) w h⟩
def fX9_then_26 (v_weddings : Int32) (v_reason : Int32) (v_acts : Int32) (v_now : Nat → Int32) (x1 : Int32) : Nat → Int32 → Int32 → Option (Int32 × Int32 × Int32 × Int32 × (Nat → Int32))
  | 0, _, _ => none
  | n + 1, x2, x3 =>
    if (10 : Int32) ≤ x3 then
      if x1 = (0 : Int32) then
        some (x2, v_weddings, v_reason, v_acts, v_now)
      else
        if x1 = (1 : Int32) then
          some (v_weddings, v_weddings, v_reason, v_acts, v_now)
        else
          chk (34 : Int32) 35 (
            some ((rd v_now (34 : Int32)), v_weddings, v_reason, v_acts, v_now))
    else
      chk x3 35 (
        if (rd v_now x3) = (1 : Int32) then
          fX9_then_26 v_weddings v_reason v_acts v_now x1 n (x2 ||| (jshl (1 : Int32) x3)) (x3 + (1 : Int32))
        else
          fX9_then_26 v_weddings v_reason v_acts v_now x1 n (x2 ||| (0 : Int32)) (x3 + (1 : Int32)))
def fX9_then (v_signs : Int32) (v_weddings : Int32) (v_reason : Int32) (v_acts : Int32) (v_book : Nat → Int32) (v_now : Nat → Int32) (v_of : Nat → Int32) (v_pad : Nat → Int32) (x1 : Int32) : Option (Int32 × Int32 × Int32 × Int32 × (Nat → Int32)) :=
  (fX9_in x1 (0 : Int32) (2 : Int32)).bind (fun r1 =>
    if r1 = (0 : Int32) then
      some ((-2 : Int32), v_weddings, v_reason, v_acts, v_now)
    else
      (fX9_barOfYears v_signs v_weddings v_reason v_acts v_book v_now v_of v_pad).bind (fun r3 =>
        if (0 : Int32) ≤ r3.1 then
          fX9_then_26 r3.2.1 r3.2.2.1 r3.2.2.2.1 r3.2.2.2.2 x1 2000 (0 : Int32) (0 : Int32)
        else
          some ((-5 : Int32), r3.2.1, r3.2.2.1, r3.2.2.2.1, r3.2.2.2.2)))
def wdX9_then (cI cZ : ClassId) (q0 : Nat) (q1 : Nat) (q2 : Nat) (q3 : Nat) (q4 : Nat) (d5 : Nat) (d6 : Nat) (d7 : Nat) (d8 : Nat) (d9 : Nat) (d10 : Nat)  (v_signs : Int32) (v_weddings : Int32) (v_reason : Int32) (v_acts : Int32) (v_book : Nat → Int32) (v_now : Nat → Int32) (v_of : Nat → Int32) (v_pad : Nat → Int32) (v_sights : Int32) : va_W := [(q0, .inr (9, [.ref q1, .ref q2, .ref q3, .int v_sights, .ref d5, .int v_signs, .ref q4, .int v_weddings, .int v_reason, .int v_acts, .ref d6, .ref d7, .ref d8, .ref d9, .ref d10])), (q1, .inl (cI, 35, .inl v_book)), (q2, .inl (cI, 35, .inl v_now)), (q3, .inl (cI, 60, .inl v_of)), (q4, .inl (cI, 60, .inl v_pad))]
abbrev rmX9_then : Jvm.Room := { frames := 4, cells := 0, slots := 0, locals := 88 }
theorem hyX9_then : yX9_then.cls ≠ "java/lang/invoke/MethodHandle" ∧ yX9_then.cls ≠ "java/lang/invoke/VarHandle" ∧ (parseMethodDescriptor yX9_then.desc).map (fun d => d.parameters.length) = some 1 := by decide +kernel
set_option maxHeartbeats 4000000 in
set_option maxRecDepth 100000 in
theorem mX9_then (l : Launch) (D : va_G) (cI cZ : ClassId) (q0 : Nat) (q1 : Nat) (q2 : Nat) (q3 : Nat) (q4 : Nat) (d5 : Nat) (d6 : Nat) (d7 : Nat) (d8 : Nat) (d9 : Nat) (d10 : Nat) (v_signs : Int32) (v_weddings : Int32) (v_reason : Int32) (v_acts : Int32) (v_book : Nat → Int32) (v_now : Nat → Int32) (v_of : Nat → Int32) (v_pad : Nat → Int32) (v_sights : Int32) (x1 : Int32) (z : Int32 × Int32 × Int32 × Int32 × (Nat → Int32)) (hF : fX9_then v_signs v_weddings v_reason v_acts v_book v_now v_of v_pad x1 = some z) : mp l yX9_then wtX9_then rmX9_then D cI cZ [.ref q0, .int x1] (wdX9_then cI cZ q0 q1 q2 q3 q4 d5 d6 d7 d8 d9 d10 v_signs v_weddings v_reason v_acts v_book v_now v_of v_pad v_sights) (some (.int z.1)) (wdX9_then cI cZ q0 q1 q2 q3 q4 d5 d6 d7 d8 d9 d10 v_signs z.2.1 z.2.2.1 z.2.2.2.1 v_book z.2.2.2.2 v_of v_pad v_sights) := by
  refine mp_i (lv0 := [(0, .ref q0), (1, .int x1)]) cX9_then 4 z.1 (by decide) rfl (Nat.le_of_ble_eq_true rfl) rfl (fun E h hend0 => ?_)
  have hend : ∀ (z' : Int32 × Int32 × Int32 × Int32 × (Nat → Int32)), some z' = some z → ∀ (pc : Nat) (lv : List (Nat × Value)), decode cX9_then pc = .ok (.ireturn, 1) → G l D E 4 0 0 (wdX9_then cI cZ q0 q1 q2 q3 q4 d5 d6 d7 d8 d9 d10 v_signs (z'.2.1) (z'.2.2.1) (z'.2.2.2.1) v_book (z'.2.2.2.2) v_of v_pad v_sights) pc lv [.int z'.1] := fun z' e => by cases e; exact hend0
  clear hend0
  have hL26 : ∀ (n26 : Nat) (v_weddings : Int32) (v_reason : Int32) (v_acts : Int32) (v_now : Nat → Int32) (x2 : Int32) (x3 : Int32), fX9_then_26 v_weddings v_reason v_acts v_now x1 n26 x2 x3 = some z → G l D E 4 0 0 (wdX9_then cI cZ q0 q1 q2 q3 q4 d5 d6 d7 d8 d9 d10 v_signs v_weddings v_reason v_acts v_book v_now v_of v_pad v_sights) 26 [(0, .ref q0), (1, .int x1), (2, .int x2), (3, .int x3)] [] := by
    intro n26
    induction n26 with
    | zero =>
      intro v_weddings v_reason v_acts v_now x2 x3 hF
      rw [fX9_then_26] at hF
      cases hF
    | succ n26 ih26 =>
      intro v_weddings v_reason v_acts v_now x2 x3 hF
      rw [fX9_then_26] at hF
      refine g_iload_n (np := 27) h 3 rfl rfl dX9_then_26 rfl ?_
      refine g_bipush (np := 29) (v := (10 : Int32)) h (by decide) dX9_then_27 rfl ?_
      refine g_icmp_ge h hF dX9_then_29 (np := 32) rfl (tg := 58) rfl (fun c1001 hF => ?_) (fun c1001 hF => ?_)
      · refine g_iload_n (np := 59) h 1 rfl rfl dX9_then_58 rfl ?_
        refine g_if_ne h hF dX9_then_59 (np := 62) rfl (tg := 66) rfl (fun c1002 hF => ?_) (fun c1002 hF => ?_)
        · refine g_iload_n (np := 67) h 1 rfl rfl dX9_then_66 rfl ?_
          refine g_iconst (np := 68) (v := (1 : Int32)) h (by decide) dX9_then_67 rfl ?_
          refine g_icmp_ne h hF dX9_then_68 (np := 71) rfl (tg := 78) rfl (fun c1003 hF => ?_) (fun c1003 hF => ?_)
          · refine g_aload_n (np := 79) h 0 rfl rfl dX9_then_78 rfl ?_
            refine g_get (np := 82) (T := TX9) h imX9_then_u_X9 0 9 rfl rfl 1 (by decide) (imX9_then_own _ (List.mem_of_getElem? (i := 0) rfl)) rfl dX9_then_79 rfl ?_
            refine g_bipush (np := 84) (v := (34 : Int32)) h (by decide) dX9_then_82 rfl ?_
            refine g_iald (np := 85) h 2 rfl hF dX9_then_84 rfl (fun hi1004 hF => ?_)
            exact hend _ hF _ _ dX9_then_85
          · refine g_aload_n (np := 72) h 0 rfl rfl dX9_then_71 rfl ?_
            refine g_get (np := 75) (T := TX9) h imX9_then_u_X9 0 9 rfl rfl 7 (by decide) (imX9_then_own _ (List.mem_of_getElem? (i := 1) rfl)) rfl dX9_then_72 rfl ?_
            refine g_goto h dX9_then_75 (np := 85) rfl ?_
            exact hend _ hF _ _ dX9_then_85
        · refine g_iload_n (np := 63) h 2 rfl rfl dX9_then_62 rfl ?_
          refine g_goto h dX9_then_63 (np := 85) rfl ?_
          exact hend _ hF _ _ dX9_then_85
      · refine g_iload_n (np := 33) h 2 rfl rfl dX9_then_32 rfl ?_
        refine g_aload_n (np := 34) h 0 rfl rfl dX9_then_33 rfl ?_
        refine g_get (np := 37) (T := TX9) h imX9_then_u_X9 0 9 rfl rfl 1 (by decide) (imX9_then_own _ (List.mem_of_getElem? (i := 0) rfl)) rfl dX9_then_34 rfl ?_
        refine g_iload_n (np := 38) h 3 rfl rfl dX9_then_37 rfl ?_
        refine g_iald (np := 39) h 2 rfl hF dX9_then_38 rfl (fun hi1005 hF => ?_)
        refine g_iconst (np := 40) (v := (1 : Int32)) h (by decide) dX9_then_39 rfl ?_
        refine g_icmp_ne h hF dX9_then_40 (np := 43) rfl (tg := 49) rfl (fun c1006 hF => ?_) (fun c1006 hF => ?_)
        · refine g_iconst (np := 50) (v := (0 : Int32)) h (by decide) dX9_then_49 rfl ?_
          refine g_ior (np := 51) h dX9_then_50 rfl ?_
          refine g_istore_n (np := 52) (lv' := [(2, .int (x2 ||| (0 : Int32))), (0, .ref q0), (1, .int x1), (3, .int x3)]) h rfl (by decide) rfl dX9_then_51 rfl ?_
          refine g_iinc (np := 55) (v := (x3 + (1 : Int32))) (lv' := [(3, .int (x3 + (1 : Int32))), (2, .int (x2 ||| (0 : Int32))), (0, .ref q0), (1, .int x1)]) h 3 rfl rfl (by decide) rfl dX9_then_52 rfl ?_
          refine g_goto h dX9_then_55 (np := 26) rfl ?_
          refine g_lv [2, 3, 1, 0] rfl ?_
          exact ih26 v_weddings v_reason v_acts v_now (x2 ||| (0 : Int32)) (x3 + (1 : Int32)) hF
        · refine g_iconst (np := 44) (v := (1 : Int32)) h (by decide) dX9_then_43 rfl ?_
          refine g_iload_n (np := 45) h 3 rfl rfl dX9_then_44 rfl ?_
          refine g_ishl (np := 46) h dX9_then_45 rfl ?_
          refine g_goto h dX9_then_46 (np := 50) rfl ?_
          refine g_ior (np := 51) h dX9_then_50 rfl ?_
          refine g_istore_n (np := 52) (lv' := [(2, .int (x2 ||| (jshl (1 : Int32) x3))), (0, .ref q0), (1, .int x1), (3, .int x3)]) h rfl (by decide) rfl dX9_then_51 rfl ?_
          refine g_iinc (np := 55) (v := (x3 + (1 : Int32))) (lv' := [(3, .int (x3 + (1 : Int32))), (2, .int (x2 ||| (jshl (1 : Int32) x3))), (0, .ref q0), (1, .int x1)]) h 3 rfl rfl (by decide) rfl dX9_then_52 rfl ?_
          refine g_goto h dX9_then_55 (np := 26) rfl ?_
          refine g_lv [2, 3, 1, 0] rfl ?_
          exact ih26 v_weddings v_reason v_acts v_now (x2 ||| (jshl (1 : Int32) x3)) (x3 + (1 : Int32)) hF
  unfold fX9_then at hF
  refine g_iload_n (np := 1) h 1 rfl rfl dX9_then_0 rfl ?_
  refine g_iconst (np := 2) (v := (0 : Int32)) h (by decide) dX9_then_1 rfl ?_
  refine g_iconst (np := 3) (v := (2 : Int32)) h (by decide) dX9_then_2 rfl ?_
  obtain ⟨r1, hr1, hF⟩ := Option.bind_eq_some_iff.mp hF
  refine g_callS (np := 6) (Wd' := (wdX9_then cI cZ q0 q1 q2 q3 q4 d5 d6 d7 d8 d9 d10 v_signs v_weddings v_reason v_acts v_book v_now v_of v_pad v_sights)) (As := [.int x1, .int (0 : Int32), .int (2 : Int32)]) h (mX9_in l D cI cZ x1 (0 : Int32) (2 : Int32) r1 hr1) gcX9_then_X9_in rfl ⟨rfl, rfl⟩ hyX9_in rfl rfl rfl rfl ⟨Nat.zero_le _, Nat.zero_le _⟩ [] [0, 1, 2, 3, 4] (N := 5) (by decide +kernel) rfl rfl rfl rfl rfl dX9_then_3 rfl ?_
  refine g_if_ne h hF dX9_then_6 (np := 9) rfl (tg := 12) rfl (fun c2 hF => ?_) (fun c2 hF => ?_)
  · refine g_aload_n (np := 13) h 0 rfl rfl dX9_then_12 rfl ?_
    obtain ⟨r3, hr3, hF⟩ := Option.bind_eq_some_iff.mp hF
    refine g_callV (np := 16) (Wd' := (wdX9_then cI cZ q0 q1 q2 q3 q4 d5 d6 d7 d8 d9 d10 v_signs r3.2.1 r3.2.2.1 r3.2.2.2.1 v_book r3.2.2.2.2 v_of v_pad v_sights)) (As := []) h (mX9_barOfYears l D cI cZ q0 q1 q2 q3 q4 d5 d6 d7 d8 d9 d10 v_signs v_weddings v_reason v_acts v_book v_now v_of v_pad v_sights r3 hr3) gcX9_then_X9_barOfYears rfl ⟨rfl, rfl⟩ ⟨rfl, hyX9_barOfYears⟩ rfl 9 0 rfl rfl rfl rfl rfl rfl ⟨Nat.zero_le _, Nat.zero_le _⟩ [0, 1, 2, 3, 4] [] (N := 5) (by decide +kernel) rfl rfl rfl rfl rfl dX9_then_13 rfl ?_
    refine g_if_ge h hF dX9_then_16 (np := 19) rfl (tg := 22) rfl (fun c4 hF => ?_) (fun c4 hF => ?_)
    · refine g_iconst (np := 23) (v := (0 : Int32)) h (by decide) dX9_then_22 rfl ?_
      refine g_istore_n (np := 24) (lv' := [(2, .int (0 : Int32)), (0, .ref q0), (1, .int x1)]) h rfl (by decide) rfl dX9_then_23 rfl ?_
      refine g_iconst (np := 25) (v := (0 : Int32)) h (by decide) dX9_then_24 rfl ?_
      refine g_istore_n (np := 26) (lv' := [(3, .int (0 : Int32)), (2, .int (0 : Int32)), (0, .ref q0), (1, .int x1)]) h rfl (by decide) rfl dX9_then_25 rfl ?_
      refine g_lv [2, 3, 1, 0] rfl ?_
      exact hL26 _ r3.2.1 r3.2.2.1 r3.2.2.2.1 r3.2.2.2.2 (0 : Int32) (0 : Int32) hF
    · refine g_bipush (np := 21) (v := (-5 : Int32)) h (by decide) dX9_then_19 rfl ?_
      exact hend _ hF _ _ dX9_then_21
  · refine g_bipush (np := 11) (v := (-2 : Int32)) h (by decide) dX9_then_9 rfl ?_
    exact hend _ hF _ _ dX9_then_11
theorem dX9_joins_0 : decode cX9_joins 0 = .ok (.aload_n 0, 1) := by decide +kernel
theorem dX9_joins_1 : decode cX9_joins 1 = .ok (.getfield 16, 3) := by decide +kernel
theorem dX9_joins_4 : decode cX9_joins 4 = .ok (.bipush 10, 2) := by decide +kernel
theorem dX9_joins_6 : decode cX9_joins 6 = .ok (.iload_n 1, 1) := by decide +kernel
theorem dX9_joins_7 : decode cX9_joins 7 = .ok (.iadd, 1) := by decide +kernel
theorem dX9_joins_8 : decode cX9_joins 8 = .ok (.iaload, 1) := by decide +kernel
theorem dX9_joins_9 : decode cX9_joins 9 = .ok (.aload_n 0, 1) := by decide +kernel
theorem dX9_joins_10 : decode cX9_joins 10 = .ok (.getfield 16, 3) := by decide +kernel
theorem dX9_joins_13 : decode cX9_joins 13 = .ok (.bipush 10, 2) := by decide +kernel
theorem dX9_joins_15 : decode cX9_joins 15 = .ok (.iload_n 2, 1) := by decide +kernel
theorem dX9_joins_16 : decode cX9_joins 16 = .ok (.iadd, 1) := by decide +kernel
theorem dX9_joins_17 : decode cX9_joins 17 = .ok (.iaload, 1) := by decide +kernel
theorem dX9_joins_18 : decode cX9_joins 18 = .ok (.if_icmp .ne 28, 3) := by decide +kernel
theorem dX9_joins_21 : decode cX9_joins 21 = .ok (.aload_n 0, 1) := by decide +kernel
theorem dX9_joins_22 : decode cX9_joins 22 = .ok (.getfield 16, 3) := by decide +kernel
theorem dX9_joins_25 : decode cX9_joins 25 = .ok (.bipush 40, 2) := by decide +kernel
theorem dX9_joins_27 : decode cX9_joins 27 = .ok (.iload_n 1, 1) := by decide +kernel
theorem dX9_joins_28 : decode cX9_joins 28 = .ok (.iadd, 1) := by decide +kernel
theorem dX9_joins_29 : decode cX9_joins 29 = .ok (.iaload, 1) := by decide +kernel
theorem dX9_joins_30 : decode cX9_joins 30 = .ok (.aload_n 0, 1) := by decide +kernel
theorem dX9_joins_31 : decode cX9_joins 31 = .ok (.getfield 16, 3) := by decide +kernel
theorem dX9_joins_34 : decode cX9_joins 34 = .ok (.bipush 30, 2) := by decide +kernel
theorem dX9_joins_36 : decode cX9_joins 36 = .ok (.iload_n 2, 1) := by decide +kernel
theorem dX9_joins_37 : decode cX9_joins 37 = .ok (.iadd, 1) := by decide +kernel
theorem dX9_joins_38 : decode cX9_joins 38 = .ok (.iaload, 1) := by decide +kernel
theorem dX9_joins_39 : decode cX9_joins 39 = .ok (.if_icmp .ne 7, 3) := by decide +kernel
theorem dX9_joins_42 : decode cX9_joins 42 = .ok (.iconst 1, 1) := by decide +kernel
theorem dX9_joins_43 : decode cX9_joins 43 = .ok (.goto 4, 3) := by decide +kernel
theorem dX9_joins_46 : decode cX9_joins 46 = .ok (.iconst 0, 1) := by decide +kernel
theorem dX9_joins_47 : decode cX9_joins 47 = .ok (.ireturn, 1) := by decide +kernel
def wtX9_joins : List Cond := .code yX9_joins cX9_joins 3 (some .boolean) :: (([.fieldLink RX9 16 "DriftKinModel" "of" "[I"]) ++ ((u_ws RX9 TX9 15) ++ []))
theorem imX9_joins_own : ∀ w ∈ ([.fieldLink RX9 16 "DriftKinModel" "of" "[I"] : List Cond), w ∈ wtX9_joins := fun w h => List.mem_cons_of_mem _ (inl h)
theorem imX9_joins_u_X9 : ∀ w ∈ (u_ws RX9 TX9 15 : List Cond), w ∈ wtX9_joins := fun w h => List.mem_cons_of_mem _ (inr (inl h))
theorem gdX9_joins : ∀ w ∈ wtX9_joins, Gd w := gdc rfl (gda (gdl (by decide +kernel)) (gda (gdu _ _ _) gdn))
def fX9_joins (v_of : Nat → Int32) (x1 : Int32) (x2 : Int32) : Option (Int32) :=
  chk ((10 : Int32) + x1) 60 (
    chk ((10 : Int32) + x2) 60 (
      if (rd v_of ((10 : Int32) + x1)) = (rd v_of ((10 : Int32) + x2)) then
        chk ((40 : Int32) + x1) 60 (
          chk ((30 : Int32) + x2) 60 (
            if (rd v_of ((40 : Int32) + x1)) = (rd v_of ((30 : Int32) + x2)) then
              some (1 : Int32)
            else
              some (0 : Int32)))
      else
        some (0 : Int32)))
def wdX9_joins (cI cZ : ClassId) (q0 : Nat) (q1 : Nat) (d2 : Nat) (d3 : Nat) (d4 : Nat) (d5 : Nat) (d6 : Nat) (d7 : Nat) (d8 : Nat) (d9 : Nat) (d10 : Nat)  (v_of : Nat → Int32) (v_sights : Int32) (v_signs : Int32) (v_weddings : Int32) (v_reason : Int32) (v_acts : Int32) : va_W := [(q0, .inr (9, [.ref d2, .ref d3, .ref q1, .int v_sights, .ref d4, .int v_signs, .ref d5, .int v_weddings, .int v_reason, .int v_acts, .ref d6, .ref d7, .ref d8, .ref d9, .ref d10])), (q1, .inl (cI, 60, .inl v_of))]
abbrev rmX9_joins : Jvm.Room := { frames := 0, cells := 0, slots := 0, locals := 0 }
theorem hyX9_joins : yX9_joins.cls ≠ "java/lang/invoke/MethodHandle" ∧ yX9_joins.cls ≠ "java/lang/invoke/VarHandle" ∧ (parseMethodDescriptor yX9_joins.desc).map (fun d => d.parameters.length) = some 2 := by decide +kernel
set_option maxHeartbeats 4000000 in
set_option maxRecDepth 100000 in
theorem mX9_joins (l : Launch) (D : va_G) (cI cZ : ClassId) (q0 : Nat) (q1 : Nat) (d2 : Nat) (d3 : Nat) (d4 : Nat) (d5 : Nat) (d6 : Nat) (d7 : Nat) (d8 : Nat) (d9 : Nat) (d10 : Nat) (v_of : Nat → Int32) (v_sights : Int32) (v_signs : Int32) (v_weddings : Int32) (v_reason : Int32) (v_acts : Int32) (x1 : Int32) (x2 : Int32) (z : Int32) (hF : fX9_joins v_of x1 x2 = some z) : mp l yX9_joins wtX9_joins rmX9_joins D cI cZ [.ref q0, .int x1, .int x2] (wdX9_joins cI cZ q0 q1 d2 d3 d4 d5 d6 d7 d8 d9 d10 v_of v_sights v_signs v_weddings v_reason v_acts) (some (.int z)) (wdX9_joins cI cZ q0 q1 d2 d3 d4 d5 d6 d7 d8 d9 d10 v_of v_sights v_signs v_weddings v_reason v_acts) := by
  refine mp_z (lv0 := [(0, .ref q0), (1, .int x1), (2, .int x2)]) cX9_joins 3 z (by decide) rfl (Nat.le_of_ble_eq_true rfl) rfl (fun E h hend0 => ?_)
  have hend : ∀ (z' : Int32), some z' = some z → ∀ (pc : Nat) (lv : List (Nat × Value)), z' = z' &&& 1 → decode cX9_joins pc = .ok (.ireturn, 1) → G l D E 3 0 0 (wdX9_joins cI cZ q0 q1 d2 d3 d4 d5 d6 d7 d8 d9 d10 v_of v_sights v_signs v_weddings v_reason v_acts) pc lv [.int z'] := fun z' e => by cases e; exact hend0
  clear hend0
  unfold fX9_joins at hF
  refine g_aload_n (np := 1) h 0 rfl rfl dX9_joins_0 rfl ?_
  refine g_get (np := 4) (T := TX9) h imX9_joins_u_X9 0 9 rfl rfl 2 (by decide) (imX9_joins_own _ (List.mem_of_getElem? (i := 0) rfl)) rfl dX9_joins_1 rfl ?_
  refine g_bipush (np := 6) (v := (10 : Int32)) h (by decide) dX9_joins_4 rfl ?_
  refine g_iload_n (np := 7) h 1 rfl rfl dX9_joins_6 rfl ?_
  refine g_iadd (np := 8) h dX9_joins_7 rfl ?_
  refine g_iald (np := 9) h 1 rfl hF dX9_joins_8 rfl (fun hi1 hF => ?_)
  refine g_aload_n (np := 10) h 0 rfl rfl dX9_joins_9 rfl ?_
  refine g_get (np := 13) (T := TX9) h imX9_joins_u_X9 0 9 rfl rfl 2 (by decide) (imX9_joins_own _ (List.mem_of_getElem? (i := 0) rfl)) rfl dX9_joins_10 rfl ?_
  refine g_bipush (np := 15) (v := (10 : Int32)) h (by decide) dX9_joins_13 rfl ?_
  refine g_iload_n (np := 16) h 2 rfl rfl dX9_joins_15 rfl ?_
  refine g_iadd (np := 17) h dX9_joins_16 rfl ?_
  refine g_iald (np := 18) h 1 rfl hF dX9_joins_17 rfl (fun hi2 hF => ?_)
  refine g_icmp_ne h hF dX9_joins_18 (np := 21) rfl (tg := 46) rfl (fun c3 hF => ?_) (fun c3 hF => ?_)
  · refine g_iconst (np := 47) (v := (0 : Int32)) h (by decide) dX9_joins_46 rfl ?_
    exact hend _ hF _ _ zb0 dX9_joins_47
  · refine g_aload_n (np := 22) h 0 rfl rfl dX9_joins_21 rfl ?_
    refine g_get (np := 25) (T := TX9) h imX9_joins_u_X9 0 9 rfl rfl 2 (by decide) (imX9_joins_own _ (List.mem_of_getElem? (i := 0) rfl)) rfl dX9_joins_22 rfl ?_
    refine g_bipush (np := 27) (v := (40 : Int32)) h (by decide) dX9_joins_25 rfl ?_
    refine g_iload_n (np := 28) h 1 rfl rfl dX9_joins_27 rfl ?_
    refine g_iadd (np := 29) h dX9_joins_28 rfl ?_
    refine g_iald (np := 30) h 1 rfl hF dX9_joins_29 rfl (fun hi4 hF => ?_)
    refine g_aload_n (np := 31) h 0 rfl rfl dX9_joins_30 rfl ?_
    refine g_get (np := 34) (T := TX9) h imX9_joins_u_X9 0 9 rfl rfl 2 (by decide) (imX9_joins_own _ (List.mem_of_getElem? (i := 0) rfl)) rfl dX9_joins_31 rfl ?_
    refine g_bipush (np := 36) (v := (30 : Int32)) h (by decide) dX9_joins_34 rfl ?_
    refine g_iload_n (np := 37) h 2 rfl rfl dX9_joins_36 rfl ?_
    refine g_iadd (np := 38) h dX9_joins_37 rfl ?_
    refine g_iald (np := 39) h 1 rfl hF dX9_joins_38 rfl (fun hi5 hF => ?_)
    refine g_icmp_ne h hF dX9_joins_39 (np := 42) rfl (tg := 46) rfl (fun c6 hF => ?_) (fun c6 hF => ?_)
    · refine g_iconst (np := 47) (v := (0 : Int32)) h (by decide) dX9_joins_46 rfl ?_
      exact hend _ hF _ _ zb0 dX9_joins_47
    · refine g_iconst (np := 43) (v := (1 : Int32)) h (by decide) dX9_joins_42 rfl ?_
      refine g_goto h dX9_joins_43 (np := 47) rfl ?_
      exact hend _ hF _ _ zb1 dX9_joins_47
theorem dX9_layPlanks_0 : decode cX9_layPlanks 0 = .ok (.aload_n 0, 1) := by decide +kernel
theorem dX9_layPlanks_1 : decode cX9_layPlanks 1 = .ok (.getfield 25, 3) := by decide +kernel
theorem dX9_layPlanks_4 : decode cX9_layPlanks 4 = .ok (.iconst 0, 1) := by decide +kernel
theorem dX9_layPlanks_5 : decode cX9_layPlanks 5 = .ok (.iconst 0, 1) := by decide +kernel
theorem dX9_layPlanks_6 : decode cX9_layPlanks 6 = .ok (.iastore, 1) := by decide +kernel
theorem dX9_layPlanks_7 : decode cX9_layPlanks 7 = .ok (.iconst 1, 1) := by decide +kernel
theorem dX9_layPlanks_8 : decode cX9_layPlanks 8 = .ok (.istore_n 1, 1) := by decide +kernel
theorem dX9_layPlanks_9 : decode cX9_layPlanks 9 = .ok (.iload_n 1, 1) := by decide +kernel
theorem dX9_layPlanks_10 : decode cX9_layPlanks 10 = .ok (.sipush 1024, 3) := by decide +kernel
theorem dX9_layPlanks_13 : decode cX9_layPlanks 13 = .ok (.if_icmp .ge 139, 3) := by decide +kernel
theorem dX9_layPlanks_16 : decode cX9_layPlanks 16 = .ok (.iconst 0, 1) := by decide +kernel
theorem dX9_layPlanks_17 : decode cX9_layPlanks 17 = .ok (.istore_n 2, 1) := by decide +kernel
theorem dX9_layPlanks_18 : decode cX9_layPlanks 18 = .ok (.iconst 0, 1) := by decide +kernel
theorem dX9_layPlanks_19 : decode cX9_layPlanks 19 = .ok (.istore_n 3, 1) := by decide +kernel
theorem dX9_layPlanks_20 : decode cX9_layPlanks 20 = .ok (.iload_n 3, 1) := by decide +kernel
theorem dX9_layPlanks_21 : decode cX9_layPlanks 21 = .ok (.bipush 10, 2) := by decide +kernel
theorem dX9_layPlanks_23 : decode cX9_layPlanks 23 = .ok (.if_icmp .ge 116, 3) := by decide +kernel
theorem dX9_layPlanks_26 : decode cX9_layPlanks 26 = .ok (.iload_n 1, 1) := by decide +kernel
theorem dX9_layPlanks_27 : decode cX9_layPlanks 27 = .ok (.iload_n 3, 1) := by decide +kernel
theorem dX9_layPlanks_28 : decode cX9_layPlanks 28 = .ok (.invokestatic 109, 3) := by decide +kernel
theorem dX9_layPlanks_31 : decode cX9_layPlanks 31 = .ok (.ifCond .eq 102, 3) := by decide +kernel
theorem dX9_layPlanks_34 : decode cX9_layPlanks 34 = .ok (.aload_n 0, 1) := by decide +kernel
theorem dX9_layPlanks_35 : decode cX9_layPlanks 35 = .ok (.getfield 7, 3) := by decide +kernel
theorem dX9_layPlanks_38 : decode cX9_layPlanks 38 = .ok (.iload_n 3, 1) := by decide +kernel
theorem dX9_layPlanks_39 : decode cX9_layPlanks 39 = .ok (.iaload, 1) := by decide +kernel
theorem dX9_layPlanks_40 : decode cX9_layPlanks 40 = .ok (.iconst 3, 1) := by decide +kernel
theorem dX9_layPlanks_41 : decode cX9_layPlanks 41 = .ok (.if_icmp .eq 92, 3) := by decide +kernel
theorem dX9_layPlanks_44 : decode cX9_layPlanks 44 = .ok (.iload_n 1, 1) := by decide +kernel
theorem dX9_layPlanks_45 : decode cX9_layPlanks 45 = .ok (.iconst 1, 1) := by decide +kernel
theorem dX9_layPlanks_46 : decode cX9_layPlanks 46 = .ok (.iload_n 3, 1) := by decide +kernel
theorem dX9_layPlanks_47 : decode cX9_layPlanks 47 = .ok (.ishl, 1) := by decide +kernel
theorem dX9_layPlanks_48 : decode cX9_layPlanks 48 = .ok (.iconst (-1), 1) := by decide +kernel
theorem dX9_layPlanks_49 : decode cX9_layPlanks 49 = .ok (.ixor, 1) := by decide +kernel
theorem dX9_layPlanks_50 : decode cX9_layPlanks 50 = .ok (.iand, 1) := by decide +kernel
theorem dX9_layPlanks_51 : decode cX9_layPlanks 51 = .ok (.istore 4, 2) := by decide +kernel
theorem dX9_layPlanks_53 : decode cX9_layPlanks 53 = .ok (.iload 4, 2) := by decide +kernel
theorem dX9_layPlanks_55 : decode cX9_layPlanks 55 = .ok (.ifCond .ne 7, 3) := by decide +kernel
theorem dX9_layPlanks_58 : decode cX9_layPlanks 58 = .ok (.iconst 1, 1) := by decide +kernel
theorem dX9_layPlanks_59 : decode cX9_layPlanks 59 = .ok (.goto 4, 3) := by decide +kernel
theorem dX9_layPlanks_62 : decode cX9_layPlanks 62 = .ok (.iconst 0, 1) := by decide +kernel
theorem dX9_layPlanks_63 : decode cX9_layPlanks 63 = .ok (.istore 5, 2) := by decide +kernel
theorem dX9_layPlanks_65 : decode cX9_layPlanks 65 = .ok (.iconst 0, 1) := by decide +kernel
theorem dX9_layPlanks_66 : decode cX9_layPlanks 66 = .ok (.istore 6, 2) := by decide +kernel
theorem dX9_layPlanks_68 : decode cX9_layPlanks 68 = .ok (.iload 6, 2) := by decide +kernel
theorem dX9_layPlanks_70 : decode cX9_layPlanks 70 = .ok (.bipush 10, 2) := by decide +kernel
theorem dX9_layPlanks_72 : decode cX9_layPlanks 72 = .ok (.if_icmp .ge 46, 3) := by decide +kernel
theorem dX9_layPlanks_75 : decode cX9_layPlanks 75 = .ok (.iload 5, 2) := by decide +kernel
theorem dX9_layPlanks_77 : decode cX9_layPlanks 77 = .ok (.ifCond .ne 28, 3) := by decide +kernel
theorem dX9_layPlanks_80 : decode cX9_layPlanks 80 = .ok (.aload_n 0, 1) := by decide +kernel
theorem dX9_layPlanks_81 : decode cX9_layPlanks 81 = .ok (.getfield 25, 3) := by decide +kernel
theorem dX9_layPlanks_84 : decode cX9_layPlanks 84 = .ok (.iload 4, 2) := by decide +kernel
theorem dX9_layPlanks_86 : decode cX9_layPlanks 86 = .ok (.iaload, 1) := by decide +kernel
theorem dX9_layPlanks_87 : decode cX9_layPlanks 87 = .ok (.iload 6, 2) := by decide +kernel
theorem dX9_layPlanks_89 : decode cX9_layPlanks 89 = .ok (.invokestatic 109, 3) := by decide +kernel
theorem dX9_layPlanks_92 : decode cX9_layPlanks 92 = .ok (.ifCond .eq 17, 3) := by decide +kernel
theorem dX9_layPlanks_95 : decode cX9_layPlanks 95 = .ok (.aload_n 0, 1) := by decide +kernel
theorem dX9_layPlanks_96 : decode cX9_layPlanks 96 = .ok (.iload 6, 2) := by decide +kernel
theorem dX9_layPlanks_98 : decode cX9_layPlanks 98 = .ok (.iload_n 3, 1) := by decide +kernel
theorem dX9_layPlanks_99 : decode cX9_layPlanks 99 = .ok (.invokevirtual 113, 3) := by decide +kernel
theorem dX9_layPlanks_102 : decode cX9_layPlanks 102 = .ok (.ifCond .eq 7, 3) := by decide +kernel
theorem dX9_layPlanks_105 : decode cX9_layPlanks 105 = .ok (.iconst 1, 1) := by decide +kernel
theorem dX9_layPlanks_106 : decode cX9_layPlanks 106 = .ok (.goto 4, 3) := by decide +kernel
theorem dX9_layPlanks_109 : decode cX9_layPlanks 109 = .ok (.iconst 0, 1) := by decide +kernel
theorem dX9_layPlanks_110 : decode cX9_layPlanks 110 = .ok (.istore 5, 2) := by decide +kernel
theorem dX9_layPlanks_112 : decode cX9_layPlanks 112 = .ok (.iinc 6 1, 3) := by decide +kernel
theorem dX9_layPlanks_115 : decode cX9_layPlanks 115 = .ok (.goto (-47), 3) := by decide +kernel
theorem dX9_layPlanks_118 : decode cX9_layPlanks 118 = .ok (.iload_n 2, 1) := by decide +kernel
theorem dX9_layPlanks_119 : decode cX9_layPlanks 119 = .ok (.iload 5, 2) := by decide +kernel
theorem dX9_layPlanks_121 : decode cX9_layPlanks 121 = .ok (.ifCond .eq 9, 3) := by decide +kernel
theorem dX9_layPlanks_124 : decode cX9_layPlanks 124 = .ok (.iconst 1, 1) := by decide +kernel
theorem dX9_layPlanks_125 : decode cX9_layPlanks 125 = .ok (.iload_n 3, 1) := by decide +kernel
theorem dX9_layPlanks_126 : decode cX9_layPlanks 126 = .ok (.ishl, 1) := by decide +kernel
theorem dX9_layPlanks_127 : decode cX9_layPlanks 127 = .ok (.goto 4, 3) := by decide +kernel
theorem dX9_layPlanks_130 : decode cX9_layPlanks 130 = .ok (.iconst 0, 1) := by decide +kernel
theorem dX9_layPlanks_131 : decode cX9_layPlanks 131 = .ok (.ior, 1) := by decide +kernel
theorem dX9_layPlanks_132 : decode cX9_layPlanks 132 = .ok (.istore_n 2, 1) := by decide +kernel
theorem dX9_layPlanks_133 : decode cX9_layPlanks 133 = .ok (.iinc 3 1, 3) := by decide +kernel
theorem dX9_layPlanks_136 : decode cX9_layPlanks 136 = .ok (.goto (-116), 3) := by decide +kernel
theorem dX9_layPlanks_139 : decode cX9_layPlanks 139 = .ok (.aload_n 0, 1) := by decide +kernel
theorem dX9_layPlanks_140 : decode cX9_layPlanks 140 = .ok (.getfield 25, 3) := by decide +kernel
theorem dX9_layPlanks_143 : decode cX9_layPlanks 143 = .ok (.iload_n 1, 1) := by decide +kernel
theorem dX9_layPlanks_144 : decode cX9_layPlanks 144 = .ok (.iload_n 2, 1) := by decide +kernel
theorem dX9_layPlanks_145 : decode cX9_layPlanks 145 = .ok (.iastore, 1) := by decide +kernel
theorem dX9_layPlanks_146 : decode cX9_layPlanks 146 = .ok (.iinc 1 1, 3) := by decide +kernel
theorem dX9_layPlanks_149 : decode cX9_layPlanks 149 = .ok (.goto (-140), 3) := by decide +kernel
theorem dX9_layPlanks_152 : decode cX9_layPlanks 152 = .ok (.return_, 1) := by decide +kernel
def wtX9_layPlanks : List Cond := .code yX9_layPlanks cX9_layPlanks 7 none :: (([.fieldLink RX9 25 "DriftKinModel" "lasts" "[I", .fieldLink RX9 7 "DriftKinModel" "book" "[I"]) ++ ((u_ws RX9 TX9 15) ++ ((va_wsS RX9 109 yX9_has wtX9_has) ++ ((wsV RX9 113 RX9 yX9_joins wtX9_joins) ++ []))))
theorem imX9_layPlanks_own : ∀ w ∈ ([.fieldLink RX9 25 "DriftKinModel" "lasts" "[I", .fieldLink RX9 7 "DriftKinModel" "book" "[I"] : List Cond), w ∈ wtX9_layPlanks := fun w h => List.mem_cons_of_mem _ (inl h)
theorem imX9_layPlanks_u_X9 : ∀ w ∈ (u_ws RX9 TX9 15 : List Cond), w ∈ wtX9_layPlanks := fun w h => List.mem_cons_of_mem _ (inr (inl h))
theorem imX9_layPlanks_c_X9_has : ∀ w ∈ (va_wsS RX9 109 yX9_has wtX9_has : List Cond), w ∈ wtX9_layPlanks := fun w h => List.mem_cons_of_mem _ (inr (inr (inl h)))
theorem imX9_layPlanks_c_X9_joins : ∀ w ∈ (wsV RX9 113 RX9 yX9_joins wtX9_joins : List Cond), w ∈ wtX9_layPlanks := fun w h => List.mem_cons_of_mem _ (inr (inr (inr (inl h))))
theorem gdX9_layPlanks : ∀ w ∈ wtX9_layPlanks, Gd w := gdc rfl (gda (gdl (by decide +kernel)) (gda (gdu _ _ _) (gda (gda (gdl (by decide +kernel)) gdX9_has) (gda (gda (gdl (by decide +kernel)) gdX9_joins) gdn))))
theorem gcX9_layPlanks_X9_has : GoodIn wtX9_layPlanks (va_wsS RX9 109 yX9_has wtX9_has) := fun w h => ⟨imX9_layPlanks_c_X9_has w h, (gda (gdl (by decide +kernel)) gdX9_has) w h⟩
theorem gcX9_layPlanks_X9_joins : GoodIn wtX9_layPlanks (wsV RX9 113 RX9 yX9_joins wtX9_joins) := fun w h => ⟨imX9_layPlanks_c_X9_joins w h, (gda (gdl (by decide +kernel)) gdX9_joins) w h⟩
def fX9_layPlanks_68 (k9 : (Nat → Int32) → Int32 → Option ((Nat → Int32))) (k20 : Int32 → Int32 → Option ((Nat → Int32))) (v_book : Nat → Int32) (v_of : Nat → Int32) (v_lasts : Nat → Int32) (x1 : Int32) (x2 : Int32) (x3 : Int32) (x4 : Int32) : Nat → Int32 → Int32 → Option ((Nat → Int32))
  | 0, _, _ => none
  | n + 1, x5, x6 =>
    if (10 : Int32) ≤ x6 then
      if x5 = (0 : Int32) then
        k20 (x2 ||| (0 : Int32)) (x3 + (1 : Int32))
      else
        k20 (x2 ||| (jshl (1 : Int32) x3)) (x3 + (1 : Int32))
    else
      if x5 = (0 : Int32) then
        chk x4 1024 (
          (fX9_has (rd v_lasts x4) x6).bind (fun r1005 =>
            if r1005 = (0 : Int32) then
              fX9_layPlanks_68 k9 k20 v_book v_of v_lasts x1 x2 x3 x4 n (0 : Int32) (x6 + (1 : Int32))
            else
              (fX9_joins v_of x6 x3).bind (fun r1007 =>
                if r1007 = (0 : Int32) then
                  fX9_layPlanks_68 k9 k20 v_book v_of v_lasts x1 x2 x3 x4 n (0 : Int32) (x6 + (1 : Int32))
                else
                  fX9_layPlanks_68 k9 k20 v_book v_of v_lasts x1 x2 x3 x4 n (1 : Int32) (x6 + (1 : Int32)))))
      else
        fX9_layPlanks_68 k9 k20 v_book v_of v_lasts x1 x2 x3 x4 n (1 : Int32) (x6 + (1 : Int32))
def fX9_layPlanks_20 (k9 : (Nat → Int32) → Int32 → Option ((Nat → Int32))) (v_book : Nat → Int32) (v_of : Nat → Int32) (v_lasts : Nat → Int32) (x1 : Int32) : Nat → Int32 → Int32 → Option ((Nat → Int32))
  | 0, _, _ => none
  | n + 1, x2, x3 =>
    if (10 : Int32) ≤ x3 then
      chk x1 1024 (
        k9 (wr v_lasts x1 x2) (x1 + (1 : Int32)))
    else
      (fX9_has x1 x3).bind (fun r2003 =>
        if r2003 = (0 : Int32) then
          fX9_layPlanks_20 k9 v_book v_of v_lasts x1 n x2 (x3 + (1 : Int32))
        else
          chk x3 35 (
            if (rd v_book x3) = (3 : Int32) then
              fX9_layPlanks_20 k9 v_book v_of v_lasts x1 n x2 (x3 + (1 : Int32))
            else
              if (x1 &&& ((jshl (1 : Int32) x3) ^^^ (-1 : Int32))) = (0 : Int32) then
                fX9_layPlanks_68 k9 (fun y0 y1 => fX9_layPlanks_20 k9 v_book v_of v_lasts x1 n y0 y1) v_book v_of v_lasts x1 x2 x3 (x1 &&& ((jshl (1 : Int32) x3) ^^^ (-1 : Int32))) 2000 (1 : Int32) (0 : Int32)
              else
                fX9_layPlanks_68 k9 (fun y0 y1 => fX9_layPlanks_20 k9 v_book v_of v_lasts x1 n y0 y1) v_book v_of v_lasts x1 x2 x3 (x1 &&& ((jshl (1 : Int32) x3) ^^^ (-1 : Int32))) 2000 (0 : Int32) (0 : Int32)))
def fX9_layPlanks_9 (v_book : Nat → Int32) (v_of : Nat → Int32) : Nat → (Nat → Int32) → Int32 → Option ((Nat → Int32))
  | 0, _, _ => none
  | n + 1, v_lasts, x1 =>
    if (1024 : Int32) ≤ x1 then
      some v_lasts
    else
      fX9_layPlanks_20 (fun y0 y1 => fX9_layPlanks_9 v_book v_of n y0 y1) v_book v_of v_lasts x1 2000 (0 : Int32) (0 : Int32)
def fX9_layPlanks (v_book : Nat → Int32) (v_of : Nat → Int32) (v_lasts : Nat → Int32) : Option ((Nat → Int32)) :=
  chk (0 : Int32) 1024 (
    fX9_layPlanks_9 v_book v_of 2000 (wr v_lasts (0 : Int32) (0 : Int32)) (1 : Int32))
def wdX9_layPlanks (cI cZ : ClassId) (q0 : Nat) (q1 : Nat) (q2 : Nat) (q3 : Nat) (d4 : Nat) (d5 : Nat) (d6 : Nat) (d7 : Nat) (d8 : Nat) (d9 : Nat) (d10 : Nat)  (v_book : Nat → Int32) (v_of : Nat → Int32) (v_lasts : Nat → Int32) (v_sights : Int32) (v_signs : Int32) (v_weddings : Int32) (v_reason : Int32) (v_acts : Int32) : va_W := [(q0, .inr (9, [.ref q1, .ref d4, .ref q2, .int v_sights, .ref d5, .int v_signs, .ref d6, .int v_weddings, .int v_reason, .int v_acts, .ref q3, .ref d7, .ref d8, .ref d9, .ref d10])), (q1, .inl (cI, 35, .inl v_book)), (q2, .inl (cI, 60, .inl v_of)), (q3, .inl (cI, 1024, .inl v_lasts))]
abbrev rmX9_layPlanks : Jvm.Room := { frames := 1, cells := 0, slots := 0, locals := 22 }
theorem hyX9_layPlanks : yX9_layPlanks.cls ≠ "java/lang/invoke/MethodHandle" ∧ yX9_layPlanks.cls ≠ "java/lang/invoke/VarHandle" ∧ (parseMethodDescriptor yX9_layPlanks.desc).map (fun d => d.parameters.length) = some 0 := by decide +kernel
set_option maxHeartbeats 4000000 in
set_option maxRecDepth 100000 in
theorem mX9_layPlanks (l : Launch) (D : va_G) (cI cZ : ClassId) (q0 : Nat) (q1 : Nat) (q2 : Nat) (q3 : Nat) (d4 : Nat) (d5 : Nat) (d6 : Nat) (d7 : Nat) (d8 : Nat) (d9 : Nat) (d10 : Nat) (v_book : Nat → Int32) (v_of : Nat → Int32) (v_lasts : Nat → Int32) (v_sights : Int32) (v_signs : Int32) (v_weddings : Int32) (v_reason : Int32) (v_acts : Int32) (z : (Nat → Int32)) (hF : fX9_layPlanks v_book v_of v_lasts = some z) : mp l yX9_layPlanks wtX9_layPlanks rmX9_layPlanks D cI cZ [.ref q0] (wdX9_layPlanks cI cZ q0 q1 q2 q3 d4 d5 d6 d7 d8 d9 d10 v_book v_of v_lasts v_sights v_signs v_weddings v_reason v_acts) none (wdX9_layPlanks cI cZ q0 q1 q2 q3 d4 d5 d6 d7 d8 d9 d10 v_book v_of z v_sights v_signs v_weddings v_reason v_acts) := by
  refine mp_v (lv0 := [(0, .ref q0)]) cX9_layPlanks 7 (by decide) rfl (Nat.le_of_ble_eq_true rfl) rfl (fun E h hend0 => ?_)
  have hend : ∀ (z' : (Nat → Int32)), some z' = some z → ∀ (pc : Nat) (lv : List (Nat × Value)), decode cX9_layPlanks pc = .ok (.return_, 1) → G l D E 7 0 0 (wdX9_layPlanks cI cZ q0 q1 q2 q3 d4 d5 d6 d7 d8 d9 d10 v_book v_of (z') v_sights v_signs v_weddings v_reason v_acts) pc lv [] := fun z' e => by cases e; exact hend0
  clear hend0
  have hL9 : ∀ (n9 : Nat) (v_lasts : Nat → Int32) (x1 : Int32), fX9_layPlanks_9 v_book v_of n9 v_lasts x1 = some z → G l D E 7 0 0 (wdX9_layPlanks cI cZ q0 q1 q2 q3 d4 d5 d6 d7 d8 d9 d10 v_book v_of v_lasts v_sights v_signs v_weddings v_reason v_acts) 9 [(0, .ref q0), (1, .int x1)] [] := by
    intro n9
    induction n9 with
    | zero =>
      intro v_lasts x1 hF
      rw [fX9_layPlanks_9] at hF
      cases hF
    | succ n9 ih9 =>
      have hL20 : ∀ (n20 : Nat) (v_lasts : Nat → Int32) (x1 : Int32) (x2 : Int32) (x3 : Int32), fX9_layPlanks_20 (fun y0 y1 => fX9_layPlanks_9 v_book v_of n9 y0 y1) v_book v_of v_lasts x1 n20 x2 x3 = some z → G l D E 7 0 0 (wdX9_layPlanks cI cZ q0 q1 q2 q3 d4 d5 d6 d7 d8 d9 d10 v_book v_of v_lasts v_sights v_signs v_weddings v_reason v_acts) 20 [(0, .ref q0), (1, .int x1), (2, .int x2), (3, .int x3)] [] := by
        intro n20
        induction n20 with
        | zero =>
          intro v_lasts x1 x2 x3 hF
          rw [fX9_layPlanks_20] at hF
          cases hF
        | succ n20 ih20 =>
          have hL68 : ∀ (n68 : Nat) (v_lasts : Nat → Int32) (x1 : Int32) (x2 : Int32) (x3 : Int32) (x4 : Int32) (x5 : Int32) (x6 : Int32), fX9_layPlanks_68 (fun y0 y1 => fX9_layPlanks_9 v_book v_of n9 y0 y1) (fun y0 y1 => fX9_layPlanks_20 (fun y0 y1 => fX9_layPlanks_9 v_book v_of n9 y0 y1) v_book v_of v_lasts x1 n20 y0 y1) v_book v_of v_lasts x1 x2 x3 x4 n68 x5 x6 = some z → G l D E 7 0 0 (wdX9_layPlanks cI cZ q0 q1 q2 q3 d4 d5 d6 d7 d8 d9 d10 v_book v_of v_lasts v_sights v_signs v_weddings v_reason v_acts) 68 [(0, .ref q0), (1, .int x1), (2, .int x2), (3, .int x3), (4, .int x4), (5, .int x5), (6, .int x6)] [] := by
            intro n68
            induction n68 with
            | zero =>
              intro v_lasts x1 x2 x3 x4 x5 x6 hF
              rw [fX9_layPlanks_68] at hF
              cases hF
            | succ n68 ih68 =>
              intro v_lasts x1 x2 x3 x4 x5 x6 hF
              rw [fX9_layPlanks_68] at hF
              refine g_iload (np := 70) h 6 rfl dX9_layPlanks_68 rfl ?_
              refine g_bipush (np := 72) (v := (10 : Int32)) h (by decide) dX9_layPlanks_70 rfl ?_
              refine g_icmp_ge h hF dX9_layPlanks_72 (np := 75) rfl (tg := 118) rfl (fun c1001 hF => ?_) (fun c1001 hF => ?_)
              · refine g_iload_n (np := 119) h 2 rfl rfl dX9_layPlanks_118 rfl ?_
                refine g_iload (np := 121) h 5 rfl dX9_layPlanks_119 rfl ?_
                refine g_if_eq h hF dX9_layPlanks_121 (np := 124) rfl (tg := 130) rfl (fun c1002 hF => ?_) (fun c1002 hF => ?_)
                · refine g_iconst (np := 131) (v := (0 : Int32)) h (by decide) dX9_layPlanks_130 rfl ?_
                  refine g_ior (np := 132) h dX9_layPlanks_131 rfl ?_
                  refine g_istore_n (np := 133) (lv' := [(2, .int (x2 ||| (0 : Int32))), (0, .ref q0), (1, .int x1), (3, .int x3), (4, .int x4), (5, .int x5), (6, .int x6)]) h rfl (by decide) rfl dX9_layPlanks_132 rfl ?_
                  refine g_iinc (np := 136) (v := (x3 + (1 : Int32))) (lv' := [(3, .int (x3 + (1 : Int32))), (2, .int (x2 ||| (0 : Int32))), (0, .ref q0), (1, .int x1), (4, .int x4), (5, .int x5), (6, .int x6)]) h 3 rfl rfl (by decide) rfl dX9_layPlanks_133 rfl ?_
                  refine g_goto h dX9_layPlanks_136 (np := 20) rfl ?_
                  refine g_lv [2, 3, 1, 0] rfl ?_
                  exact ih20 v_lasts x1 (x2 ||| (0 : Int32)) (x3 + (1 : Int32)) hF
                · refine g_iconst (np := 125) (v := (1 : Int32)) h (by decide) dX9_layPlanks_124 rfl ?_
                  refine g_iload_n (np := 126) h 3 rfl rfl dX9_layPlanks_125 rfl ?_
                  refine g_ishl (np := 127) h dX9_layPlanks_126 rfl ?_
                  refine g_goto h dX9_layPlanks_127 (np := 131) rfl ?_
                  refine g_ior (np := 132) h dX9_layPlanks_131 rfl ?_
                  refine g_istore_n (np := 133) (lv' := [(2, .int (x2 ||| (jshl (1 : Int32) x3))), (0, .ref q0), (1, .int x1), (3, .int x3), (4, .int x4), (5, .int x5), (6, .int x6)]) h rfl (by decide) rfl dX9_layPlanks_132 rfl ?_
                  refine g_iinc (np := 136) (v := (x3 + (1 : Int32))) (lv' := [(3, .int (x3 + (1 : Int32))), (2, .int (x2 ||| (jshl (1 : Int32) x3))), (0, .ref q0), (1, .int x1), (4, .int x4), (5, .int x5), (6, .int x6)]) h 3 rfl rfl (by decide) rfl dX9_layPlanks_133 rfl ?_
                  refine g_goto h dX9_layPlanks_136 (np := 20) rfl ?_
                  refine g_lv [2, 3, 1, 0] rfl ?_
                  exact ih20 v_lasts x1 (x2 ||| (jshl (1 : Int32) x3)) (x3 + (1 : Int32)) hF
              · refine g_iload (np := 77) h 5 rfl dX9_layPlanks_75 rfl ?_
                refine g_if_ne h hF dX9_layPlanks_77 (np := 80) rfl (tg := 105) rfl (fun c1003 hF => ?_) (fun c1003 hF => ?_)
                · refine g_iconst (np := 106) (v := (1 : Int32)) h (by decide) dX9_layPlanks_105 rfl ?_
                  refine g_goto h dX9_layPlanks_106 (np := 110) rfl ?_
                  refine g_istore (np := 112) (lv' := [(5, .int (1 : Int32)), (0, .ref q0), (1, .int x1), (2, .int x2), (3, .int x3), (4, .int x4), (6, .int x6)]) h (by decide) rfl dX9_layPlanks_110 rfl ?_
                  refine g_iinc (np := 115) (v := (x6 + (1 : Int32))) (lv' := [(6, .int (x6 + (1 : Int32))), (5, .int (1 : Int32)), (0, .ref q0), (1, .int x1), (2, .int x2), (3, .int x3), (4, .int x4)]) h 6 rfl rfl (by decide) rfl dX9_layPlanks_112 rfl ?_
                  refine g_goto h dX9_layPlanks_115 (np := 68) rfl ?_
                  refine g_lv [2, 3, 4, 5, 6, 1, 0] rfl ?_
                  exact ih68 v_lasts x1 x2 x3 x4 (1 : Int32) (x6 + (1 : Int32)) hF
                · refine g_aload_n (np := 81) h 0 rfl rfl dX9_layPlanks_80 rfl ?_
                  refine g_get (np := 84) (T := TX9) h imX9_layPlanks_u_X9 0 9 rfl rfl 10 (by decide) (imX9_layPlanks_own _ (List.mem_of_getElem? (i := 0) rfl)) rfl dX9_layPlanks_81 rfl ?_
                  refine g_iload (np := 86) h 4 rfl dX9_layPlanks_84 rfl ?_
                  refine g_iald (np := 87) h 3 rfl hF dX9_layPlanks_86 rfl (fun hi1004 hF => ?_)
                  refine g_iload (np := 89) h 6 rfl dX9_layPlanks_87 rfl ?_
                  obtain ⟨r1005, hr1005, hF⟩ := Option.bind_eq_some_iff.mp hF
                  refine g_callS (np := 92) (Wd' := (wdX9_layPlanks cI cZ q0 q1 q2 q3 d4 d5 d6 d7 d8 d9 d10 v_book v_of v_lasts v_sights v_signs v_weddings v_reason v_acts)) (As := [.int (rd v_lasts x4), .int x6]) h (mX9_has l D cI cZ (rd v_lasts x4) x6 r1005 hr1005) gcX9_layPlanks_X9_has rfl ⟨rfl, rfl⟩ hyX9_has rfl rfl rfl rfl ⟨Nat.zero_le _, Nat.zero_le _⟩ [] [0, 1, 2, 3] (N := 4) (by decide +kernel) rfl rfl rfl rfl rfl dX9_layPlanks_89 rfl ?_
                  refine g_if_eq h hF dX9_layPlanks_92 (np := 95) rfl (tg := 109) rfl (fun c1006 hF => ?_) (fun c1006 hF => ?_)
                  · refine g_iconst (np := 110) (v := (0 : Int32)) h (by decide) dX9_layPlanks_109 rfl ?_
                    refine g_istore (np := 112) (lv' := [(5, .int (0 : Int32)), (0, .ref q0), (1, .int x1), (2, .int x2), (3, .int x3), (4, .int x4), (6, .int x6)]) h (by decide) rfl dX9_layPlanks_110 rfl ?_
                    refine g_iinc (np := 115) (v := (x6 + (1 : Int32))) (lv' := [(6, .int (x6 + (1 : Int32))), (5, .int (0 : Int32)), (0, .ref q0), (1, .int x1), (2, .int x2), (3, .int x3), (4, .int x4)]) h 6 rfl rfl (by decide) rfl dX9_layPlanks_112 rfl ?_
                    refine g_goto h dX9_layPlanks_115 (np := 68) rfl ?_
                    refine g_lv [2, 3, 4, 5, 6, 1, 0] rfl ?_
                    exact ih68 v_lasts x1 x2 x3 x4 (0 : Int32) (x6 + (1 : Int32)) hF
                  · refine g_aload_n (np := 96) h 0 rfl rfl dX9_layPlanks_95 rfl ?_
                    refine g_iload (np := 98) h 6 rfl dX9_layPlanks_96 rfl ?_
                    refine g_iload_n (np := 99) h 3 rfl rfl dX9_layPlanks_98 rfl ?_
                    obtain ⟨r1007, hr1007, hF⟩ := Option.bind_eq_some_iff.mp hF
                    refine g_callV (np := 102) (Wd' := (wdX9_layPlanks cI cZ q0 q1 q2 q3 d4 d5 d6 d7 d8 d9 d10 v_book v_of v_lasts v_sights v_signs v_weddings v_reason v_acts)) (As := [.int x6, .int x3]) h (mX9_joins l D cI cZ q0 q2 q1 d4 d5 d6 q3 d7 d8 d9 d10 v_of v_sights v_signs v_weddings v_reason v_acts x6 x3 r1007 hr1007) gcX9_layPlanks_X9_joins rfl ⟨rfl, rfl⟩ ⟨rfl, hyX9_joins⟩ rfl 9 0 rfl rfl rfl rfl rfl rfl ⟨Nat.zero_le _, Nat.zero_le _⟩ [0, 2] [1, 3] (N := 4) (by decide +kernel) rfl rfl rfl rfl rfl dX9_layPlanks_99 rfl ?_
                    refine g_if_eq h hF dX9_layPlanks_102 (np := 105) rfl (tg := 109) rfl (fun c1008 hF => ?_) (fun c1008 hF => ?_)
                    · refine g_iconst (np := 110) (v := (0 : Int32)) h (by decide) dX9_layPlanks_109 rfl ?_
                      refine g_istore (np := 112) (lv' := [(5, .int (0 : Int32)), (0, .ref q0), (1, .int x1), (2, .int x2), (3, .int x3), (4, .int x4), (6, .int x6)]) h (by decide) rfl dX9_layPlanks_110 rfl ?_
                      refine g_iinc (np := 115) (v := (x6 + (1 : Int32))) (lv' := [(6, .int (x6 + (1 : Int32))), (5, .int (0 : Int32)), (0, .ref q0), (1, .int x1), (2, .int x2), (3, .int x3), (4, .int x4)]) h 6 rfl rfl (by decide) rfl dX9_layPlanks_112 rfl ?_
                      refine g_goto h dX9_layPlanks_115 (np := 68) rfl ?_
                      refine g_lv [2, 3, 4, 5, 6, 1, 0] rfl ?_
                      exact ih68 v_lasts x1 x2 x3 x4 (0 : Int32) (x6 + (1 : Int32)) hF
                    · refine g_iconst (np := 106) (v := (1 : Int32)) h (by decide) dX9_layPlanks_105 rfl ?_
                      refine g_goto h dX9_layPlanks_106 (np := 110) rfl ?_
                      refine g_istore (np := 112) (lv' := [(5, .int (1 : Int32)), (0, .ref q0), (1, .int x1), (2, .int x2), (3, .int x3), (4, .int x4), (6, .int x6)]) h (by decide) rfl dX9_layPlanks_110 rfl ?_
                      refine g_iinc (np := 115) (v := (x6 + (1 : Int32))) (lv' := [(6, .int (x6 + (1 : Int32))), (5, .int (1 : Int32)), (0, .ref q0), (1, .int x1), (2, .int x2), (3, .int x3), (4, .int x4)]) h 6 rfl rfl (by decide) rfl dX9_layPlanks_112 rfl ?_
                      refine g_goto h dX9_layPlanks_115 (np := 68) rfl ?_
                      refine g_lv [2, 3, 4, 5, 6, 1, 0] rfl ?_
                      exact ih68 v_lasts x1 x2 x3 x4 (1 : Int32) (x6 + (1 : Int32)) hF
          intro v_lasts x1 x2 x3 hF
          rw [fX9_layPlanks_20] at hF
          refine g_iload_n (np := 21) h 3 rfl rfl dX9_layPlanks_20 rfl ?_
          refine g_bipush (np := 23) (v := (10 : Int32)) h (by decide) dX9_layPlanks_21 rfl ?_
          refine g_icmp_ge h hF dX9_layPlanks_23 (np := 26) rfl (tg := 139) rfl (fun c2001 hF => ?_) (fun c2001 hF => ?_)
          · refine g_aload_n (np := 140) h 0 rfl rfl dX9_layPlanks_139 rfl ?_
            refine g_get (np := 143) (T := TX9) h imX9_layPlanks_u_X9 0 9 rfl rfl 10 (by decide) (imX9_layPlanks_own _ (List.mem_of_getElem? (i := 0) rfl)) rfl dX9_layPlanks_140 rfl ?_
            refine g_iload_n (np := 144) h 1 rfl rfl dX9_layPlanks_143 rfl ?_
            refine g_iload_n (np := 145) h 2 rfl rfl dX9_layPlanks_144 rfl ?_
            refine g_iast (np := 146) (Wd' := (wdX9_layPlanks cI cZ q0 q1 q2 q3 d4 d5 d6 d7 d8 d9 d10 v_book v_of (wr v_lasts x1 x2) v_sights v_signs v_weddings v_reason v_acts)) h 3 rfl hF rfl dX9_layPlanks_145 rfl (fun hi2002 hF => ?_)
            refine g_iinc (np := 149) (v := (x1 + (1 : Int32))) (lv' := [(1, .int (x1 + (1 : Int32))), (0, .ref q0), (2, .int x2), (3, .int x3)]) h 1 rfl rfl (by decide) rfl dX9_layPlanks_146 rfl ?_
            refine g_goto h dX9_layPlanks_149 (np := 9) rfl ?_
            refine g_lv [1, 0] rfl ?_
            exact ih9 (wr v_lasts x1 x2) (x1 + (1 : Int32)) hF
          · refine g_iload_n (np := 27) h 1 rfl rfl dX9_layPlanks_26 rfl ?_
            refine g_iload_n (np := 28) h 3 rfl rfl dX9_layPlanks_27 rfl ?_
            obtain ⟨r2003, hr2003, hF⟩ := Option.bind_eq_some_iff.mp hF
            refine g_callS (np := 31) (Wd' := (wdX9_layPlanks cI cZ q0 q1 q2 q3 d4 d5 d6 d7 d8 d9 d10 v_book v_of v_lasts v_sights v_signs v_weddings v_reason v_acts)) (As := [.int x1, .int x3]) h (mX9_has l D cI cZ x1 x3 r2003 hr2003) gcX9_layPlanks_X9_has rfl ⟨rfl, rfl⟩ hyX9_has rfl rfl rfl rfl ⟨Nat.zero_le _, Nat.zero_le _⟩ [] [0, 1, 2, 3] (N := 4) (by decide +kernel) rfl rfl rfl rfl rfl dX9_layPlanks_28 rfl ?_
            refine g_if_eq h hF dX9_layPlanks_31 (np := 34) rfl (tg := 133) rfl (fun c2004 hF => ?_) (fun c2004 hF => ?_)
            · refine g_iinc (np := 136) (v := (x3 + (1 : Int32))) (lv' := [(3, .int (x3 + (1 : Int32))), (0, .ref q0), (1, .int x1), (2, .int x2)]) h 3 rfl rfl (by decide) rfl dX9_layPlanks_133 rfl ?_
              refine g_goto h dX9_layPlanks_136 (np := 20) rfl ?_
              refine g_lv [1, 2, 3, 0] rfl ?_
              exact ih20 v_lasts x1 x2 (x3 + (1 : Int32)) hF
            · refine g_aload_n (np := 35) h 0 rfl rfl dX9_layPlanks_34 rfl ?_
              refine g_get (np := 38) (T := TX9) h imX9_layPlanks_u_X9 0 9 rfl rfl 0 (by decide) (imX9_layPlanks_own _ (List.mem_of_getElem? (i := 1) rfl)) rfl dX9_layPlanks_35 rfl ?_
              refine g_iload_n (np := 39) h 3 rfl rfl dX9_layPlanks_38 rfl ?_
              refine g_iald (np := 40) h 1 rfl hF dX9_layPlanks_39 rfl (fun hi2005 hF => ?_)
              refine g_iconst (np := 41) (v := (3 : Int32)) h (by decide) dX9_layPlanks_40 rfl ?_
              refine g_icmp_eq h hF dX9_layPlanks_41 (np := 44) rfl (tg := 133) rfl (fun c2006 hF => ?_) (fun c2006 hF => ?_)
              · refine g_iinc (np := 136) (v := (x3 + (1 : Int32))) (lv' := [(3, .int (x3 + (1 : Int32))), (0, .ref q0), (1, .int x1), (2, .int x2)]) h 3 rfl rfl (by decide) rfl dX9_layPlanks_133 rfl ?_
                refine g_goto h dX9_layPlanks_136 (np := 20) rfl ?_
                refine g_lv [1, 2, 3, 0] rfl ?_
                exact ih20 v_lasts x1 x2 (x3 + (1 : Int32)) hF
              · refine g_iload_n (np := 45) h 1 rfl rfl dX9_layPlanks_44 rfl ?_
                refine g_iconst (np := 46) (v := (1 : Int32)) h (by decide) dX9_layPlanks_45 rfl ?_
                refine g_iload_n (np := 47) h 3 rfl rfl dX9_layPlanks_46 rfl ?_
                refine g_ishl (np := 48) h dX9_layPlanks_47 rfl ?_
                refine g_iconst (np := 49) (v := (-1 : Int32)) h (by decide) dX9_layPlanks_48 rfl ?_
                refine g_ixor (np := 50) h dX9_layPlanks_49 rfl ?_
                refine g_iand (np := 51) h dX9_layPlanks_50 rfl ?_
                refine g_istore (np := 53) (lv' := [(4, .int (x1 &&& ((jshl (1 : Int32) x3) ^^^ (-1 : Int32)))), (0, .ref q0), (1, .int x1), (2, .int x2), (3, .int x3)]) h (by decide) rfl dX9_layPlanks_51 rfl ?_
                refine g_iload (np := 55) h 0 rfl dX9_layPlanks_53 rfl ?_
                refine g_if_ne h hF dX9_layPlanks_55 (np := 58) rfl (tg := 62) rfl (fun c2007 hF => ?_) (fun c2007 hF => ?_)
                · refine g_iconst (np := 63) (v := (0 : Int32)) h (by decide) dX9_layPlanks_62 rfl ?_
                  refine g_istore (np := 65) (lv' := [(5, .int (0 : Int32)), (4, .int (x1 &&& ((jshl (1 : Int32) x3) ^^^ (-1 : Int32)))), (0, .ref q0), (1, .int x1), (2, .int x2), (3, .int x3)]) h (by decide) rfl dX9_layPlanks_63 rfl ?_
                  refine g_iconst (np := 66) (v := (0 : Int32)) h (by decide) dX9_layPlanks_65 rfl ?_
                  refine g_istore (np := 68) (lv' := [(6, .int (0 : Int32)), (5, .int (0 : Int32)), (4, .int (x1 &&& ((jshl (1 : Int32) x3) ^^^ (-1 : Int32)))), (0, .ref q0), (1, .int x1), (2, .int x2), (3, .int x3)]) h (by decide) rfl dX9_layPlanks_66 rfl ?_
                  refine g_lv [3, 4, 5, 6, 2, 1, 0] rfl ?_
                  exact hL68 _ v_lasts x1 x2 x3 (x1 &&& ((jshl (1 : Int32) x3) ^^^ (-1 : Int32))) (0 : Int32) (0 : Int32) hF
                · refine g_iconst (np := 59) (v := (1 : Int32)) h (by decide) dX9_layPlanks_58 rfl ?_
                  refine g_goto h dX9_layPlanks_59 (np := 63) rfl ?_
                  refine g_istore (np := 65) (lv' := [(5, .int (1 : Int32)), (4, .int (x1 &&& ((jshl (1 : Int32) x3) ^^^ (-1 : Int32)))), (0, .ref q0), (1, .int x1), (2, .int x2), (3, .int x3)]) h (by decide) rfl dX9_layPlanks_63 rfl ?_
                  refine g_iconst (np := 66) (v := (0 : Int32)) h (by decide) dX9_layPlanks_65 rfl ?_
                  refine g_istore (np := 68) (lv' := [(6, .int (0 : Int32)), (5, .int (1 : Int32)), (4, .int (x1 &&& ((jshl (1 : Int32) x3) ^^^ (-1 : Int32)))), (0, .ref q0), (1, .int x1), (2, .int x2), (3, .int x3)]) h (by decide) rfl dX9_layPlanks_66 rfl ?_
                  refine g_lv [3, 4, 5, 6, 2, 1, 0] rfl ?_
                  exact hL68 _ v_lasts x1 x2 x3 (x1 &&& ((jshl (1 : Int32) x3) ^^^ (-1 : Int32))) (1 : Int32) (0 : Int32) hF
      intro v_lasts x1 hF
      rw [fX9_layPlanks_9] at hF
      refine g_iload_n (np := 10) h 1 rfl rfl dX9_layPlanks_9 rfl ?_
      refine g_sipush (np := 13) (v := (1024 : Int32)) h (by decide) dX9_layPlanks_10 rfl ?_
      refine g_icmp_ge h hF dX9_layPlanks_13 (np := 16) rfl (tg := 152) rfl (fun c3001 hF => ?_) (fun c3001 hF => ?_)
      · exact hend _ hF _ _ dX9_layPlanks_152
      · refine g_iconst (np := 17) (v := (0 : Int32)) h (by decide) dX9_layPlanks_16 rfl ?_
        refine g_istore_n (np := 18) (lv' := [(2, .int (0 : Int32)), (0, .ref q0), (1, .int x1)]) h rfl (by decide) rfl dX9_layPlanks_17 rfl ?_
        refine g_iconst (np := 19) (v := (0 : Int32)) h (by decide) dX9_layPlanks_18 rfl ?_
        refine g_istore_n (np := 20) (lv' := [(3, .int (0 : Int32)), (2, .int (0 : Int32)), (0, .ref q0), (1, .int x1)]) h rfl (by decide) rfl dX9_layPlanks_19 rfl ?_
        refine g_lv [2, 3, 1, 0] rfl ?_
        exact hL20 _ v_lasts x1 (0 : Int32) (0 : Int32) hF
  unfold fX9_layPlanks at hF
  refine g_aload_n (np := 1) h 0 rfl rfl dX9_layPlanks_0 rfl ?_
  refine g_get (np := 4) (T := TX9) h imX9_layPlanks_u_X9 0 9 rfl rfl 10 (by decide) (imX9_layPlanks_own _ (List.mem_of_getElem? (i := 0) rfl)) rfl dX9_layPlanks_1 rfl ?_
  refine g_iconst (np := 5) (v := (0 : Int32)) h (by decide) dX9_layPlanks_4 rfl ?_
  refine g_iconst (np := 6) (v := (0 : Int32)) h (by decide) dX9_layPlanks_5 rfl ?_
  refine g_iast (np := 7) (Wd' := (wdX9_layPlanks cI cZ q0 q1 q2 q3 d4 d5 d6 d7 d8 d9 d10 v_book v_of (wr v_lasts (0 : Int32) (0 : Int32)) v_sights v_signs v_weddings v_reason v_acts)) h 3 rfl hF rfl dX9_layPlanks_6 rfl (fun hi1 hF => ?_)
  refine g_iconst (np := 8) (v := (1 : Int32)) h (by decide) dX9_layPlanks_7 rfl ?_
  refine g_istore_n (np := 9) (lv' := [(1, .int (1 : Int32)), (0, .ref q0)]) h rfl (by decide) rfl dX9_layPlanks_8 rfl ?_
  refine g_lv [1, 0] rfl ?_
  exact hL9 _ (wr v_lasts (0 : Int32) (0 : Int32)) (1 : Int32) hF
theorem dX9_longest_0 : decode cX9_longest 0 = .ok (.iload_n 1, 1) := by decide +kernel
theorem dX9_longest_1 : decode cX9_longest 1 = .ok (.iconst 0, 1) := by decide +kernel
theorem dX9_longest_2 : decode cX9_longest 2 = .ok (.iconst 1, 1) := by decide +kernel
theorem dX9_longest_3 : decode cX9_longest 3 = .ok (.invokestatic 41, 3) := by decide +kernel
theorem dX9_longest_6 : decode cX9_longest 6 = .ok (.ifCond .ne 6, 3) := by decide +kernel
theorem dX9_longest_9 : decode cX9_longest 9 = .ok (.bipush (-2), 2) := by decide +kernel
theorem dX9_longest_11 : decode cX9_longest 11 = .ok (.ireturn, 1) := by decide +kernel
theorem dX9_longest_12 : decode cX9_longest 12 = .ok (.aload_n 0, 1) := by decide +kernel
theorem dX9_longest_13 : decode cX9_longest 13 = .ok (.invokevirtual 116, 3) := by decide +kernel
theorem dX9_longest_16 : decode cX9_longest 16 = .ok (.iconst 0, 1) := by decide +kernel
theorem dX9_longest_17 : decode cX9_longest 17 = .ok (.istore_n 2, 1) := by decide +kernel
theorem dX9_longest_18 : decode cX9_longest 18 = .ok (.iconst 0, 1) := by decide +kernel
theorem dX9_longest_19 : decode cX9_longest 19 = .ok (.istore_n 3, 1) := by decide +kernel
theorem dX9_longest_20 : decode cX9_longest 20 = .ok (.iconst 1, 1) := by decide +kernel
theorem dX9_longest_21 : decode cX9_longest 21 = .ok (.istore 4, 2) := by decide +kernel
theorem dX9_longest_23 : decode cX9_longest 23 = .ok (.iload 4, 2) := by decide +kernel
theorem dX9_longest_25 : decode cX9_longest 25 = .ok (.sipush 1024, 3) := by decide +kernel
theorem dX9_longest_28 : decode cX9_longest 28 = .ok (.if_icmp .ge 93, 3) := by decide +kernel
theorem dX9_longest_31 : decode cX9_longest 31 = .ok (.iconst 0, 1) := by decide +kernel
theorem dX9_longest_32 : decode cX9_longest 32 = .ok (.istore 5, 2) := by decide +kernel
theorem dX9_longest_34 : decode cX9_longest 34 = .ok (.iconst 0, 1) := by decide +kernel
theorem dX9_longest_35 : decode cX9_longest 35 = .ok (.istore 6, 2) := by decide +kernel
theorem dX9_longest_37 : decode cX9_longest 37 = .ok (.iload 6, 2) := by decide +kernel
theorem dX9_longest_39 : decode cX9_longest 39 = .ok (.bipush 10, 2) := by decide +kernel
theorem dX9_longest_41 : decode cX9_longest 41 = .ok (.if_icmp .ge 48, 3) := by decide +kernel
theorem dX9_longest_44 : decode cX9_longest 44 = .ok (.aload_n 0, 1) := by decide +kernel
theorem dX9_longest_45 : decode cX9_longest 45 = .ok (.getfield 25, 3) := by decide +kernel
theorem dX9_longest_48 : decode cX9_longest 48 = .ok (.iload 4, 2) := by decide +kernel
theorem dX9_longest_50 : decode cX9_longest 50 = .ok (.iaload, 1) := by decide +kernel
theorem dX9_longest_51 : decode cX9_longest 51 = .ok (.ifCond .eq 38, 3) := by decide +kernel
theorem dX9_longest_54 : decode cX9_longest 54 = .ok (.iload 5, 2) := by decide +kernel
theorem dX9_longest_56 : decode cX9_longest 56 = .ok (.iload 4, 2) := by decide +kernel
theorem dX9_longest_58 : decode cX9_longest 58 = .ok (.iload 6, 2) := by decide +kernel
theorem dX9_longest_60 : decode cX9_longest 60 = .ok (.invokestatic 109, 3) := by decide +kernel
theorem dX9_longest_63 : decode cX9_longest 63 = .ok (.ifCond .eq 16, 3) := by decide +kernel
theorem dX9_longest_66 : decode cX9_longest 66 = .ok (.aload_n 0, 1) := by decide +kernel
theorem dX9_longest_67 : decode cX9_longest 67 = .ok (.getfield 16, 3) := by decide +kernel
theorem dX9_longest_70 : decode cX9_longest 70 = .ok (.bipush 20, 2) := by decide +kernel
theorem dX9_longest_72 : decode cX9_longest 72 = .ok (.iload 6, 2) := by decide +kernel
theorem dX9_longest_74 : decode cX9_longest 74 = .ok (.iadd, 1) := by decide +kernel
theorem dX9_longest_75 : decode cX9_longest 75 = .ok (.iaload, 1) := by decide +kernel
theorem dX9_longest_76 : decode cX9_longest 76 = .ok (.goto 4, 3) := by decide +kernel
theorem dX9_longest_79 : decode cX9_longest 79 = .ok (.iconst 0, 1) := by decide +kernel
theorem dX9_longest_80 : decode cX9_longest 80 = .ok (.iadd, 1) := by decide +kernel
theorem dX9_longest_81 : decode cX9_longest 81 = .ok (.istore 5, 2) := by decide +kernel
theorem dX9_longest_83 : decode cX9_longest 83 = .ok (.iinc 6 1, 3) := by decide +kernel
theorem dX9_longest_86 : decode cX9_longest 86 = .ok (.goto (-49), 3) := by decide +kernel
theorem dX9_longest_89 : decode cX9_longest 89 = .ok (.iload 5, 2) := by decide +kernel
theorem dX9_longest_91 : decode cX9_longest 91 = .ok (.iload_n 2, 1) := by decide +kernel
theorem dX9_longest_92 : decode cX9_longest 92 = .ok (.if_icmp .le 8, 3) := by decide +kernel
theorem dX9_longest_95 : decode cX9_longest 95 = .ok (.iload 4, 2) := by decide +kernel
theorem dX9_longest_97 : decode cX9_longest 97 = .ok (.goto 4, 3) := by decide +kernel
theorem dX9_longest_100 : decode cX9_longest 100 = .ok (.iload_n 3, 1) := by decide +kernel
theorem dX9_longest_101 : decode cX9_longest 101 = .ok (.istore_n 3, 1) := by decide +kernel
theorem dX9_longest_102 : decode cX9_longest 102 = .ok (.iload 5, 2) := by decide +kernel
theorem dX9_longest_104 : decode cX9_longest 104 = .ok (.iload_n 2, 1) := by decide +kernel
theorem dX9_longest_105 : decode cX9_longest 105 = .ok (.if_icmp .le 8, 3) := by decide +kernel
theorem dX9_longest_108 : decode cX9_longest 108 = .ok (.iload 5, 2) := by decide +kernel
theorem dX9_longest_110 : decode cX9_longest 110 = .ok (.goto 4, 3) := by decide +kernel
theorem dX9_longest_113 : decode cX9_longest 113 = .ok (.iload_n 2, 1) := by decide +kernel
theorem dX9_longest_114 : decode cX9_longest 114 = .ok (.istore_n 2, 1) := by decide +kernel
theorem dX9_longest_115 : decode cX9_longest 115 = .ok (.iinc 4 1, 3) := by decide +kernel
theorem dX9_longest_118 : decode cX9_longest 118 = .ok (.goto (-95), 3) := by decide +kernel
theorem dX9_longest_121 : decode cX9_longest 121 = .ok (.iload_n 1, 1) := by decide +kernel
theorem dX9_longest_122 : decode cX9_longest 122 = .ok (.ifCond .ne 7, 3) := by decide +kernel
theorem dX9_longest_125 : decode cX9_longest 125 = .ok (.iload_n 2, 1) := by decide +kernel
theorem dX9_longest_126 : decode cX9_longest 126 = .ok (.goto 4, 3) := by decide +kernel
theorem dX9_longest_129 : decode cX9_longest 129 = .ok (.iload_n 3, 1) := by decide +kernel
theorem dX9_longest_130 : decode cX9_longest 130 = .ok (.ireturn, 1) := by decide +kernel
def wtX9_longest : List Cond := .code yX9_longest cX9_longest 7 (some .int) :: (([.fieldLink RX9 25 "DriftKinModel" "lasts" "[I", .fieldLink RX9 16 "DriftKinModel" "of" "[I"]) ++ ((u_ws RX9 TX9 15) ++ ((va_wsS RX9 41 yX9_in wtX9_in) ++ ((wsV RX9 116 RX9 yX9_layPlanks wtX9_layPlanks) ++ ((va_wsS RX9 109 yX9_has wtX9_has) ++ [])))))
theorem imX9_longest_own : ∀ w ∈ ([.fieldLink RX9 25 "DriftKinModel" "lasts" "[I", .fieldLink RX9 16 "DriftKinModel" "of" "[I"] : List Cond), w ∈ wtX9_longest := fun w h => List.mem_cons_of_mem _ (inl h)
theorem imX9_longest_u_X9 : ∀ w ∈ (u_ws RX9 TX9 15 : List Cond), w ∈ wtX9_longest := fun w h => List.mem_cons_of_mem _ (inr (inl h))
theorem imX9_longest_c_X9_in : ∀ w ∈ (va_wsS RX9 41 yX9_in wtX9_in : List Cond), w ∈ wtX9_longest := fun w h => List.mem_cons_of_mem _ (inr (inr (inl h)))
theorem imX9_longest_c_X9_layPlanks : ∀ w ∈ (wsV RX9 116 RX9 yX9_layPlanks wtX9_layPlanks : List Cond), w ∈ wtX9_longest := fun w h => List.mem_cons_of_mem _ (inr (inr (inr (inl h))))
theorem imX9_longest_c_X9_has : ∀ w ∈ (va_wsS RX9 109 yX9_has wtX9_has : List Cond), w ∈ wtX9_longest := fun w h => List.mem_cons_of_mem _ (inr (inr (inr (inr (inl h)))))
theorem gdX9_longest : ∀ w ∈ wtX9_longest, Gd w := gdc rfl (gda (gdl (by decide +kernel)) (gda (gdu _ _ _) (gda (gda (gdl (by decide +kernel)) gdX9_in) (gda (gda (gdl (by decide +kernel)) gdX9_layPlanks) (gda (gda (gdl (by decide +kernel)) gdX9_has) gdn)))))
theorem gcX9_longest_X9_in : GoodIn wtX9_longest (va_wsS RX9 41 yX9_in wtX9_in) := fun w h => ⟨imX9_longest_c_X9_in w h, (gda (gdl (by decide +kernel)) gdX9_in) w h⟩
theorem gcX9_longest_X9_layPlanks : GoodIn wtX9_longest (wsV RX9 116 RX9 yX9_layPlanks wtX9_layPlanks) := fun w h => ⟨imX9_longest_c_X9_layPlanks w h, (gda (gdl (by decide +kernel)) gdX9_layPlanks) w h⟩
theorem gcX9_longest_X9_has : GoodIn wtX9_longest (va_wsS RX9 109 yX9_has wtX9_has) := fun w h => ⟨imX9_longest_c_X9_has w h, (gda (gdl (by decide +kernel)) gdX9_has) w h⟩
def fX9_longest_101 (k23 : Int32 → Int32 → Int32 → Option (Int32 × (Nat → Int32))) (v_of : Nat → Int32) (v_lasts : Nat → Int32) (x1 : Int32) (x2 : Int32) (x4 : Int32) (x5 : Int32) (s0 : Int32) : Option (Int32 × (Nat → Int32)) :=
  if x5 ≤ x2 then
    k23 x2 s0 (x4 + (1 : Int32))
  else
    k23 x5 s0 (x4 + (1 : Int32))
def fX9_longest_89 (k23 : Int32 → Int32 → Int32 → Option (Int32 × (Nat → Int32))) (v_of : Nat → Int32) (v_lasts : Nat → Int32) (x1 : Int32) (x2 : Int32) (x3 : Int32) (x4 : Int32) (x5 : Int32) : Option (Int32 × (Nat → Int32)) :=
  if x5 ≤ x2 then
    fX9_longest_101 k23 v_of v_lasts x1 x2 x4 x5 x3
  else
    fX9_longest_101 k23 v_of v_lasts x1 x2 x4 x5 x4
def fX9_longest_37 (k23 : Int32 → Int32 → Int32 → Option (Int32 × (Nat → Int32))) (v_of : Nat → Int32) (v_lasts : Nat → Int32) (x1 : Int32) (x2 : Int32) (x3 : Int32) (x4 : Int32) : Nat → Int32 → Int32 → Option (Int32 × (Nat → Int32))
  | 0, _, _ => none
  | n + 1, x5, x6 =>
    if (10 : Int32) ≤ x6 then
      fX9_longest_89 k23 v_of v_lasts x1 x2 x3 x4 x5
    else
      chk x4 1024 (
        if (rd v_lasts x4) = (0 : Int32) then
          fX9_longest_89 k23 v_of v_lasts x1 x2 x3 x4 x5
        else
          (fX9_has x4 x6).bind (fun r3004 =>
            if r3004 = (0 : Int32) then
              fX9_longest_37 k23 v_of v_lasts x1 x2 x3 x4 n (x5 + (0 : Int32)) (x6 + (1 : Int32))
            else
              chk ((20 : Int32) + x6) 60 (
                fX9_longest_37 k23 v_of v_lasts x1 x2 x3 x4 n (x5 + (rd v_of ((20 : Int32) + x6))) (x6 + (1 : Int32)))))
def fX9_longest_23 (v_of : Nat → Int32) (v_lasts : Nat → Int32) (x1 : Int32) : Nat → Int32 → Int32 → Int32 → Option (Int32 × (Nat → Int32))
  | 0, _, _, _ => none
  | n + 1, x2, x3, x4 =>
    if (1024 : Int32) ≤ x4 then
      if x1 = (0 : Int32) then
        some (x2, v_lasts)
      else
        some (x3, v_lasts)
    else
      fX9_longest_37 (fun y0 y1 y2 => fX9_longest_23 v_of v_lasts x1 n y0 y1 y2) v_of v_lasts x1 x2 x3 x4 2000 (0 : Int32) (0 : Int32)
def fX9_longest (v_book : Nat → Int32) (v_of : Nat → Int32) (v_lasts : Nat → Int32) (x1 : Int32) : Option (Int32 × (Nat → Int32)) :=
  (fX9_in x1 (0 : Int32) (1 : Int32)).bind (fun r1 =>
    if r1 = (0 : Int32) then
      some ((-2 : Int32), v_lasts)
    else
      (fX9_layPlanks v_book v_of v_lasts).bind (fun r3 =>
        fX9_longest_23 v_of r3 x1 2000 (0 : Int32) (0 : Int32) (1 : Int32)))
def wdX9_longest (cI cZ : ClassId) (q0 : Nat) (q1 : Nat) (q2 : Nat) (q3 : Nat) (d4 : Nat) (d5 : Nat) (d6 : Nat) (d7 : Nat) (d8 : Nat) (d9 : Nat) (d10 : Nat)  (v_book : Nat → Int32) (v_of : Nat → Int32) (v_lasts : Nat → Int32) (v_sights : Int32) (v_signs : Int32) (v_weddings : Int32) (v_reason : Int32) (v_acts : Int32) : va_W := [(q0, .inr (9, [.ref q1, .ref d4, .ref q2, .int v_sights, .ref d5, .int v_signs, .ref d6, .int v_weddings, .int v_reason, .int v_acts, .ref q3, .ref d7, .ref d8, .ref d9, .ref d10])), (q1, .inl (cI, 35, .inl v_book)), (q2, .inl (cI, 60, .inl v_of)), (q3, .inl (cI, 1024, .inl v_lasts))]
abbrev rmX9_longest : Jvm.Room := { frames := 2, cells := 0, slots := 0, locals := 48 }
theorem hyX9_longest : yX9_longest.cls ≠ "java/lang/invoke/MethodHandle" ∧ yX9_longest.cls ≠ "java/lang/invoke/VarHandle" ∧ (parseMethodDescriptor yX9_longest.desc).map (fun d => d.parameters.length) = some 1 := by decide +kernel
set_option maxHeartbeats 4000000 in
set_option maxRecDepth 100000 in
theorem mX9_longest (l : Launch) (D : va_G) (cI cZ : ClassId) (q0 : Nat) (q1 : Nat) (q2 : Nat) (q3 : Nat) (d4 : Nat) (d5 : Nat) (d6 : Nat) (d7 : Nat) (d8 : Nat) (d9 : Nat) (d10 : Nat) (v_book : Nat → Int32) (v_of : Nat → Int32) (v_lasts : Nat → Int32) (v_sights : Int32) (v_signs : Int32) (v_weddings : Int32) (v_reason : Int32) (v_acts : Int32) (x1 : Int32) (z : Int32 × (Nat → Int32)) (hF : fX9_longest v_book v_of v_lasts x1 = some z) : mp l yX9_longest wtX9_longest rmX9_longest D cI cZ [.ref q0, .int x1] (wdX9_longest cI cZ q0 q1 q2 q3 d4 d5 d6 d7 d8 d9 d10 v_book v_of v_lasts v_sights v_signs v_weddings v_reason v_acts) (some (.int z.1)) (wdX9_longest cI cZ q0 q1 q2 q3 d4 d5 d6 d7 d8 d9 d10 v_book v_of z.2 v_sights v_signs v_weddings v_reason v_acts) := by
  refine mp_i (lv0 := [(0, .ref q0), (1, .int x1)]) cX9_longest 7 z.1 (by decide) rfl (Nat.le_of_ble_eq_true rfl) rfl (fun E h hend0 => ?_)
  have hend : ∀ (z' : Int32 × (Nat → Int32)), some z' = some z → ∀ (pc : Nat) (lv : List (Nat × Value)), decode cX9_longest pc = .ok (.ireturn, 1) → G l D E 7 0 0 (wdX9_longest cI cZ q0 q1 q2 q3 d4 d5 d6 d7 d8 d9 d10 v_book v_of (z'.2) v_sights v_signs v_weddings v_reason v_acts) pc lv [.int z'.1] := fun z' e => by cases e; exact hend0
  clear hend0
  have hL23 : ∀ (n23 : Nat) (v_lasts : Nat → Int32) (x2 : Int32) (x3 : Int32) (x4 : Int32), fX9_longest_23 v_of v_lasts x1 n23 x2 x3 x4 = some z → G l D E 7 0 0 (wdX9_longest cI cZ q0 q1 q2 q3 d4 d5 d6 d7 d8 d9 d10 v_book v_of v_lasts v_sights v_signs v_weddings v_reason v_acts) 23 [(0, .ref q0), (1, .int x1), (2, .int x2), (3, .int x3), (4, .int x4)] [] := by
    intro n23
    induction n23 with
    | zero =>
      intro v_lasts x2 x3 x4 hF
      rw [fX9_longest_23] at hF
      cases hF
    | succ n23 ih23 =>
      have hL101 : ∀ (v_lasts : Nat → Int32) (x2 : Int32) (x4 : Int32) (x5 : Int32) (s0 : Int32), fX9_longest_101 (fun y0 y1 y2 => fX9_longest_23 v_of v_lasts x1 n23 y0 y1 y2) v_of v_lasts x1 x2 x4 x5 s0 = some z → G l D E 7 0 0 (wdX9_longest cI cZ q0 q1 q2 q3 d4 d5 d6 d7 d8 d9 d10 v_book v_of v_lasts v_sights v_signs v_weddings v_reason v_acts) 101 [(0, .ref q0), (1, .int x1), (2, .int x2), (4, .int x4), (5, .int x5)] [.int s0] := by
        intro v_lasts x2 x4 x5 s0 hF
        rw [fX9_longest_101] at hF
        refine g_istore_n (np := 102) (lv' := [(3, .int s0), (0, .ref q0), (1, .int x1), (2, .int x2), (4, .int x4), (5, .int x5)]) h rfl (by decide) rfl dX9_longest_101 rfl ?_
        refine g_iload (np := 104) h 5 rfl dX9_longest_102 rfl ?_
        refine g_iload_n (np := 105) h 3 rfl rfl dX9_longest_104 rfl ?_
        refine g_icmp_le h hF dX9_longest_105 (np := 108) rfl (tg := 113) rfl (fun c1001 hF => ?_) (fun c1001 hF => ?_)
        · refine g_iload_n (np := 114) h 3 rfl rfl dX9_longest_113 rfl ?_
          refine g_istore_n (np := 115) (lv' := [(2, .int x2), (3, .int s0), (0, .ref q0), (1, .int x1), (4, .int x4), (5, .int x5)]) h rfl (by decide) rfl dX9_longest_114 rfl ?_
          refine g_iinc (np := 118) (v := (x4 + (1 : Int32))) (lv' := [(4, .int (x4 + (1 : Int32))), (2, .int x2), (3, .int s0), (0, .ref q0), (1, .int x1), (5, .int x5)]) h 4 rfl rfl (by decide) rfl dX9_longest_115 rfl ?_
          refine g_goto h dX9_longest_118 (np := 23) rfl ?_
          refine g_lv [3, 4, 1, 2, 0] rfl ?_
          exact ih23 v_lasts x2 s0 (x4 + (1 : Int32)) hF
        · refine g_iload (np := 110) h 5 rfl dX9_longest_108 rfl ?_
          refine g_goto h dX9_longest_110 (np := 114) rfl ?_
          refine g_istore_n (np := 115) (lv' := [(2, .int x5), (3, .int s0), (0, .ref q0), (1, .int x1), (4, .int x4), (5, .int x5)]) h rfl (by decide) rfl dX9_longest_114 rfl ?_
          refine g_iinc (np := 118) (v := (x4 + (1 : Int32))) (lv' := [(4, .int (x4 + (1 : Int32))), (2, .int x5), (3, .int s0), (0, .ref q0), (1, .int x1), (5, .int x5)]) h 4 rfl rfl (by decide) rfl dX9_longest_115 rfl ?_
          refine g_goto h dX9_longest_118 (np := 23) rfl ?_
          refine g_lv [3, 4, 1, 2, 0] rfl ?_
          exact ih23 v_lasts x5 s0 (x4 + (1 : Int32)) hF
      have hL89 : ∀ (v_lasts : Nat → Int32) (x2 : Int32) (x3 : Int32) (x4 : Int32) (x5 : Int32), fX9_longest_89 (fun y0 y1 y2 => fX9_longest_23 v_of v_lasts x1 n23 y0 y1 y2) v_of v_lasts x1 x2 x3 x4 x5 = some z → G l D E 7 0 0 (wdX9_longest cI cZ q0 q1 q2 q3 d4 d5 d6 d7 d8 d9 d10 v_book v_of v_lasts v_sights v_signs v_weddings v_reason v_acts) 89 [(0, .ref q0), (1, .int x1), (2, .int x2), (3, .int x3), (4, .int x4), (5, .int x5)] [] := by
        intro v_lasts x2 x3 x4 x5 hF
        rw [fX9_longest_89] at hF
        refine g_iload (np := 91) h 5 rfl dX9_longest_89 rfl ?_
        refine g_iload_n (np := 92) h 2 rfl rfl dX9_longest_91 rfl ?_
        refine g_icmp_le h hF dX9_longest_92 (np := 95) rfl (tg := 100) rfl (fun c2001 hF => ?_) (fun c2001 hF => ?_)
        · refine g_iload_n (np := 101) h 3 rfl rfl dX9_longest_100 rfl ?_
          refine g_lv [0, 1, 2, 4, 5] rfl ?_
          exact hL101 v_lasts x2 x4 x5 x3 hF
        · refine g_iload (np := 97) h 4 rfl dX9_longest_95 rfl ?_
          refine g_goto h dX9_longest_97 (np := 101) rfl ?_
          refine g_lv [0, 1, 2, 4, 5] rfl ?_
          exact hL101 v_lasts x2 x4 x5 x4 hF
      have hL37 : ∀ (n37 : Nat) (v_lasts : Nat → Int32) (x2 : Int32) (x3 : Int32) (x4 : Int32) (x5 : Int32) (x6 : Int32), fX9_longest_37 (fun y0 y1 y2 => fX9_longest_23 v_of v_lasts x1 n23 y0 y1 y2) v_of v_lasts x1 x2 x3 x4 n37 x5 x6 = some z → G l D E 7 0 0 (wdX9_longest cI cZ q0 q1 q2 q3 d4 d5 d6 d7 d8 d9 d10 v_book v_of v_lasts v_sights v_signs v_weddings v_reason v_acts) 37 [(0, .ref q0), (1, .int x1), (2, .int x2), (3, .int x3), (4, .int x4), (5, .int x5), (6, .int x6)] [] := by
        intro n37
        induction n37 with
        | zero =>
          intro v_lasts x2 x3 x4 x5 x6 hF
          rw [fX9_longest_37] at hF
          cases hF
        | succ n37 ih37 =>
          intro v_lasts x2 x3 x4 x5 x6 hF
          rw [fX9_longest_37] at hF
          refine g_iload (np := 39) h 6 rfl dX9_longest_37 rfl ?_
          refine g_bipush (np := 41) (v := (10 : Int32)) h (by decide) dX9_longest_39 rfl ?_
          refine g_icmp_ge h hF dX9_longest_41 (np := 44) rfl (tg := 89) rfl (fun c3001 hF => ?_) (fun c3001 hF => ?_)
          · refine g_lv [0, 1, 2, 3, 4, 5] rfl ?_
            exact hL89 v_lasts x2 x3 x4 x5 hF
          · refine g_aload_n (np := 45) h 0 rfl rfl dX9_longest_44 rfl ?_
            refine g_get (np := 48) (T := TX9) h imX9_longest_u_X9 0 9 rfl rfl 10 (by decide) (imX9_longest_own _ (List.mem_of_getElem? (i := 0) rfl)) rfl dX9_longest_45 rfl ?_
            refine g_iload (np := 50) h 4 rfl dX9_longest_48 rfl ?_
            refine g_iald (np := 51) h 3 rfl hF dX9_longest_50 rfl (fun hi3002 hF => ?_)
            refine g_if_eq h hF dX9_longest_51 (np := 54) rfl (tg := 89) rfl (fun c3003 hF => ?_) (fun c3003 hF => ?_)
            · refine g_lv [0, 1, 2, 3, 4, 5] rfl ?_
              exact hL89 v_lasts x2 x3 x4 x5 hF
            · refine g_iload (np := 56) h 5 rfl dX9_longest_54 rfl ?_
              refine g_iload (np := 58) h 4 rfl dX9_longest_56 rfl ?_
              refine g_iload (np := 60) h 6 rfl dX9_longest_58 rfl ?_
              obtain ⟨r3004, hr3004, hF⟩ := Option.bind_eq_some_iff.mp hF
              refine g_callS (np := 63) (Wd' := (wdX9_longest cI cZ q0 q1 q2 q3 d4 d5 d6 d7 d8 d9 d10 v_book v_of v_lasts v_sights v_signs v_weddings v_reason v_acts)) (As := [.int x4, .int x6]) h (mX9_has l D cI cZ x4 x6 r3004 hr3004) gcX9_longest_X9_has rfl ⟨rfl, rfl⟩ hyX9_has rfl rfl rfl rfl ⟨Nat.zero_le _, Nat.zero_le _⟩ [] [0, 1, 2, 3] (N := 4) (by decide +kernel) rfl rfl rfl rfl rfl dX9_longest_60 rfl ?_
              refine g_if_eq h hF dX9_longest_63 (np := 66) rfl (tg := 79) rfl (fun c3005 hF => ?_) (fun c3005 hF => ?_)
              · refine g_iconst (np := 80) (v := (0 : Int32)) h (by decide) dX9_longest_79 rfl ?_
                refine g_iadd (np := 81) h dX9_longest_80 rfl ?_
                refine g_istore (np := 83) (lv' := [(5, .int (x5 + (0 : Int32))), (0, .ref q0), (1, .int x1), (2, .int x2), (3, .int x3), (4, .int x4), (6, .int x6)]) h (by decide) rfl dX9_longest_81 rfl ?_
                refine g_iinc (np := 86) (v := (x6 + (1 : Int32))) (lv' := [(6, .int (x6 + (1 : Int32))), (5, .int (x5 + (0 : Int32))), (0, .ref q0), (1, .int x1), (2, .int x2), (3, .int x3), (4, .int x4)]) h 6 rfl rfl (by decide) rfl dX9_longest_83 rfl ?_
                refine g_goto h dX9_longest_86 (np := 37) rfl ?_
                refine g_lv [2, 3, 4, 5, 6, 1, 0] rfl ?_
                exact ih37 v_lasts x2 x3 x4 (x5 + (0 : Int32)) (x6 + (1 : Int32)) hF
              · refine g_aload_n (np := 67) h 0 rfl rfl dX9_longest_66 rfl ?_
                refine g_get (np := 70) (T := TX9) h imX9_longest_u_X9 0 9 rfl rfl 2 (by decide) (imX9_longest_own _ (List.mem_of_getElem? (i := 1) rfl)) rfl dX9_longest_67 rfl ?_
                refine g_bipush (np := 72) (v := (20 : Int32)) h (by decide) dX9_longest_70 rfl ?_
                refine g_iload (np := 74) h 6 rfl dX9_longest_72 rfl ?_
                refine g_iadd (np := 75) h dX9_longest_74 rfl ?_
                refine g_iald (np := 76) h 2 rfl hF dX9_longest_75 rfl (fun hi3006 hF => ?_)
                refine g_goto h dX9_longest_76 (np := 80) rfl ?_
                refine g_iadd (np := 81) h dX9_longest_80 rfl ?_
                refine g_istore (np := 83) (lv' := [(5, .int (x5 + (rd v_of ((20 : Int32) + x6)))), (0, .ref q0), (1, .int x1), (2, .int x2), (3, .int x3), (4, .int x4), (6, .int x6)]) h (by decide) rfl dX9_longest_81 rfl ?_
                refine g_iinc (np := 86) (v := (x6 + (1 : Int32))) (lv' := [(6, .int (x6 + (1 : Int32))), (5, .int (x5 + (rd v_of ((20 : Int32) + x6)))), (0, .ref q0), (1, .int x1), (2, .int x2), (3, .int x3), (4, .int x4)]) h 6 rfl rfl (by decide) rfl dX9_longest_83 rfl ?_
                refine g_goto h dX9_longest_86 (np := 37) rfl ?_
                refine g_lv [2, 3, 4, 5, 6, 1, 0] rfl ?_
                exact ih37 v_lasts x2 x3 x4 (x5 + (rd v_of ((20 : Int32) + x6))) (x6 + (1 : Int32)) hF
      intro v_lasts x2 x3 x4 hF
      rw [fX9_longest_23] at hF
      refine g_iload (np := 25) h 4 rfl dX9_longest_23 rfl ?_
      refine g_sipush (np := 28) (v := (1024 : Int32)) h (by decide) dX9_longest_25 rfl ?_
      refine g_icmp_ge h hF dX9_longest_28 (np := 31) rfl (tg := 121) rfl (fun c4001 hF => ?_) (fun c4001 hF => ?_)
      · refine g_iload_n (np := 122) h 1 rfl rfl dX9_longest_121 rfl ?_
        refine g_if_ne h hF dX9_longest_122 (np := 125) rfl (tg := 129) rfl (fun c4002 hF => ?_) (fun c4002 hF => ?_)
        · refine g_iload_n (np := 130) h 3 rfl rfl dX9_longest_129 rfl ?_
          exact hend _ hF _ _ dX9_longest_130
        · refine g_iload_n (np := 126) h 2 rfl rfl dX9_longest_125 rfl ?_
          refine g_goto h dX9_longest_126 (np := 130) rfl ?_
          exact hend _ hF _ _ dX9_longest_130
      · refine g_iconst (np := 32) (v := (0 : Int32)) h (by decide) dX9_longest_31 rfl ?_
        refine g_istore (np := 34) (lv' := [(5, .int (0 : Int32)), (0, .ref q0), (1, .int x1), (2, .int x2), (3, .int x3), (4, .int x4)]) h (by decide) rfl dX9_longest_32 rfl ?_
        refine g_iconst (np := 35) (v := (0 : Int32)) h (by decide) dX9_longest_34 rfl ?_
        refine g_istore (np := 37) (lv' := [(6, .int (0 : Int32)), (5, .int (0 : Int32)), (0, .ref q0), (1, .int x1), (2, .int x2), (3, .int x3), (4, .int x4)]) h (by decide) rfl dX9_longest_35 rfl ?_
        refine g_lv [2, 3, 4, 5, 6, 1, 0] rfl ?_
        exact hL37 _ v_lasts x2 x3 x4 (0 : Int32) (0 : Int32) hF
  unfold fX9_longest at hF
  refine g_iload_n (np := 1) h 1 rfl rfl dX9_longest_0 rfl ?_
  refine g_iconst (np := 2) (v := (0 : Int32)) h (by decide) dX9_longest_1 rfl ?_
  refine g_iconst (np := 3) (v := (1 : Int32)) h (by decide) dX9_longest_2 rfl ?_
  obtain ⟨r1, hr1, hF⟩ := Option.bind_eq_some_iff.mp hF
  refine g_callS (np := 6) (Wd' := (wdX9_longest cI cZ q0 q1 q2 q3 d4 d5 d6 d7 d8 d9 d10 v_book v_of v_lasts v_sights v_signs v_weddings v_reason v_acts)) (As := [.int x1, .int (0 : Int32), .int (1 : Int32)]) h (mX9_in l D cI cZ x1 (0 : Int32) (1 : Int32) r1 hr1) gcX9_longest_X9_in rfl ⟨rfl, rfl⟩ hyX9_in rfl rfl rfl rfl ⟨Nat.zero_le _, Nat.zero_le _⟩ [] [0, 1, 2, 3] (N := 4) (by decide +kernel) rfl rfl rfl rfl rfl dX9_longest_3 rfl ?_
  refine g_if_ne h hF dX9_longest_6 (np := 9) rfl (tg := 12) rfl (fun c2 hF => ?_) (fun c2 hF => ?_)
  · refine g_aload_n (np := 13) h 0 rfl rfl dX9_longest_12 rfl ?_
    obtain ⟨r3, hr3, hF⟩ := Option.bind_eq_some_iff.mp hF
    refine g_callV (np := 16) (Wd' := (wdX9_longest cI cZ q0 q1 q2 q3 d4 d5 d6 d7 d8 d9 d10 v_book v_of r3 v_sights v_signs v_weddings v_reason v_acts)) (As := []) h (mX9_layPlanks l D cI cZ q0 q1 q2 q3 d4 d5 d6 d7 d8 d9 d10 v_book v_of v_lasts v_sights v_signs v_weddings v_reason v_acts r3 hr3) gcX9_longest_X9_layPlanks rfl ⟨rfl, rfl⟩ ⟨rfl, hyX9_layPlanks⟩ rfl 9 0 rfl rfl rfl rfl rfl rfl ⟨Nat.zero_le _, Nat.zero_le _⟩ [0, 1, 2, 3] [] (N := 4) (by decide +kernel) rfl rfl rfl rfl rfl dX9_longest_13 rfl ?_
    refine g_iconst (np := 17) (v := (0 : Int32)) h (by decide) dX9_longest_16 rfl ?_
    refine g_istore_n (np := 18) (lv' := [(2, .int (0 : Int32)), (0, .ref q0), (1, .int x1)]) h rfl (by decide) rfl dX9_longest_17 rfl ?_
    refine g_iconst (np := 19) (v := (0 : Int32)) h (by decide) dX9_longest_18 rfl ?_
    refine g_istore_n (np := 20) (lv' := [(3, .int (0 : Int32)), (2, .int (0 : Int32)), (0, .ref q0), (1, .int x1)]) h rfl (by decide) rfl dX9_longest_19 rfl ?_
    refine g_iconst (np := 21) (v := (1 : Int32)) h (by decide) dX9_longest_20 rfl ?_
    refine g_istore (np := 23) (lv' := [(4, .int (1 : Int32)), (3, .int (0 : Int32)), (2, .int (0 : Int32)), (0, .ref q0), (1, .int x1)]) h (by decide) rfl dX9_longest_21 rfl ?_
    refine g_lv [3, 4, 2, 1, 0] rfl ?_
    exact hL23 _ r3 (0 : Int32) (0 : Int32) (1 : Int32) hF
  · refine g_bipush (np := 11) (v := (-2 : Int32)) h (by decide) dX9_longest_9 rfl ?_
    exact hend _ hF _ _ dX9_longest_11
theorem dX9_deck_0 : decode cX9_deck 0 = .ok (.aload_n 0, 1) := by decide +kernel
theorem dX9_deck_1 : decode cX9_deck 1 = .ok (.invokevirtual 116, 3) := by decide +kernel
theorem dX9_deck_4 : decode cX9_deck 4 = .ok (.iconst 0, 1) := by decide +kernel
theorem dX9_deck_5 : decode cX9_deck 5 = .ok (.istore_n 1, 1) := by decide +kernel
theorem dX9_deck_6 : decode cX9_deck 6 = .ok (.iconst 0, 1) := by decide +kernel
theorem dX9_deck_7 : decode cX9_deck 7 = .ok (.istore_n 2, 1) := by decide +kernel
theorem dX9_deck_8 : decode cX9_deck 8 = .ok (.iload_n 2, 1) := by decide +kernel
theorem dX9_deck_9 : decode cX9_deck 9 = .ok (.bipush 10, 2) := by decide +kernel
theorem dX9_deck_11 : decode cX9_deck 11 = .ok (.if_icmp .ge 29, 3) := by decide +kernel
theorem dX9_deck_14 : decode cX9_deck 14 = .ok (.iload_n 1, 1) := by decide +kernel
theorem dX9_deck_15 : decode cX9_deck 15 = .ok (.aload_n 0, 1) := by decide +kernel
theorem dX9_deck_16 : decode cX9_deck 16 = .ok (.getfield 7, 3) := by decide +kernel
theorem dX9_deck_19 : decode cX9_deck 19 = .ok (.iload_n 2, 1) := by decide +kernel
theorem dX9_deck_20 : decode cX9_deck 20 = .ok (.iaload, 1) := by decide +kernel
theorem dX9_deck_21 : decode cX9_deck 21 = .ok (.iconst 3, 1) := by decide +kernel
theorem dX9_deck_22 : decode cX9_deck 22 = .ok (.if_icmp .eq 9, 3) := by decide +kernel
theorem dX9_deck_25 : decode cX9_deck 25 = .ok (.iconst 1, 1) := by decide +kernel
theorem dX9_deck_26 : decode cX9_deck 26 = .ok (.iload_n 2, 1) := by decide +kernel
theorem dX9_deck_27 : decode cX9_deck 27 = .ok (.ishl, 1) := by decide +kernel
theorem dX9_deck_28 : decode cX9_deck 28 = .ok (.goto 4, 3) := by decide +kernel
theorem dX9_deck_31 : decode cX9_deck 31 = .ok (.iconst 0, 1) := by decide +kernel
theorem dX9_deck_32 : decode cX9_deck 32 = .ok (.ior, 1) := by decide +kernel
theorem dX9_deck_33 : decode cX9_deck 33 = .ok (.istore_n 1, 1) := by decide +kernel
theorem dX9_deck_34 : decode cX9_deck 34 = .ok (.iinc 2 1, 3) := by decide +kernel
theorem dX9_deck_37 : decode cX9_deck 37 = .ok (.goto (-29), 3) := by decide +kernel
theorem dX9_deck_40 : decode cX9_deck 40 = .ok (.aload_n 0, 1) := by decide +kernel
theorem dX9_deck_41 : decode cX9_deck 41 = .ok (.getfield 28, 3) := by decide +kernel
theorem dX9_deck_44 : decode cX9_deck 44 = .ok (.iconst 0, 1) := by decide +kernel
theorem dX9_deck_45 : decode cX9_deck 45 = .ok (.iconst 0, 1) := by decide +kernel
theorem dX9_deck_46 : decode cX9_deck 46 = .ok (.iastore, 1) := by decide +kernel
theorem dX9_deck_47 : decode cX9_deck 47 = .ok (.iconst 1, 1) := by decide +kernel
theorem dX9_deck_48 : decode cX9_deck 48 = .ok (.istore_n 2, 1) := by decide +kernel
theorem dX9_deck_49 : decode cX9_deck 49 = .ok (.iload_n 2, 1) := by decide +kernel
theorem dX9_deck_50 : decode cX9_deck 50 = .ok (.sipush 1024, 3) := by decide +kernel
theorem dX9_deck_53 : decode cX9_deck 53 = .ok (.if_icmp .ge 93, 3) := by decide +kernel
theorem dX9_deck_56 : decode cX9_deck 56 = .ok (.ldc 119, 2) := by decide +kernel
theorem dX9_deck_58 : decode cX9_deck 58 = .ok (.istore_n 3, 1) := by decide +kernel
theorem dX9_deck_59 : decode cX9_deck 59 = .ok (.iload_n 2, 1) := by decide +kernel
theorem dX9_deck_60 : decode cX9_deck 60 = .ok (.iload_n 2, 1) := by decide +kernel
theorem dX9_deck_61 : decode cX9_deck 61 = .ok (.ineg, 1) := by decide +kernel
theorem dX9_deck_62 : decode cX9_deck 62 = .ok (.iand, 1) := by decide +kernel
theorem dX9_deck_63 : decode cX9_deck 63 = .ok (.istore 4, 2) := by decide +kernel
theorem dX9_deck_65 : decode cX9_deck 65 = .ok (.iload_n 2, 1) := by decide +kernel
theorem dX9_deck_66 : decode cX9_deck 66 = .ok (.istore 5, 2) := by decide +kernel
theorem dX9_deck_68 : decode cX9_deck 68 = .ok (.iload 5, 2) := by decide +kernel
theorem dX9_deck_70 : decode cX9_deck 70 = .ok (.ifCond .le 63, 3) := by decide +kernel
theorem dX9_deck_73 : decode cX9_deck 73 = .ok (.iload 5, 2) := by decide +kernel
theorem dX9_deck_75 : decode cX9_deck 75 = .ok (.iload 4, 2) := by decide +kernel
theorem dX9_deck_77 : decode cX9_deck 77 = .ok (.iand, 1) := by decide +kernel
theorem dX9_deck_78 : decode cX9_deck 78 = .ok (.ifCond .eq 44, 3) := by decide +kernel
theorem dX9_deck_81 : decode cX9_deck 81 = .ok (.aload_n 0, 1) := by decide +kernel
theorem dX9_deck_82 : decode cX9_deck 82 = .ok (.getfield 25, 3) := by decide +kernel
theorem dX9_deck_85 : decode cX9_deck 85 = .ok (.iload 5, 2) := by decide +kernel
theorem dX9_deck_87 : decode cX9_deck 87 = .ok (.iaload, 1) := by decide +kernel
theorem dX9_deck_88 : decode cX9_deck 88 = .ok (.ifCond .eq 34, 3) := by decide +kernel
theorem dX9_deck_91 : decode cX9_deck 91 = .ok (.aload_n 0, 1) := by decide +kernel
theorem dX9_deck_92 : decode cX9_deck 92 = .ok (.getfield 28, 3) := by decide +kernel
theorem dX9_deck_95 : decode cX9_deck 95 = .ok (.iload_n 2, 1) := by decide +kernel
theorem dX9_deck_96 : decode cX9_deck 96 = .ok (.iload 5, 2) := by decide +kernel
theorem dX9_deck_98 : decode cX9_deck 98 = .ok (.iconst (-1), 1) := by decide +kernel
theorem dX9_deck_99 : decode cX9_deck 99 = .ok (.ixor, 1) := by decide +kernel
theorem dX9_deck_100 : decode cX9_deck 100 = .ok (.iand, 1) := by decide +kernel
theorem dX9_deck_101 : decode cX9_deck 101 = .ok (.iaload, 1) := by decide +kernel
theorem dX9_deck_102 : decode cX9_deck 102 = .ok (.iconst 1, 1) := by decide +kernel
theorem dX9_deck_103 : decode cX9_deck 103 = .ok (.iadd, 1) := by decide +kernel
theorem dX9_deck_104 : decode cX9_deck 104 = .ok (.iload_n 3, 1) := by decide +kernel
theorem dX9_deck_105 : decode cX9_deck 105 = .ok (.if_icmp .ge 17, 3) := by decide +kernel
theorem dX9_deck_108 : decode cX9_deck 108 = .ok (.aload_n 0, 1) := by decide +kernel
theorem dX9_deck_109 : decode cX9_deck 109 = .ok (.getfield 28, 3) := by decide +kernel
theorem dX9_deck_112 : decode cX9_deck 112 = .ok (.iload_n 2, 1) := by decide +kernel
theorem dX9_deck_113 : decode cX9_deck 113 = .ok (.iload 5, 2) := by decide +kernel
theorem dX9_deck_115 : decode cX9_deck 115 = .ok (.iconst (-1), 1) := by decide +kernel
theorem dX9_deck_116 : decode cX9_deck 116 = .ok (.ixor, 1) := by decide +kernel
theorem dX9_deck_117 : decode cX9_deck 117 = .ok (.iand, 1) := by decide +kernel
theorem dX9_deck_118 : decode cX9_deck 118 = .ok (.iaload, 1) := by decide +kernel
theorem dX9_deck_119 : decode cX9_deck 119 = .ok (.iconst 1, 1) := by decide +kernel
theorem dX9_deck_120 : decode cX9_deck 120 = .ok (.iadd, 1) := by decide +kernel
theorem dX9_deck_121 : decode cX9_deck 121 = .ok (.istore_n 3, 1) := by decide +kernel
theorem dX9_deck_122 : decode cX9_deck 122 = .ok (.iload 5, 2) := by decide +kernel
theorem dX9_deck_124 : decode cX9_deck 124 = .ok (.iconst 1, 1) := by decide +kernel
theorem dX9_deck_125 : decode cX9_deck 125 = .ok (.isub, 1) := by decide +kernel
theorem dX9_deck_126 : decode cX9_deck 126 = .ok (.iload_n 2, 1) := by decide +kernel
theorem dX9_deck_127 : decode cX9_deck 127 = .ok (.iand, 1) := by decide +kernel
theorem dX9_deck_128 : decode cX9_deck 128 = .ok (.istore 5, 2) := by decide +kernel
theorem dX9_deck_130 : decode cX9_deck 130 = .ok (.goto (-62), 3) := by decide +kernel
theorem dX9_deck_133 : decode cX9_deck 133 = .ok (.aload_n 0, 1) := by decide +kernel
theorem dX9_deck_134 : decode cX9_deck 134 = .ok (.getfield 28, 3) := by decide +kernel
theorem dX9_deck_137 : decode cX9_deck 137 = .ok (.iload_n 2, 1) := by decide +kernel
theorem dX9_deck_138 : decode cX9_deck 138 = .ok (.iload_n 3, 1) := by decide +kernel
theorem dX9_deck_139 : decode cX9_deck 139 = .ok (.iastore, 1) := by decide +kernel
theorem dX9_deck_140 : decode cX9_deck 140 = .ok (.iinc 2 1, 3) := by decide +kernel
theorem dX9_deck_143 : decode cX9_deck 143 = .ok (.goto (-94), 3) := by decide +kernel
theorem dX9_deck_146 : decode cX9_deck 146 = .ok (.aload_n 0, 1) := by decide +kernel
theorem dX9_deck_147 : decode cX9_deck 147 = .ok (.getfield 28, 3) := by decide +kernel
theorem dX9_deck_150 : decode cX9_deck 150 = .ok (.iload_n 1, 1) := by decide +kernel
theorem dX9_deck_151 : decode cX9_deck 151 = .ok (.iaload, 1) := by decide +kernel
theorem dX9_deck_152 : decode cX9_deck 152 = .ok (.ireturn, 1) := by decide +kernel
def wtX9_deck : List Cond := .code yX9_deck cX9_deck 6 (some .int) :: (([.fieldLink RX9 7 "DriftKinModel" "book" "[I", .fieldLink RX9 28 "DriftKinModel" "fewest" "[I", .constant RX9 119 (1000000), .fieldLink RX9 25 "DriftKinModel" "lasts" "[I"]) ++ ((u_ws RX9 TX9 15) ++ ((wsV RX9 116 RX9 yX9_layPlanks wtX9_layPlanks) ++ [])))
theorem imX9_deck_own : ∀ w ∈ ([.fieldLink RX9 7 "DriftKinModel" "book" "[I", .fieldLink RX9 28 "DriftKinModel" "fewest" "[I", .constant RX9 119 (1000000), .fieldLink RX9 25 "DriftKinModel" "lasts" "[I"] : List Cond), w ∈ wtX9_deck := fun w h => List.mem_cons_of_mem _ (inl h)
theorem imX9_deck_u_X9 : ∀ w ∈ (u_ws RX9 TX9 15 : List Cond), w ∈ wtX9_deck := fun w h => List.mem_cons_of_mem _ (inr (inl h))
theorem imX9_deck_c_X9_layPlanks : ∀ w ∈ (wsV RX9 116 RX9 yX9_layPlanks wtX9_layPlanks : List Cond), w ∈ wtX9_deck := fun w h => List.mem_cons_of_mem _ (inr (inr (inl h)))
theorem gdX9_deck : ∀ w ∈ wtX9_deck, Gd w := gdc rfl (gda (gdl (by decide +kernel)) (gda (gdu _ _ _) (gda (gda (gdl (by decide +kernel)) gdX9_layPlanks) gdn)))
theorem gcX9_deck_X9_layPlanks : GoodIn wtX9_deck (wsV RX9 116 RX9 yX9_layPlanks wtX9_layPlanks) := fun w h => ⟨imX9_deck_c_X9_layPlanks w h, (gda (gdl (by decide +kernel)) gdX9_layPlanks) w h⟩
def fX9_deck_122 (k49 : (Nat → Int32) → Int32 → Option (Int32 × (Nat → Int32) × (Nat → Int32))) (k68 : Int32 → Int32 → Option (Int32 × (Nat → Int32) × (Nat → Int32))) (v_lasts : Nat → Int32) (v_fewest : Nat → Int32) (x1 : Int32) (x2 : Int32) (x3 : Int32) (x4 : Int32) (x5 : Int32) : Option (Int32 × (Nat → Int32) × (Nat → Int32)) :=
  k68 x3 ((x5 - (1 : Int32)) &&& x2)
def fX9_deck_68 (k49 : (Nat → Int32) → Int32 → Option (Int32 × (Nat → Int32) × (Nat → Int32))) (v_lasts : Nat → Int32) (v_fewest : Nat → Int32) (x1 : Int32) (x2 : Int32) (x4 : Int32) : Nat → Int32 → Int32 → Option (Int32 × (Nat → Int32) × (Nat → Int32))
  | 0, _, _ => none
  | n + 1, x3, x5 =>
    if x5 ≤ (0 : Int32) then
      chk x2 1024 (
        k49 (wr v_fewest x2 x3) (x2 + (1 : Int32)))
    else
      if (x5 &&& x4) = (0 : Int32) then
        fX9_deck_122 k49 (fun y0 y1 => fX9_deck_68 k49 v_lasts v_fewest x1 x2 x4 n y0 y1) v_lasts v_fewest x1 x2 x3 x4 x5
      else
        chk x5 1024 (
          if (rd v_lasts x5) = (0 : Int32) then
            fX9_deck_122 k49 (fun y0 y1 => fX9_deck_68 k49 v_lasts v_fewest x1 x2 x4 n y0 y1) v_lasts v_fewest x1 x2 x3 x4 x5
          else
            chk (x2 &&& (x5 ^^^ (-1 : Int32))) 1024 (
              if x3 ≤ ((rd v_fewest (x2 &&& (x5 ^^^ (-1 : Int32)))) + (1 : Int32)) then
                fX9_deck_122 k49 (fun y0 y1 => fX9_deck_68 k49 v_lasts v_fewest x1 x2 x4 n y0 y1) v_lasts v_fewest x1 x2 x3 x4 x5
              else
                chk (x2 &&& (x5 ^^^ (-1 : Int32))) 1024 (
                  fX9_deck_122 k49 (fun y0 y1 => fX9_deck_68 k49 v_lasts v_fewest x1 x2 x4 n y0 y1) v_lasts v_fewest x1 x2 ((rd v_fewest (x2 &&& (x5 ^^^ (-1 : Int32)))) + (1 : Int32)) x4 x5)))
def fX9_deck_49 (v_lasts : Nat → Int32) (x1 : Int32) : Nat → (Nat → Int32) → Int32 → Option (Int32 × (Nat → Int32) × (Nat → Int32))
  | 0, _, _ => none
  | n + 1, v_fewest, x2 =>
    if (1024 : Int32) ≤ x2 then
      chk x1 1024 (
        some ((rd v_fewest x1), v_lasts, v_fewest))
    else
      fX9_deck_68 (fun y0 y1 => fX9_deck_49 v_lasts x1 n y0 y1) v_lasts v_fewest x1 x2 (x2 &&& (-x2)) 2000 (1000000 : Int32) x2
def fX9_deck_8 (v_book : Nat → Int32) (v_lasts : Nat → Int32) (v_fewest : Nat → Int32) : Nat → Int32 → Int32 → Option (Int32 × (Nat → Int32) × (Nat → Int32))
  | 0, _, _ => none
  | n + 1, x1, x2 =>
    if (10 : Int32) ≤ x2 then
      chk (0 : Int32) 1024 (
        fX9_deck_49 v_lasts x1 2000 (wr v_fewest (0 : Int32) (0 : Int32)) (1 : Int32))
    else
      chk x2 35 (
        if (rd v_book x2) = (3 : Int32) then
          fX9_deck_8 v_book v_lasts v_fewest n (x1 ||| (0 : Int32)) (x2 + (1 : Int32))
        else
          fX9_deck_8 v_book v_lasts v_fewest n (x1 ||| (jshl (1 : Int32) x2)) (x2 + (1 : Int32)))
def fX9_deck (v_book : Nat → Int32) (v_of : Nat → Int32) (v_lasts : Nat → Int32) (v_fewest : Nat → Int32) : Option (Int32 × (Nat → Int32) × (Nat → Int32)) :=
  (fX9_layPlanks v_book v_of v_lasts).bind (fun r1 =>
    fX9_deck_8 v_book r1 v_fewest 2000 (0 : Int32) (0 : Int32))
def wdX9_deck (cI cZ : ClassId) (q0 : Nat) (q1 : Nat) (q2 : Nat) (q3 : Nat) (q4 : Nat) (d5 : Nat) (d6 : Nat) (d7 : Nat) (d8 : Nat) (d9 : Nat) (d10 : Nat)  (v_book : Nat → Int32) (v_of : Nat → Int32) (v_lasts : Nat → Int32) (v_fewest : Nat → Int32) (v_sights : Int32) (v_signs : Int32) (v_weddings : Int32) (v_reason : Int32) (v_acts : Int32) : va_W := [(q0, .inr (9, [.ref q1, .ref d5, .ref q2, .int v_sights, .ref d6, .int v_signs, .ref d7, .int v_weddings, .int v_reason, .int v_acts, .ref q3, .ref q4, .ref d8, .ref d9, .ref d10])), (q1, .inl (cI, 35, .inl v_book)), (q2, .inl (cI, 60, .inl v_of)), (q3, .inl (cI, 1024, .inl v_lasts)), (q4, .inl (cI, 1024, .inl v_fewest))]
abbrev rmX9_deck : Jvm.Room := { frames := 2, cells := 0, slots := 0, locals := 48 }
theorem hyX9_deck : yX9_deck.cls ≠ "java/lang/invoke/MethodHandle" ∧ yX9_deck.cls ≠ "java/lang/invoke/VarHandle" ∧ (parseMethodDescriptor yX9_deck.desc).map (fun d => d.parameters.length) = some 0 := by decide +kernel
set_option maxHeartbeats 4000000 in
set_option maxRecDepth 100000 in
theorem mX9_deck (l : Launch) (D : va_G) (cI cZ : ClassId) (q0 : Nat) (q1 : Nat) (q2 : Nat) (q3 : Nat) (q4 : Nat) (d5 : Nat) (d6 : Nat) (d7 : Nat) (d8 : Nat) (d9 : Nat) (d10 : Nat) (v_book : Nat → Int32) (v_of : Nat → Int32) (v_lasts : Nat → Int32) (v_fewest : Nat → Int32) (v_sights : Int32) (v_signs : Int32) (v_weddings : Int32) (v_reason : Int32) (v_acts : Int32) (z : Int32 × (Nat → Int32) × (Nat → Int32)) (hF : fX9_deck v_book v_of v_lasts v_fewest = some z) : mp l yX9_deck wtX9_deck rmX9_deck D cI cZ [.ref q0] (wdX9_deck cI cZ q0 q1 q2 q3 q4 d5 d6 d7 d8 d9 d10 v_book v_of v_lasts v_fewest v_sights v_signs v_weddings v_reason v_acts) (some (.int z.1)) (wdX9_deck cI cZ q0 q1 q2 q3 q4 d5 d6 d7 d8 d9 d10 v_book v_of z.2.1 z.2.2 v_sights v_signs v_weddings v_reason v_acts) := by
  refine mp_i (lv0 := [(0, .ref q0)]) cX9_deck 6 z.1 (by decide) rfl (Nat.le_of_ble_eq_true rfl) rfl (fun E h hend0 => ?_)
  have hend : ∀ (z' : Int32 × (Nat → Int32) × (Nat → Int32)), some z' = some z → ∀ (pc : Nat) (lv : List (Nat × Value)), decode cX9_deck pc = .ok (.ireturn, 1) → G l D E 6 0 0 (wdX9_deck cI cZ q0 q1 q2 q3 q4 d5 d6 d7 d8 d9 d10 v_book v_of (z'.2.1) (z'.2.2) v_sights v_signs v_weddings v_reason v_acts) pc lv [.int z'.1] := fun z' e => by cases e; exact hend0
  clear hend0
  have hL49 : ∀ (n49 : Nat) (v_lasts : Nat → Int32) (v_fewest : Nat → Int32) (x1 : Int32) (x2 : Int32), fX9_deck_49 v_lasts x1 n49 v_fewest x2 = some z → G l D E 6 0 0 (wdX9_deck cI cZ q0 q1 q2 q3 q4 d5 d6 d7 d8 d9 d10 v_book v_of v_lasts v_fewest v_sights v_signs v_weddings v_reason v_acts) 49 [(0, .ref q0), (1, .int x1), (2, .int x2)] [] := by
    intro n49
    induction n49 with
    | zero =>
      intro v_lasts v_fewest x1 x2 hF
      rw [fX9_deck_49] at hF
      cases hF
    | succ n49 ih49 =>
      have hL68 : ∀ (n68 : Nat) (v_lasts : Nat → Int32) (v_fewest : Nat → Int32) (x1 : Int32) (x2 : Int32) (x3 : Int32) (x4 : Int32) (x5 : Int32), fX9_deck_68 (fun y0 y1 => fX9_deck_49 v_lasts x1 n49 y0 y1) v_lasts v_fewest x1 x2 x4 n68 x3 x5 = some z → G l D E 6 0 0 (wdX9_deck cI cZ q0 q1 q2 q3 q4 d5 d6 d7 d8 d9 d10 v_book v_of v_lasts v_fewest v_sights v_signs v_weddings v_reason v_acts) 68 [(0, .ref q0), (1, .int x1), (2, .int x2), (3, .int x3), (4, .int x4), (5, .int x5)] [] := by
        intro n68
        induction n68 with
        | zero =>
          intro v_lasts v_fewest x1 x2 x3 x4 x5 hF
          rw [fX9_deck_68] at hF
          cases hF
        | succ n68 ih68 =>
          have hL122 : ∀ (v_lasts : Nat → Int32) (v_fewest : Nat → Int32) (x1 : Int32) (x2 : Int32) (x3 : Int32) (x4 : Int32) (x5 : Int32), fX9_deck_122 (fun y0 y1 => fX9_deck_49 v_lasts x1 n49 y0 y1) (fun y0 y1 => fX9_deck_68 (fun y0 y1 => fX9_deck_49 v_lasts x1 n49 y0 y1) v_lasts v_fewest x1 x2 x4 n68 y0 y1) v_lasts v_fewest x1 x2 x3 x4 x5 = some z → G l D E 6 0 0 (wdX9_deck cI cZ q0 q1 q2 q3 q4 d5 d6 d7 d8 d9 d10 v_book v_of v_lasts v_fewest v_sights v_signs v_weddings v_reason v_acts) 122 [(0, .ref q0), (1, .int x1), (2, .int x2), (3, .int x3), (4, .int x4), (5, .int x5)] [] := by
            intro v_lasts v_fewest x1 x2 x3 x4 x5 hF
            rw [fX9_deck_122] at hF
            refine g_iload (np := 124) h 5 rfl dX9_deck_122 rfl ?_
            refine g_iconst (np := 125) (v := (1 : Int32)) h (by decide) dX9_deck_124 rfl ?_
            refine g_isub (np := 126) h dX9_deck_125 rfl ?_
            refine g_iload_n (np := 127) h 2 rfl rfl dX9_deck_126 rfl ?_
            refine g_iand (np := 128) h dX9_deck_127 rfl ?_
            refine g_istore (np := 130) (lv' := [(5, .int ((x5 - (1 : Int32)) &&& x2)), (0, .ref q0), (1, .int x1), (2, .int x2), (3, .int x3), (4, .int x4)]) h (by decide) rfl dX9_deck_128 rfl ?_
            refine g_goto h dX9_deck_130 (np := 68) rfl ?_
            refine g_lv [1, 2, 3, 4, 5, 0] rfl ?_
            exact ih68 v_lasts v_fewest x1 x2 x3 x4 ((x5 - (1 : Int32)) &&& x2) hF
          intro v_lasts v_fewest x1 x2 x3 x4 x5 hF
          rw [fX9_deck_68] at hF
          refine g_iload (np := 70) h 5 rfl dX9_deck_68 rfl ?_
          refine g_if_le h hF dX9_deck_70 (np := 73) rfl (tg := 133) rfl (fun c2001 hF => ?_) (fun c2001 hF => ?_)
          · refine g_aload_n (np := 134) h 0 rfl rfl dX9_deck_133 rfl ?_
            refine g_get (np := 137) (T := TX9) h imX9_deck_u_X9 0 9 rfl rfl 11 (by decide) (imX9_deck_own _ (List.mem_of_getElem? (i := 1) rfl)) rfl dX9_deck_134 rfl ?_
            refine g_iload_n (np := 138) h 2 rfl rfl dX9_deck_137 rfl ?_
            refine g_iload_n (np := 139) h 3 rfl rfl dX9_deck_138 rfl ?_
            refine g_iast (np := 140) (Wd' := (wdX9_deck cI cZ q0 q1 q2 q3 q4 d5 d6 d7 d8 d9 d10 v_book v_of v_lasts (wr v_fewest x2 x3) v_sights v_signs v_weddings v_reason v_acts)) h 4 rfl hF rfl dX9_deck_139 rfl (fun hi2002 hF => ?_)
            refine g_iinc (np := 143) (v := (x2 + (1 : Int32))) (lv' := [(2, .int (x2 + (1 : Int32))), (0, .ref q0), (1, .int x1), (3, .int x3), (4, .int x4), (5, .int x5)]) h 2 rfl rfl (by decide) rfl dX9_deck_140 rfl ?_
            refine g_goto h dX9_deck_143 (np := 49) rfl ?_
            refine g_lv [1, 2, 0] rfl ?_
            exact ih49 v_lasts (wr v_fewest x2 x3) x1 (x2 + (1 : Int32)) hF
          · refine g_iload (np := 75) h 5 rfl dX9_deck_73 rfl ?_
            refine g_iload (np := 77) h 4 rfl dX9_deck_75 rfl ?_
            refine g_iand (np := 78) h dX9_deck_77 rfl ?_
            refine g_if_eq h hF dX9_deck_78 (np := 81) rfl (tg := 122) rfl (fun c2003 hF => ?_) (fun c2003 hF => ?_)
            · exact hL122 v_lasts v_fewest x1 x2 x3 x4 x5 hF
            · refine g_aload_n (np := 82) h 0 rfl rfl dX9_deck_81 rfl ?_
              refine g_get (np := 85) (T := TX9) h imX9_deck_u_X9 0 9 rfl rfl 10 (by decide) (imX9_deck_own _ (List.mem_of_getElem? (i := 3) rfl)) rfl dX9_deck_82 rfl ?_
              refine g_iload (np := 87) h 5 rfl dX9_deck_85 rfl ?_
              refine g_iald (np := 88) h 3 rfl hF dX9_deck_87 rfl (fun hi2004 hF => ?_)
              refine g_if_eq h hF dX9_deck_88 (np := 91) rfl (tg := 122) rfl (fun c2005 hF => ?_) (fun c2005 hF => ?_)
              · exact hL122 v_lasts v_fewest x1 x2 x3 x4 x5 hF
              · refine g_aload_n (np := 92) h 0 rfl rfl dX9_deck_91 rfl ?_
                refine g_get (np := 95) (T := TX9) h imX9_deck_u_X9 0 9 rfl rfl 11 (by decide) (imX9_deck_own _ (List.mem_of_getElem? (i := 1) rfl)) rfl dX9_deck_92 rfl ?_
                refine g_iload_n (np := 96) h 2 rfl rfl dX9_deck_95 rfl ?_
                refine g_iload (np := 98) h 5 rfl dX9_deck_96 rfl ?_
                refine g_iconst (np := 99) (v := (-1 : Int32)) h (by decide) dX9_deck_98 rfl ?_
                refine g_ixor (np := 100) h dX9_deck_99 rfl ?_
                refine g_iand (np := 101) h dX9_deck_100 rfl ?_
                refine g_iald (np := 102) h 4 rfl hF dX9_deck_101 rfl (fun hi2006 hF => ?_)
                refine g_iconst (np := 103) (v := (1 : Int32)) h (by decide) dX9_deck_102 rfl ?_
                refine g_iadd (np := 104) h dX9_deck_103 rfl ?_
                refine g_iload_n (np := 105) h 3 rfl rfl dX9_deck_104 rfl ?_
                refine g_icmp_ge h hF dX9_deck_105 (np := 108) rfl (tg := 122) rfl (fun c2007 hF => ?_) (fun c2007 hF => ?_)
                · exact hL122 v_lasts v_fewest x1 x2 x3 x4 x5 hF
                · refine g_aload_n (np := 109) h 0 rfl rfl dX9_deck_108 rfl ?_
                  refine g_get (np := 112) (T := TX9) h imX9_deck_u_X9 0 9 rfl rfl 11 (by decide) (imX9_deck_own _ (List.mem_of_getElem? (i := 1) rfl)) rfl dX9_deck_109 rfl ?_
                  refine g_iload_n (np := 113) h 2 rfl rfl dX9_deck_112 rfl ?_
                  refine g_iload (np := 115) h 5 rfl dX9_deck_113 rfl ?_
                  refine g_iconst (np := 116) (v := (-1 : Int32)) h (by decide) dX9_deck_115 rfl ?_
                  refine g_ixor (np := 117) h dX9_deck_116 rfl ?_
                  refine g_iand (np := 118) h dX9_deck_117 rfl ?_
                  refine g_iald (np := 119) h 4 rfl hF dX9_deck_118 rfl (fun hi2008 hF => ?_)
                  refine g_iconst (np := 120) (v := (1 : Int32)) h (by decide) dX9_deck_119 rfl ?_
                  refine g_iadd (np := 121) h dX9_deck_120 rfl ?_
                  refine g_istore_n (np := 122) (lv' := [(3, .int ((rd v_fewest (x2 &&& (x5 ^^^ (-1 : Int32)))) + (1 : Int32))), (0, .ref q0), (1, .int x1), (2, .int x2), (4, .int x4), (5, .int x5)]) h rfl (by decide) rfl dX9_deck_121 rfl ?_
                  refine g_lv [1, 2, 3, 0, 4, 5] rfl ?_
                  exact hL122 v_lasts v_fewest x1 x2 ((rd v_fewest (x2 &&& (x5 ^^^ (-1 : Int32)))) + (1 : Int32)) x4 x5 hF
      intro v_lasts v_fewest x1 x2 hF
      rw [fX9_deck_49] at hF
      refine g_iload_n (np := 50) h 2 rfl rfl dX9_deck_49 rfl ?_
      refine g_sipush (np := 53) (v := (1024 : Int32)) h (by decide) dX9_deck_50 rfl ?_
      refine g_icmp_ge h hF dX9_deck_53 (np := 56) rfl (tg := 146) rfl (fun c3001 hF => ?_) (fun c3001 hF => ?_)
      · refine g_aload_n (np := 147) h 0 rfl rfl dX9_deck_146 rfl ?_
        refine g_get (np := 150) (T := TX9) h imX9_deck_u_X9 0 9 rfl rfl 11 (by decide) (imX9_deck_own _ (List.mem_of_getElem? (i := 1) rfl)) rfl dX9_deck_147 rfl ?_
        refine g_iload_n (np := 151) h 1 rfl rfl dX9_deck_150 rfl ?_
        refine g_iald (np := 152) h 4 rfl hF dX9_deck_151 rfl (fun hi3002 hF => ?_)
        exact hend _ hF _ _ dX9_deck_152
      · refine g_ldc (np := 58) (v := (1000000 : Int32)) h (imX9_deck_own _ (List.mem_of_getElem? (i := 2) rfl)) dX9_deck_56 rfl ?_
        refine g_istore_n (np := 59) (lv' := [(3, .int (1000000 : Int32)), (0, .ref q0), (1, .int x1), (2, .int x2)]) h rfl (by decide) rfl dX9_deck_58 rfl ?_
        refine g_iload_n (np := 60) h 3 rfl rfl dX9_deck_59 rfl ?_
        refine g_iload_n (np := 61) h 3 rfl rfl dX9_deck_60 rfl ?_
        refine g_ineg (np := 62) h dX9_deck_61 rfl ?_
        refine g_iand (np := 63) h dX9_deck_62 rfl ?_
        refine g_istore (np := 65) (lv' := [(4, .int (x2 &&& (-x2))), (3, .int (1000000 : Int32)), (0, .ref q0), (1, .int x1), (2, .int x2)]) h (by decide) rfl dX9_deck_63 rfl ?_
        refine g_iload_n (np := 66) h 4 rfl rfl dX9_deck_65 rfl ?_
        refine g_istore (np := 68) (lv' := [(5, .int x2), (4, .int (x2 &&& (-x2))), (3, .int (1000000 : Int32)), (0, .ref q0), (1, .int x1), (2, .int x2)]) h (by decide) rfl dX9_deck_66 rfl ?_
        refine g_lv [3, 4, 5, 2, 1, 0] rfl ?_
        exact hL68 _ v_lasts v_fewest x1 x2 (1000000 : Int32) (x2 &&& (-x2)) x2 hF
  have hL8 : ∀ (n8 : Nat) (v_lasts : Nat → Int32) (v_fewest : Nat → Int32) (x1 : Int32) (x2 : Int32), fX9_deck_8 v_book v_lasts v_fewest n8 x1 x2 = some z → G l D E 6 0 0 (wdX9_deck cI cZ q0 q1 q2 q3 q4 d5 d6 d7 d8 d9 d10 v_book v_of v_lasts v_fewest v_sights v_signs v_weddings v_reason v_acts) 8 [(0, .ref q0), (1, .int x1), (2, .int x2)] [] := by
    intro n8
    induction n8 with
    | zero =>
      intro v_lasts v_fewest x1 x2 hF
      rw [fX9_deck_8] at hF
      cases hF
    | succ n8 ih8 =>
      intro v_lasts v_fewest x1 x2 hF
      rw [fX9_deck_8] at hF
      refine g_iload_n (np := 9) h 2 rfl rfl dX9_deck_8 rfl ?_
      refine g_bipush (np := 11) (v := (10 : Int32)) h (by decide) dX9_deck_9 rfl ?_
      refine g_icmp_ge h hF dX9_deck_11 (np := 14) rfl (tg := 40) rfl (fun c4001 hF => ?_) (fun c4001 hF => ?_)
      · refine g_aload_n (np := 41) h 0 rfl rfl dX9_deck_40 rfl ?_
        refine g_get (np := 44) (T := TX9) h imX9_deck_u_X9 0 9 rfl rfl 11 (by decide) (imX9_deck_own _ (List.mem_of_getElem? (i := 1) rfl)) rfl dX9_deck_41 rfl ?_
        refine g_iconst (np := 45) (v := (0 : Int32)) h (by decide) dX9_deck_44 rfl ?_
        refine g_iconst (np := 46) (v := (0 : Int32)) h (by decide) dX9_deck_45 rfl ?_
        refine g_iast (np := 47) (Wd' := (wdX9_deck cI cZ q0 q1 q2 q3 q4 d5 d6 d7 d8 d9 d10 v_book v_of v_lasts (wr v_fewest (0 : Int32) (0 : Int32)) v_sights v_signs v_weddings v_reason v_acts)) h 4 rfl hF rfl dX9_deck_46 rfl (fun hi4002 hF => ?_)
        refine g_iconst (np := 48) (v := (1 : Int32)) h (by decide) dX9_deck_47 rfl ?_
        refine g_istore_n (np := 49) (lv' := [(2, .int (1 : Int32)), (0, .ref q0), (1, .int x1)]) h rfl (by decide) rfl dX9_deck_48 rfl ?_
        refine g_lv [1, 2, 0] rfl ?_
        exact hL49 _ v_lasts (wr v_fewest (0 : Int32) (0 : Int32)) x1 (1 : Int32) hF
      · refine g_iload_n (np := 15) h 1 rfl rfl dX9_deck_14 rfl ?_
        refine g_aload_n (np := 16) h 0 rfl rfl dX9_deck_15 rfl ?_
        refine g_get (np := 19) (T := TX9) h imX9_deck_u_X9 0 9 rfl rfl 0 (by decide) (imX9_deck_own _ (List.mem_of_getElem? (i := 0) rfl)) rfl dX9_deck_16 rfl ?_
        refine g_iload_n (np := 20) h 2 rfl rfl dX9_deck_19 rfl ?_
        refine g_iald (np := 21) h 1 rfl hF dX9_deck_20 rfl (fun hi4003 hF => ?_)
        refine g_iconst (np := 22) (v := (3 : Int32)) h (by decide) dX9_deck_21 rfl ?_
        refine g_icmp_eq h hF dX9_deck_22 (np := 25) rfl (tg := 31) rfl (fun c4004 hF => ?_) (fun c4004 hF => ?_)
        · refine g_iconst (np := 32) (v := (0 : Int32)) h (by decide) dX9_deck_31 rfl ?_
          refine g_ior (np := 33) h dX9_deck_32 rfl ?_
          refine g_istore_n (np := 34) (lv' := [(1, .int (x1 ||| (0 : Int32))), (0, .ref q0), (2, .int x2)]) h rfl (by decide) rfl dX9_deck_33 rfl ?_
          refine g_iinc (np := 37) (v := (x2 + (1 : Int32))) (lv' := [(2, .int (x2 + (1 : Int32))), (1, .int (x1 ||| (0 : Int32))), (0, .ref q0)]) h 2 rfl rfl (by decide) rfl dX9_deck_34 rfl ?_
          refine g_goto h dX9_deck_37 (np := 8) rfl ?_
          refine g_lv [2, 1, 0] rfl ?_
          exact ih8 v_lasts v_fewest (x1 ||| (0 : Int32)) (x2 + (1 : Int32)) hF
        · refine g_iconst (np := 26) (v := (1 : Int32)) h (by decide) dX9_deck_25 rfl ?_
          refine g_iload_n (np := 27) h 2 rfl rfl dX9_deck_26 rfl ?_
          refine g_ishl (np := 28) h dX9_deck_27 rfl ?_
          refine g_goto h dX9_deck_28 (np := 32) rfl ?_
          refine g_ior (np := 33) h dX9_deck_32 rfl ?_
          refine g_istore_n (np := 34) (lv' := [(1, .int (x1 ||| (jshl (1 : Int32) x2))), (0, .ref q0), (2, .int x2)]) h rfl (by decide) rfl dX9_deck_33 rfl ?_
          refine g_iinc (np := 37) (v := (x2 + (1 : Int32))) (lv' := [(2, .int (x2 + (1 : Int32))), (1, .int (x1 ||| (jshl (1 : Int32) x2))), (0, .ref q0)]) h 2 rfl rfl (by decide) rfl dX9_deck_34 rfl ?_
          refine g_goto h dX9_deck_37 (np := 8) rfl ?_
          refine g_lv [2, 1, 0] rfl ?_
          exact ih8 v_lasts v_fewest (x1 ||| (jshl (1 : Int32) x2)) (x2 + (1 : Int32)) hF
  unfold fX9_deck at hF
  refine g_aload_n (np := 1) h 0 rfl rfl dX9_deck_0 rfl ?_
  obtain ⟨r1, hr1, hF⟩ := Option.bind_eq_some_iff.mp hF
  refine g_callV (np := 4) (Wd' := (wdX9_deck cI cZ q0 q1 q2 q3 q4 d5 d6 d7 d8 d9 d10 v_book v_of r1 v_fewest v_sights v_signs v_weddings v_reason v_acts)) (As := []) h (mX9_layPlanks l D cI cZ q0 q1 q2 q3 d5 d6 d7 q4 d8 d9 d10 v_book v_of v_lasts v_sights v_signs v_weddings v_reason v_acts r1 hr1) gcX9_deck_X9_layPlanks rfl ⟨rfl, rfl⟩ ⟨rfl, hyX9_layPlanks⟩ rfl 9 0 rfl rfl rfl rfl rfl rfl ⟨Nat.zero_le _, Nat.zero_le _⟩ [0, 1, 2, 3] [4] (N := 5) (by decide +kernel) rfl rfl rfl rfl rfl dX9_deck_1 rfl ?_
  refine g_iconst (np := 5) (v := (0 : Int32)) h (by decide) dX9_deck_4 rfl ?_
  refine g_istore_n (np := 6) (lv' := [(1, .int (0 : Int32)), (0, .ref q0)]) h rfl (by decide) rfl dX9_deck_5 rfl ?_
  refine g_iconst (np := 7) (v := (0 : Int32)) h (by decide) dX9_deck_6 rfl ?_
  refine g_istore_n (np := 8) (lv' := [(2, .int (0 : Int32)), (1, .int (0 : Int32)), (0, .ref q0)]) h rfl (by decide) rfl dX9_deck_7 rfl ?_
  refine g_lv [2, 1, 0] rfl ?_
  exact hL8 _ r1 v_fewest (0 : Int32) (0 : Int32) hF
theorem dX9_digit_0 : decode cX9_digit 0 = .ok (.iload_n 0, 1) := by decide +kernel
theorem dX9_digit_1 : decode cX9_digit 1 = .ok (.istore_n 2, 1) := by decide +kernel
theorem dX9_digit_2 : decode cX9_digit 2 = .ok (.bipush 7, 2) := by decide +kernel
theorem dX9_digit_4 : decode cX9_digit 4 = .ok (.istore_n 3, 1) := by decide +kernel
theorem dX9_digit_5 : decode cX9_digit 5 = .ok (.iload_n 3, 1) := by decide +kernel
theorem dX9_digit_6 : decode cX9_digit 6 = .ok (.iload_n 1, 1) := by decide +kernel
theorem dX9_digit_7 : decode cX9_digit 7 = .ok (.if_icmp .le 14, 3) := by decide +kernel
theorem dX9_digit_10 : decode cX9_digit 10 = .ok (.iload_n 2, 1) := by decide +kernel
theorem dX9_digit_11 : decode cX9_digit 11 = .ok (.bipush 10, 2) := by decide +kernel
theorem dX9_digit_13 : decode cX9_digit 13 = .ok (.idiv, 1) := by decide +kernel
theorem dX9_digit_14 : decode cX9_digit 14 = .ok (.istore_n 2, 1) := by decide +kernel
theorem dX9_digit_15 : decode cX9_digit 15 = .ok (.iinc 3 (-1), 3) := by decide +kernel
theorem dX9_digit_18 : decode cX9_digit 18 = .ok (.goto (-13), 3) := by decide +kernel
theorem dX9_digit_21 : decode cX9_digit 21 = .ok (.iload_n 2, 1) := by decide +kernel
theorem dX9_digit_22 : decode cX9_digit 22 = .ok (.bipush 10, 2) := by decide +kernel
theorem dX9_digit_24 : decode cX9_digit 24 = .ok (.irem, 1) := by decide +kernel
theorem dX9_digit_25 : decode cX9_digit 25 = .ok (.ireturn, 1) := by decide +kernel
def wtX9_digit : List Cond := .code yX9_digit cX9_digit 4 (some .int) :: (([]) ++ [])
theorem imX9_digit_own : ∀ w ∈ ([] : List Cond), w ∈ wtX9_digit := fun w h => List.mem_cons_of_mem _ (inl h)
theorem gdX9_digit : ∀ w ∈ wtX9_digit, Gd w := gdc rfl (gda (gdl (by decide +kernel)) gdn)
def fX9_digit_5 (x1 : Int32) : Nat → Int32 → Int32 → Option (Int32)
  | 0, _, _ => none
  | n + 1, x2, x3 =>
    if x3 ≤ x1 then
      some (jrem x2 (10 : Int32))
    else
      fX9_digit_5 x1 n (x2 / (10 : Int32)) (x3 + (-1 : Int32))
def fX9_digit (x0 : Int32) (x1 : Int32) : Option (Int32) :=
  fX9_digit_5 x1 2000 x0 (7 : Int32)
def wdX9_digit (cI cZ : ClassId)    : va_W := []
abbrev rmX9_digit : Jvm.Room := { frames := 0, cells := 0, slots := 0, locals := 0 }
theorem hyX9_digit : yX9_digit.cls ≠ "java/lang/invoke/MethodHandle" ∧ yX9_digit.cls ≠ "java/lang/invoke/VarHandle" ∧ (parseMethodDescriptor yX9_digit.desc).map (fun d => d.parameters.length) = some 2 := by decide +kernel
set_option maxHeartbeats 4000000 in
set_option maxRecDepth 100000 in
theorem mX9_digit (l : Launch) (D : va_G) (cI cZ : ClassId) (x0 : Int32) (x1 : Int32) (z : Int32) (hF : fX9_digit x0 x1 = some z) : mp l yX9_digit wtX9_digit rmX9_digit D cI cZ [.int x0, .int x1] (wdX9_digit cI cZ ) (some (.int z)) (wdX9_digit cI cZ ) := by
  refine mp_i (lv0 := [(0, .int x0), (1, .int x1)]) cX9_digit 4 z (by decide) rfl (Nat.le_of_ble_eq_true rfl) rfl (fun E h hend0 => ?_)
  have hend : ∀ (z' : Int32), some z' = some z → ∀ (pc : Nat) (lv : List (Nat × Value)), decode cX9_digit pc = .ok (.ireturn, 1) → G l D E 4 0 0 (wdX9_digit cI cZ ) pc lv [.int z'] := fun z' e => by cases e; exact hend0
  clear hend0
  have hL5 : ∀ (n5 : Nat) (x2 : Int32) (x3 : Int32), fX9_digit_5 x1 n5 x2 x3 = some z → G l D E 4 0 0 (wdX9_digit cI cZ ) 5 [(1, .int x1), (2, .int x2), (3, .int x3)] [] := by
    intro n5
    induction n5 with
    | zero =>
      intro x2 x3 hF
      rw [fX9_digit_5] at hF
      cases hF
    | succ n5 ih5 =>
      intro x2 x3 hF
      rw [fX9_digit_5] at hF
      refine g_iload_n (np := 6) h 2 rfl rfl dX9_digit_5 rfl ?_
      refine g_iload_n (np := 7) h 0 rfl rfl dX9_digit_6 rfl ?_
      refine g_icmp_le h hF dX9_digit_7 (np := 10) rfl (tg := 21) rfl (fun c1001 hF => ?_) (fun c1001 hF => ?_)
      · refine g_iload_n (np := 22) h 1 rfl rfl dX9_digit_21 rfl ?_
        refine g_bipush (np := 24) (v := (10 : Int32)) h (by decide) dX9_digit_22 rfl ?_
        refine g_irem (np := 25) h (by decide) dX9_digit_24 rfl ?_
        exact hend _ hF _ _ dX9_digit_25
      · refine g_iload_n (np := 11) h 1 rfl rfl dX9_digit_10 rfl ?_
        refine g_bipush (np := 13) (v := (10 : Int32)) h (by decide) dX9_digit_11 rfl ?_
        refine g_idiv (np := 14) h (by decide) dX9_digit_13 rfl ?_
        refine g_istore_n (np := 15) (lv' := [(2, .int (x2 / (10 : Int32))), (1, .int x1), (3, .int x3)]) h rfl (by decide) rfl dX9_digit_14 rfl ?_
        refine g_iinc (np := 18) (v := (x3 + (-1 : Int32))) (lv' := [(3, .int (x3 + (-1 : Int32))), (2, .int (x2 / (10 : Int32))), (1, .int x1)]) h 2 rfl (congrArg (fun w => x3 + w) (show Int32.ofInt (-1) = (-1 : Int32) by decide)) (by decide) rfl dX9_digit_15 rfl ?_
        refine g_goto h dX9_digit_18 (np := 5) rfl ?_
        refine g_lv [2, 1, 0] rfl ?_
        exact ih5 (x2 / (10 : Int32)) (x3 + (-1 : Int32)) hF
  unfold fX9_digit at hF
  refine g_iload_n (np := 1) h 0 rfl rfl dX9_digit_0 rfl ?_
  refine g_istore_n (np := 2) (lv' := [(2, .int x0), (0, .int x0), (1, .int x1)]) h rfl (by decide) rfl dX9_digit_1 rfl ?_
  refine g_bipush (np := 4) (v := (7 : Int32)) h (by decide) dX9_digit_2 rfl ?_
  refine g_istore_n (np := 5) (lv' := [(3, .int (7 : Int32)), (2, .int x0), (0, .int x0), (1, .int x1)]) h rfl (by decide) rfl dX9_digit_4 rfl ?_
  refine g_lv [3, 1, 0] rfl ?_
  exact hL5 _ x0 (7 : Int32) hF
theorem dX9_sameBy_0 : decode cX9_sameBy 0 = .ok (.iconst 0, 1) := by decide +kernel
theorem dX9_sameBy_1 : decode cX9_sameBy 1 = .ok (.istore 4, 2) := by decide +kernel
theorem dX9_sameBy_3 : decode cX9_sameBy 3 = .ok (.iconst 0, 1) := by decide +kernel
theorem dX9_sameBy_4 : decode cX9_sameBy 4 = .ok (.istore 5, 2) := by decide +kernel
theorem dX9_sameBy_6 : decode cX9_sameBy 6 = .ok (.iload 5, 2) := by decide +kernel
theorem dX9_sameBy_8 : decode cX9_sameBy 8 = .ok (.bipush 8, 2) := by decide +kernel
theorem dX9_sameBy_10 : decode cX9_sameBy 10 = .ok (.if_icmp .ge 65, 3) := by decide +kernel
theorem dX9_sameBy_13 : decode cX9_sameBy 13 = .ok (.iload 4, 2) := by decide +kernel
theorem dX9_sameBy_15 : decode cX9_sameBy 15 = .ok (.iload 5, 2) := by decide +kernel
theorem dX9_sameBy_17 : decode cX9_sameBy 17 = .ok (.iload_n 3, 1) := by decide +kernel
theorem dX9_sameBy_18 : decode cX9_sameBy 18 = .ok (.isub, 1) := by decide +kernel
theorem dX9_sameBy_19 : decode cX9_sameBy 19 = .ok (.iconst 0, 1) := by decide +kernel
theorem dX9_sameBy_20 : decode cX9_sameBy 20 = .ok (.bipush 7, 2) := by decide +kernel
theorem dX9_sameBy_22 : decode cX9_sameBy 22 = .ok (.invokestatic 41, 3) := by decide +kernel
theorem dX9_sameBy_25 : decode cX9_sameBy 25 = .ok (.ifCond .eq 40, 3) := by decide +kernel
theorem dX9_sameBy_28 : decode cX9_sameBy 28 = .ok (.aload_n 0, 1) := by decide +kernel
theorem dX9_sameBy_29 : decode cX9_sameBy 29 = .ok (.getfield 16, 3) := by decide +kernel
theorem dX9_sameBy_32 : decode cX9_sameBy 32 = .ok (.bipush 50, 2) := by decide +kernel
theorem dX9_sameBy_34 : decode cX9_sameBy 34 = .ok (.iload_n 1, 1) := by decide +kernel
theorem dX9_sameBy_35 : decode cX9_sameBy 35 = .ok (.iadd, 1) := by decide +kernel
theorem dX9_sameBy_36 : decode cX9_sameBy 36 = .ok (.iaload, 1) := by decide +kernel
theorem dX9_sameBy_37 : decode cX9_sameBy 37 = .ok (.iload 5, 2) := by decide +kernel
theorem dX9_sameBy_39 : decode cX9_sameBy 39 = .ok (.invokestatic 120, 3) := by decide +kernel
theorem dX9_sameBy_42 : decode cX9_sameBy 42 = .ok (.aload_n 0, 1) := by decide +kernel
theorem dX9_sameBy_43 : decode cX9_sameBy 43 = .ok (.getfield 16, 3) := by decide +kernel
theorem dX9_sameBy_46 : decode cX9_sameBy 46 = .ok (.bipush 50, 2) := by decide +kernel
theorem dX9_sameBy_48 : decode cX9_sameBy 48 = .ok (.iload_n 2, 1) := by decide +kernel
theorem dX9_sameBy_49 : decode cX9_sameBy 49 = .ok (.iadd, 1) := by decide +kernel
theorem dX9_sameBy_50 : decode cX9_sameBy 50 = .ok (.iaload, 1) := by decide +kernel
theorem dX9_sameBy_51 : decode cX9_sameBy 51 = .ok (.iload 5, 2) := by decide +kernel
theorem dX9_sameBy_53 : decode cX9_sameBy 53 = .ok (.iload_n 3, 1) := by decide +kernel
theorem dX9_sameBy_54 : decode cX9_sameBy 54 = .ok (.isub, 1) := by decide +kernel
theorem dX9_sameBy_55 : decode cX9_sameBy 55 = .ok (.invokestatic 120, 3) := by decide +kernel
theorem dX9_sameBy_58 : decode cX9_sameBy 58 = .ok (.if_icmp .ne 7, 3) := by decide +kernel
theorem dX9_sameBy_61 : decode cX9_sameBy 61 = .ok (.iconst 1, 1) := by decide +kernel
theorem dX9_sameBy_62 : decode cX9_sameBy 62 = .ok (.goto 4, 3) := by decide +kernel
theorem dX9_sameBy_65 : decode cX9_sameBy 65 = .ok (.iconst 0, 1) := by decide +kernel
theorem dX9_sameBy_66 : decode cX9_sameBy 66 = .ok (.iadd, 1) := by decide +kernel
theorem dX9_sameBy_67 : decode cX9_sameBy 67 = .ok (.istore 4, 2) := by decide +kernel
theorem dX9_sameBy_69 : decode cX9_sameBy 69 = .ok (.iinc 5 1, 3) := by decide +kernel
theorem dX9_sameBy_72 : decode cX9_sameBy 72 = .ok (.goto (-66), 3) := by decide +kernel
theorem dX9_sameBy_75 : decode cX9_sameBy 75 = .ok (.iload 4, 2) := by decide +kernel
theorem dX9_sameBy_77 : decode cX9_sameBy 77 = .ok (.ireturn, 1) := by decide +kernel
def wtX9_sameBy : List Cond := .code yX9_sameBy cX9_sameBy 6 (some .int) :: (([.fieldLink RX9 16 "DriftKinModel" "of" "[I"]) ++ ((u_ws RX9 TX9 15) ++ ((va_wsS RX9 41 yX9_in wtX9_in) ++ ((va_wsS RX9 120 yX9_digit wtX9_digit) ++ []))))
theorem imX9_sameBy_own : ∀ w ∈ ([.fieldLink RX9 16 "DriftKinModel" "of" "[I"] : List Cond), w ∈ wtX9_sameBy := fun w h => List.mem_cons_of_mem _ (inl h)
theorem imX9_sameBy_u_X9 : ∀ w ∈ (u_ws RX9 TX9 15 : List Cond), w ∈ wtX9_sameBy := fun w h => List.mem_cons_of_mem _ (inr (inl h))
theorem imX9_sameBy_c_X9_in : ∀ w ∈ (va_wsS RX9 41 yX9_in wtX9_in : List Cond), w ∈ wtX9_sameBy := fun w h => List.mem_cons_of_mem _ (inr (inr (inl h)))
theorem imX9_sameBy_c_X9_digit : ∀ w ∈ (va_wsS RX9 120 yX9_digit wtX9_digit : List Cond), w ∈ wtX9_sameBy := fun w h => List.mem_cons_of_mem _ (inr (inr (inr (inl h))))
theorem gdX9_sameBy : ∀ w ∈ wtX9_sameBy, Gd w := gdc rfl (gda (gdl (by decide +kernel)) (gda (gdu _ _ _) (gda (gda (gdl (by decide +kernel)) gdX9_in) (gda (gda (gdl (by decide +kernel)) gdX9_digit) gdn))))
theorem gcX9_sameBy_X9_in : GoodIn wtX9_sameBy (va_wsS RX9 41 yX9_in wtX9_in) := fun w h => ⟨imX9_sameBy_c_X9_in w h, (gda (gdl (by decide +kernel)) gdX9_in) w h⟩
theorem gcX9_sameBy_X9_digit : GoodIn wtX9_sameBy (va_wsS RX9 120 yX9_digit wtX9_digit) := fun w h => ⟨imX9_sameBy_c_X9_digit w h, (gda (gdl (by decide +kernel)) gdX9_digit) w h⟩
def fX9_sameBy_6 (v_of : Nat → Int32) (x1 : Int32) (x2 : Int32) (x3 : Int32) : Nat → Int32 → Int32 → Option (Int32)
  | 0, _, _ => none
  | n + 1, x4, x5 =>
    if (8 : Int32) ≤ x5 then
      some x4
    else
      (fX9_in (x5 - x3) (0 : Int32) (7 : Int32)).bind (fun r1002 =>
        if r1002 = (0 : Int32) then
          fX9_sameBy_6 v_of x1 x2 x3 n (x4 + (0 : Int32)) (x5 + (1 : Int32))
        else
          chk ((50 : Int32) + x1) 60 (
            (fX9_digit (rd v_of ((50 : Int32) + x1)) x5).bind (fun r1005 =>
              chk ((50 : Int32) + x2) 60 (
                (fX9_digit (rd v_of ((50 : Int32) + x2)) (x5 - x3)).bind (fun r1007 =>
                  if r1005 = r1007 then
                    fX9_sameBy_6 v_of x1 x2 x3 n (x4 + (1 : Int32)) (x5 + (1 : Int32))
                  else
                    fX9_sameBy_6 v_of x1 x2 x3 n (x4 + (0 : Int32)) (x5 + (1 : Int32)))))))
def fX9_sameBy (v_of : Nat → Int32) (x1 : Int32) (x2 : Int32) (x3 : Int32) : Option (Int32) :=
  fX9_sameBy_6 v_of x1 x2 x3 2000 (0 : Int32) (0 : Int32)
def wdX9_sameBy (cI cZ : ClassId) (q0 : Nat) (q1 : Nat) (d2 : Nat) (d3 : Nat) (d4 : Nat) (d5 : Nat) (d6 : Nat) (d7 : Nat) (d8 : Nat) (d9 : Nat) (d10 : Nat)  (v_of : Nat → Int32) (v_sights : Int32) (v_signs : Int32) (v_weddings : Int32) (v_reason : Int32) (v_acts : Int32) : va_W := [(q0, .inr (9, [.ref d2, .ref d3, .ref q1, .int v_sights, .ref d4, .int v_signs, .ref d5, .int v_weddings, .int v_reason, .int v_acts, .ref d6, .ref d7, .ref d8, .ref d9, .ref d10])), (q1, .inl (cI, 60, .inl v_of))]
abbrev rmX9_sameBy : Jvm.Room := { frames := 1, cells := 0, slots := 0, locals := 23 }
theorem hyX9_sameBy : yX9_sameBy.cls ≠ "java/lang/invoke/MethodHandle" ∧ yX9_sameBy.cls ≠ "java/lang/invoke/VarHandle" ∧ (parseMethodDescriptor yX9_sameBy.desc).map (fun d => d.parameters.length) = some 3 := by decide +kernel
set_option maxHeartbeats 4000000 in
set_option maxRecDepth 100000 in
theorem mX9_sameBy (l : Launch) (D : va_G) (cI cZ : ClassId) (q0 : Nat) (q1 : Nat) (d2 : Nat) (d3 : Nat) (d4 : Nat) (d5 : Nat) (d6 : Nat) (d7 : Nat) (d8 : Nat) (d9 : Nat) (d10 : Nat) (v_of : Nat → Int32) (v_sights : Int32) (v_signs : Int32) (v_weddings : Int32) (v_reason : Int32) (v_acts : Int32) (x1 : Int32) (x2 : Int32) (x3 : Int32) (z : Int32) (hF : fX9_sameBy v_of x1 x2 x3 = some z) : mp l yX9_sameBy wtX9_sameBy rmX9_sameBy D cI cZ [.ref q0, .int x1, .int x2, .int x3] (wdX9_sameBy cI cZ q0 q1 d2 d3 d4 d5 d6 d7 d8 d9 d10 v_of v_sights v_signs v_weddings v_reason v_acts) (some (.int z)) (wdX9_sameBy cI cZ q0 q1 d2 d3 d4 d5 d6 d7 d8 d9 d10 v_of v_sights v_signs v_weddings v_reason v_acts) := by
  refine mp_i (lv0 := [(0, .ref q0), (1, .int x1), (2, .int x2), (3, .int x3)]) cX9_sameBy 6 z (by decide) rfl (Nat.le_of_ble_eq_true rfl) rfl (fun E h hend0 => ?_)
  have hend : ∀ (z' : Int32), some z' = some z → ∀ (pc : Nat) (lv : List (Nat × Value)), decode cX9_sameBy pc = .ok (.ireturn, 1) → G l D E 6 0 0 (wdX9_sameBy cI cZ q0 q1 d2 d3 d4 d5 d6 d7 d8 d9 d10 v_of v_sights v_signs v_weddings v_reason v_acts) pc lv [.int z'] := fun z' e => by cases e; exact hend0
  clear hend0
  have hL6 : ∀ (n6 : Nat) (x4 : Int32) (x5 : Int32), fX9_sameBy_6 v_of x1 x2 x3 n6 x4 x5 = some z → G l D E 6 0 0 (wdX9_sameBy cI cZ q0 q1 d2 d3 d4 d5 d6 d7 d8 d9 d10 v_of v_sights v_signs v_weddings v_reason v_acts) 6 [(0, .ref q0), (1, .int x1), (2, .int x2), (3, .int x3), (4, .int x4), (5, .int x5)] [] := by
    intro n6
    induction n6 with
    | zero =>
      intro x4 x5 hF
      rw [fX9_sameBy_6] at hF
      cases hF
    | succ n6 ih6 =>
      intro x4 x5 hF
      rw [fX9_sameBy_6] at hF
      refine g_iload (np := 8) h 5 rfl dX9_sameBy_6 rfl ?_
      refine g_bipush (np := 10) (v := (8 : Int32)) h (by decide) dX9_sameBy_8 rfl ?_
      refine g_icmp_ge h hF dX9_sameBy_10 (np := 13) rfl (tg := 75) rfl (fun c1001 hF => ?_) (fun c1001 hF => ?_)
      · refine g_iload (np := 77) h 4 rfl dX9_sameBy_75 rfl ?_
        exact hend _ hF _ _ dX9_sameBy_77
      · refine g_iload (np := 15) h 4 rfl dX9_sameBy_13 rfl ?_
        refine g_iload (np := 17) h 5 rfl dX9_sameBy_15 rfl ?_
        refine g_iload_n (np := 18) h 3 rfl rfl dX9_sameBy_17 rfl ?_
        refine g_isub (np := 19) h dX9_sameBy_18 rfl ?_
        refine g_iconst (np := 20) (v := (0 : Int32)) h (by decide) dX9_sameBy_19 rfl ?_
        refine g_bipush (np := 22) (v := (7 : Int32)) h (by decide) dX9_sameBy_20 rfl ?_
        obtain ⟨r1002, hr1002, hF⟩ := Option.bind_eq_some_iff.mp hF
        refine g_callS (np := 25) (Wd' := (wdX9_sameBy cI cZ q0 q1 d2 d3 d4 d5 d6 d7 d8 d9 d10 v_of v_sights v_signs v_weddings v_reason v_acts)) (As := [.int (x5 - x3), .int (0 : Int32), .int (7 : Int32)]) h (mX9_in l D cI cZ (x5 - x3) (0 : Int32) (7 : Int32) r1002 hr1002) gcX9_sameBy_X9_in rfl ⟨rfl, rfl⟩ hyX9_in rfl rfl rfl rfl ⟨Nat.zero_le _, Nat.zero_le _⟩ [] [0, 1] (N := 2) (by decide +kernel) rfl rfl rfl rfl rfl dX9_sameBy_22 rfl ?_
        refine g_if_eq h hF dX9_sameBy_25 (np := 28) rfl (tg := 65) rfl (fun c1003 hF => ?_) (fun c1003 hF => ?_)
        · refine g_iconst (np := 66) (v := (0 : Int32)) h (by decide) dX9_sameBy_65 rfl ?_
          refine g_iadd (np := 67) h dX9_sameBy_66 rfl ?_
          refine g_istore (np := 69) (lv' := [(4, .int (x4 + (0 : Int32))), (0, .ref q0), (1, .int x1), (2, .int x2), (3, .int x3), (5, .int x5)]) h (by decide) rfl dX9_sameBy_67 rfl ?_
          refine g_iinc (np := 72) (v := (x5 + (1 : Int32))) (lv' := [(5, .int (x5 + (1 : Int32))), (4, .int (x4 + (0 : Int32))), (0, .ref q0), (1, .int x1), (2, .int x2), (3, .int x3)]) h 5 rfl rfl (by decide) rfl dX9_sameBy_69 rfl ?_
          refine g_goto h dX9_sameBy_72 (np := 6) rfl ?_
          refine g_lv [2, 3, 4, 5, 1, 0] rfl ?_
          exact ih6 (x4 + (0 : Int32)) (x5 + (1 : Int32)) hF
        · refine g_aload_n (np := 29) h 0 rfl rfl dX9_sameBy_28 rfl ?_
          refine g_get (np := 32) (T := TX9) h imX9_sameBy_u_X9 0 9 rfl rfl 2 (by decide) (imX9_sameBy_own _ (List.mem_of_getElem? (i := 0) rfl)) rfl dX9_sameBy_29 rfl ?_
          refine g_bipush (np := 34) (v := (50 : Int32)) h (by decide) dX9_sameBy_32 rfl ?_
          refine g_iload_n (np := 35) h 1 rfl rfl dX9_sameBy_34 rfl ?_
          refine g_iadd (np := 36) h dX9_sameBy_35 rfl ?_
          refine g_iald (np := 37) h 1 rfl hF dX9_sameBy_36 rfl (fun hi1004 hF => ?_)
          refine g_iload (np := 39) h 5 rfl dX9_sameBy_37 rfl ?_
          obtain ⟨r1005, hr1005, hF⟩ := Option.bind_eq_some_iff.mp hF
          refine g_callS (np := 42) (Wd' := (wdX9_sameBy cI cZ q0 q1 d2 d3 d4 d5 d6 d7 d8 d9 d10 v_of v_sights v_signs v_weddings v_reason v_acts)) (As := [.int (rd v_of ((50 : Int32) + x1)), .int x5]) h (mX9_digit l D cI cZ (rd v_of ((50 : Int32) + x1)) x5 r1005 hr1005) gcX9_sameBy_X9_digit rfl ⟨rfl, rfl⟩ hyX9_digit rfl rfl rfl rfl ⟨Nat.zero_le _, Nat.zero_le _⟩ [] [0, 1] (N := 2) (by decide +kernel) rfl rfl rfl rfl rfl dX9_sameBy_39 rfl ?_
          refine g_aload_n (np := 43) h 0 rfl rfl dX9_sameBy_42 rfl ?_
          refine g_get (np := 46) (T := TX9) h imX9_sameBy_u_X9 0 9 rfl rfl 2 (by decide) (imX9_sameBy_own _ (List.mem_of_getElem? (i := 0) rfl)) rfl dX9_sameBy_43 rfl ?_
          refine g_bipush (np := 48) (v := (50 : Int32)) h (by decide) dX9_sameBy_46 rfl ?_
          refine g_iload_n (np := 49) h 2 rfl rfl dX9_sameBy_48 rfl ?_
          refine g_iadd (np := 50) h dX9_sameBy_49 rfl ?_
          refine g_iald (np := 51) h 1 rfl hF dX9_sameBy_50 rfl (fun hi1006 hF => ?_)
          refine g_iload (np := 53) h 5 rfl dX9_sameBy_51 rfl ?_
          refine g_iload_n (np := 54) h 3 rfl rfl dX9_sameBy_53 rfl ?_
          refine g_isub (np := 55) h dX9_sameBy_54 rfl ?_
          obtain ⟨r1007, hr1007, hF⟩ := Option.bind_eq_some_iff.mp hF
          refine g_callS (np := 58) (Wd' := (wdX9_sameBy cI cZ q0 q1 d2 d3 d4 d5 d6 d7 d8 d9 d10 v_of v_sights v_signs v_weddings v_reason v_acts)) (As := [.int (rd v_of ((50 : Int32) + x2)), .int (x5 - x3)]) h (mX9_digit l D cI cZ (rd v_of ((50 : Int32) + x2)) (x5 - x3) r1007 hr1007) gcX9_sameBy_X9_digit rfl ⟨rfl, rfl⟩ hyX9_digit rfl rfl rfl rfl ⟨Nat.zero_le _, Nat.zero_le _⟩ [] [0, 1] (N := 2) (by decide +kernel) rfl rfl rfl rfl rfl dX9_sameBy_55 rfl ?_
          refine g_icmp_ne h hF dX9_sameBy_58 (np := 61) rfl (tg := 65) rfl (fun c1008 hF => ?_) (fun c1008 hF => ?_)
          · refine g_iconst (np := 66) (v := (0 : Int32)) h (by decide) dX9_sameBy_65 rfl ?_
            refine g_iadd (np := 67) h dX9_sameBy_66 rfl ?_
            refine g_istore (np := 69) (lv' := [(4, .int (x4 + (0 : Int32))), (0, .ref q0), (1, .int x1), (2, .int x2), (3, .int x3), (5, .int x5)]) h (by decide) rfl dX9_sameBy_67 rfl ?_
            refine g_iinc (np := 72) (v := (x5 + (1 : Int32))) (lv' := [(5, .int (x5 + (1 : Int32))), (4, .int (x4 + (0 : Int32))), (0, .ref q0), (1, .int x1), (2, .int x2), (3, .int x3)]) h 5 rfl rfl (by decide) rfl dX9_sameBy_69 rfl ?_
            refine g_goto h dX9_sameBy_72 (np := 6) rfl ?_
            refine g_lv [2, 3, 4, 5, 1, 0] rfl ?_
            exact ih6 (x4 + (0 : Int32)) (x5 + (1 : Int32)) hF
          · refine g_iconst (np := 62) (v := (1 : Int32)) h (by decide) dX9_sameBy_61 rfl ?_
            refine g_goto h dX9_sameBy_62 (np := 66) rfl ?_
            refine g_iadd (np := 67) h dX9_sameBy_66 rfl ?_
            refine g_istore (np := 69) (lv' := [(4, .int (x4 + (1 : Int32))), (0, .ref q0), (1, .int x1), (2, .int x2), (3, .int x3), (5, .int x5)]) h (by decide) rfl dX9_sameBy_67 rfl ?_
            refine g_iinc (np := 72) (v := (x5 + (1 : Int32))) (lv' := [(5, .int (x5 + (1 : Int32))), (4, .int (x4 + (1 : Int32))), (0, .ref q0), (1, .int x1), (2, .int x2), (3, .int x3)]) h 5 rfl rfl (by decide) rfl dX9_sameBy_69 rfl ?_
            refine g_goto h dX9_sameBy_72 (np := 6) rfl ?_
            refine g_lv [2, 3, 4, 5, 1, 0] rfl ?_
            exact ih6 (x4 + (1 : Int32)) (x5 + (1 : Int32)) hF
  unfold fX9_sameBy at hF
  refine g_iconst (np := 1) (v := (0 : Int32)) h (by decide) dX9_sameBy_0 rfl ?_
  refine g_istore (np := 3) (lv' := [(4, .int (0 : Int32)), (0, .ref q0), (1, .int x1), (2, .int x2), (3, .int x3)]) h (by decide) rfl dX9_sameBy_1 rfl ?_
  refine g_iconst (np := 4) (v := (0 : Int32)) h (by decide) dX9_sameBy_3 rfl ?_
  refine g_istore (np := 6) (lv' := [(5, .int (0 : Int32)), (4, .int (0 : Int32)), (0, .ref q0), (1, .int x1), (2, .int x2), (3, .int x3)]) h (by decide) rfl dX9_sameBy_4 rfl ?_
  refine g_lv [2, 3, 4, 5, 1, 0] rfl ?_
  exact hL6 _ (0 : Int32) (0 : Int32) hF
theorem dX9_same_0 : decode cX9_same 0 = .ok (.iload_n 1, 1) := by decide +kernel
theorem dX9_same_1 : decode cX9_same 1 = .ok (.invokestatic 45, 3) := by decide +kernel
theorem dX9_same_4 : decode cX9_same 4 = .ok (.ifCond .eq 10, 3) := by decide +kernel
theorem dX9_same_7 : decode cX9_same 7 = .ok (.iload_n 2, 1) := by decide +kernel
theorem dX9_same_8 : decode cX9_same 8 = .ok (.invokestatic 45, 3) := by decide +kernel
theorem dX9_same_11 : decode cX9_same 11 = .ok (.ifCond .ne 5, 3) := by decide +kernel
theorem dX9_same_14 : decode cX9_same 14 = .ok (.iconst (-1), 1) := by decide +kernel
theorem dX9_same_15 : decode cX9_same 15 = .ok (.ireturn, 1) := by decide +kernel
theorem dX9_same_16 : decode cX9_same 16 = .ok (.iload_n 3, 1) := by decide +kernel
theorem dX9_same_17 : decode cX9_same 17 = .ok (.bipush (-5), 2) := by decide +kernel
theorem dX9_same_19 : decode cX9_same 19 = .ok (.iconst 5, 1) := by decide +kernel
theorem dX9_same_20 : decode cX9_same 20 = .ok (.invokestatic 41, 3) := by decide +kernel
theorem dX9_same_23 : decode cX9_same 23 = .ok (.ifCond .eq 13, 3) := by decide +kernel
theorem dX9_same_26 : decode cX9_same 26 = .ok (.aload_n 0, 1) := by decide +kernel
theorem dX9_same_27 : decode cX9_same 27 = .ok (.iload_n 1, 1) := by decide +kernel
theorem dX9_same_28 : decode cX9_same 28 = .ok (.iload_n 2, 1) := by decide +kernel
theorem dX9_same_29 : decode cX9_same 29 = .ok (.iload_n 3, 1) := by decide +kernel
theorem dX9_same_30 : decode cX9_same 30 = .ok (.invokevirtual 123, 3) := by decide +kernel
theorem dX9_same_33 : decode cX9_same 33 = .ok (.goto 5, 3) := by decide +kernel
theorem dX9_same_36 : decode cX9_same 36 = .ok (.bipush (-2), 2) := by decide +kernel
theorem dX9_same_38 : decode cX9_same 38 = .ok (.ireturn, 1) := by decide +kernel
def wtX9_same : List Cond := .code yX9_same cX9_same 4 (some .int) :: (([]) ++ ((va_wsS RX9 45 yX9_isPiece wtX9_isPiece) ++ ((va_wsS RX9 41 yX9_in wtX9_in) ++ ((wsV RX9 123 RX9 yX9_sameBy wtX9_sameBy) ++ []))))
theorem imX9_same_own : ∀ w ∈ ([] : List Cond), w ∈ wtX9_same := fun w h => List.mem_cons_of_mem _ (inl h)
theorem imX9_same_c_X9_isPiece : ∀ w ∈ (va_wsS RX9 45 yX9_isPiece wtX9_isPiece : List Cond), w ∈ wtX9_same := fun w h => List.mem_cons_of_mem _ (inr (inl h))
theorem imX9_same_c_X9_in : ∀ w ∈ (va_wsS RX9 41 yX9_in wtX9_in : List Cond), w ∈ wtX9_same := fun w h => List.mem_cons_of_mem _ (inr (inr (inl h)))
theorem imX9_same_c_X9_sameBy : ∀ w ∈ (wsV RX9 123 RX9 yX9_sameBy wtX9_sameBy : List Cond), w ∈ wtX9_same := fun w h => List.mem_cons_of_mem _ (inr (inr (inr (inl h))))
theorem gdX9_same : ∀ w ∈ wtX9_same, Gd w := gdc rfl (gda (gdl (by decide +kernel)) (gda (gda (gdl (by decide +kernel)) gdX9_isPiece) (gda (gda (gdl (by decide +kernel)) gdX9_in) (gda (gda (gdl (by decide +kernel)) gdX9_sameBy) gdn))))
theorem gcX9_same_X9_isPiece : GoodIn wtX9_same (va_wsS RX9 45 yX9_isPiece wtX9_isPiece) := fun w h => ⟨imX9_same_c_X9_isPiece w h, (gda (gdl (by decide +kernel)) gdX9_isPiece) w h⟩
theorem gcX9_same_X9_in : GoodIn wtX9_same (va_wsS RX9 41 yX9_in wtX9_in) := fun w h => ⟨imX9_same_c_X9_in w h, (gda (gdl (by decide +kernel)) gdX9_in) w h⟩
theorem gcX9_same_X9_sameBy : GoodIn wtX9_same (wsV RX9 123 RX9 yX9_sameBy wtX9_sameBy) := fun w h => ⟨imX9_same_c_X9_sameBy w h, (gda (gdl (by decide +kernel)) gdX9_sameBy) w h⟩
def fX9_same (v_of : Nat → Int32) (x1 : Int32) (x2 : Int32) (x3 : Int32) : Option (Int32) :=
  (fX9_isPiece x1).bind (fun r1 =>
    if r1 = (0 : Int32) then
      some (-1 : Int32)
    else
      (fX9_isPiece x2).bind (fun r3 =>
        if r3 = (0 : Int32) then
          some (-1 : Int32)
        else
          (fX9_in x3 (-5 : Int32) (5 : Int32)).bind (fun r5 =>
            if r5 = (0 : Int32) then
              some (-2 : Int32)
            else
              (fX9_sameBy v_of x1 x2 x3).bind (fun r7 =>
                some r7))))
def wdX9_same (cI cZ : ClassId) (q0 : Nat) (q1 : Nat) (d2 : Nat) (d3 : Nat) (d4 : Nat) (d5 : Nat) (d6 : Nat) (d7 : Nat) (d8 : Nat) (d9 : Nat) (d10 : Nat)  (v_of : Nat → Int32) (v_sights : Int32) (v_signs : Int32) (v_weddings : Int32) (v_reason : Int32) (v_acts : Int32) : va_W := [(q0, .inr (9, [.ref d2, .ref d3, .ref q1, .int v_sights, .ref d4, .int v_signs, .ref d5, .int v_weddings, .int v_reason, .int v_acts, .ref d6, .ref d7, .ref d8, .ref d9, .ref d10])), (q1, .inl (cI, 60, .inl v_of))]
abbrev rmX9_same : Jvm.Room := { frames := 2, cells := 0, slots := 0, locals := 48 }
theorem hyX9_same : yX9_same.cls ≠ "java/lang/invoke/MethodHandle" ∧ yX9_same.cls ≠ "java/lang/invoke/VarHandle" ∧ (parseMethodDescriptor yX9_same.desc).map (fun d => d.parameters.length) = some 3 := by decide +kernel
set_option maxHeartbeats 4000000 in
set_option maxRecDepth 100000 in
theorem mX9_same (l : Launch) (D : va_G) (cI cZ : ClassId) (q0 : Nat) (q1 : Nat) (d2 : Nat) (d3 : Nat) (d4 : Nat) (d5 : Nat) (d6 : Nat) (d7 : Nat) (d8 : Nat) (d9 : Nat) (d10 : Nat) (v_of : Nat → Int32) (v_sights : Int32) (v_signs : Int32) (v_weddings : Int32) (v_reason : Int32) (v_acts : Int32) (x1 : Int32) (x2 : Int32) (x3 : Int32) (z : Int32) (hF : fX9_same v_of x1 x2 x3 = some z) : mp l yX9_same wtX9_same rmX9_same D cI cZ [.ref q0, .int x1, .int x2, .int x3] (wdX9_same cI cZ q0 q1 d2 d3 d4 d5 d6 d7 d8 d9 d10 v_of v_sights v_signs v_weddings v_reason v_acts) (some (.int z)) (wdX9_same cI cZ q0 q1 d2 d3 d4 d5 d6 d7 d8 d9 d10 v_of v_sights v_signs v_weddings v_reason v_acts) := by
  refine mp_i (lv0 := [(0, .ref q0), (1, .int x1), (2, .int x2), (3, .int x3)]) cX9_same 4 z (by decide) rfl (Nat.le_of_ble_eq_true rfl) rfl (fun E h hend0 => ?_)
  have hend : ∀ (z' : Int32), some z' = some z → ∀ (pc : Nat) (lv : List (Nat × Value)), decode cX9_same pc = .ok (.ireturn, 1) → G l D E 4 0 0 (wdX9_same cI cZ q0 q1 d2 d3 d4 d5 d6 d7 d8 d9 d10 v_of v_sights v_signs v_weddings v_reason v_acts) pc lv [.int z'] := fun z' e => by cases e; exact hend0
  clear hend0
  unfold fX9_same at hF
  refine g_iload_n (np := 1) h 1 rfl rfl dX9_same_0 rfl ?_
  obtain ⟨r1, hr1, hF⟩ := Option.bind_eq_some_iff.mp hF
  refine g_callS (np := 4) (Wd' := (wdX9_same cI cZ q0 q1 d2 d3 d4 d5 d6 d7 d8 d9 d10 v_of v_sights v_signs v_weddings v_reason v_acts)) (As := [.int x1]) h (mX9_isPiece l D cI cZ x1 r1 hr1) gcX9_same_X9_isPiece rfl ⟨rfl, rfl⟩ hyX9_isPiece rfl rfl rfl rfl ⟨Nat.zero_le _, Nat.zero_le _⟩ [] [0, 1] (N := 2) (by decide +kernel) rfl rfl rfl rfl rfl dX9_same_1 rfl ?_
  refine g_if_eq h hF dX9_same_4 (np := 7) rfl (tg := 14) rfl (fun c2 hF => ?_) (fun c2 hF => ?_)
  · refine g_iconst (np := 15) (v := (-1 : Int32)) h (by decide) dX9_same_14 rfl ?_
    exact hend _ hF _ _ dX9_same_15
  · refine g_iload_n (np := 8) h 2 rfl rfl dX9_same_7 rfl ?_
    obtain ⟨r3, hr3, hF⟩ := Option.bind_eq_some_iff.mp hF
    refine g_callS (np := 11) (Wd' := (wdX9_same cI cZ q0 q1 d2 d3 d4 d5 d6 d7 d8 d9 d10 v_of v_sights v_signs v_weddings v_reason v_acts)) (As := [.int x2]) h (mX9_isPiece l D cI cZ x2 r3 hr3) gcX9_same_X9_isPiece rfl ⟨rfl, rfl⟩ hyX9_isPiece rfl rfl rfl rfl ⟨Nat.zero_le _, Nat.zero_le _⟩ [] [0, 1] (N := 2) (by decide +kernel) rfl rfl rfl rfl rfl dX9_same_8 rfl ?_
    refine g_if_ne h hF dX9_same_11 (np := 14) rfl (tg := 16) rfl (fun c4 hF => ?_) (fun c4 hF => ?_)
    · refine g_iload_n (np := 17) h 3 rfl rfl dX9_same_16 rfl ?_
      refine g_bipush (np := 19) (v := (-5 : Int32)) h (by decide) dX9_same_17 rfl ?_
      refine g_iconst (np := 20) (v := (5 : Int32)) h (by decide) dX9_same_19 rfl ?_
      obtain ⟨r5, hr5, hF⟩ := Option.bind_eq_some_iff.mp hF
      refine g_callS (np := 23) (Wd' := (wdX9_same cI cZ q0 q1 d2 d3 d4 d5 d6 d7 d8 d9 d10 v_of v_sights v_signs v_weddings v_reason v_acts)) (As := [.int x3, .int (-5 : Int32), .int (5 : Int32)]) h (mX9_in l D cI cZ x3 (-5 : Int32) (5 : Int32) r5 hr5) gcX9_same_X9_in rfl ⟨rfl, rfl⟩ hyX9_in rfl rfl rfl rfl ⟨Nat.zero_le _, Nat.zero_le _⟩ [] [0, 1] (N := 2) (by decide +kernel) rfl rfl rfl rfl rfl dX9_same_20 rfl ?_
      refine g_if_eq h hF dX9_same_23 (np := 26) rfl (tg := 36) rfl (fun c6 hF => ?_) (fun c6 hF => ?_)
      · refine g_bipush (np := 38) (v := (-2 : Int32)) h (by decide) dX9_same_36 rfl ?_
        exact hend _ hF _ _ dX9_same_38
      · refine g_aload_n (np := 27) h 0 rfl rfl dX9_same_26 rfl ?_
        refine g_iload_n (np := 28) h 1 rfl rfl dX9_same_27 rfl ?_
        refine g_iload_n (np := 29) h 2 rfl rfl dX9_same_28 rfl ?_
        refine g_iload_n (np := 30) h 3 rfl rfl dX9_same_29 rfl ?_
        obtain ⟨r7, hr7, hF⟩ := Option.bind_eq_some_iff.mp hF
        refine g_callV (np := 33) (Wd' := (wdX9_same cI cZ q0 q1 d2 d3 d4 d5 d6 d7 d8 d9 d10 v_of v_sights v_signs v_weddings v_reason v_acts)) (As := [.int x1, .int x2, .int x3]) h (mX9_sameBy l D cI cZ q0 q1 d2 d3 d4 d5 d6 d7 d8 d9 d10 v_of v_sights v_signs v_weddings v_reason v_acts x1 x2 x3 r7 hr7) gcX9_same_X9_sameBy rfl ⟨rfl, rfl⟩ ⟨rfl, hyX9_sameBy⟩ rfl 9 0 rfl rfl rfl rfl rfl rfl ⟨Nat.zero_le _, Nat.zero_le _⟩ [0, 1] [] (N := 2) (by decide +kernel) rfl rfl rfl rfl rfl dX9_same_30 rfl ?_
        refine g_goto h dX9_same_33 (np := 38) rfl ?_
        exact hend _ hF _ _ dX9_same_38
    · refine g_iconst (np := 15) (v := (-1 : Int32)) h (by decide) dX9_same_14 rfl ?_
      exact hend _ hF _ _ dX9_same_15
theorem dX9_lie_0 : decode cX9_lie 0 = .ok (.iload_n 1, 1) := by decide +kernel
theorem dX9_lie_1 : decode cX9_lie 1 = .ok (.invokestatic 45, 3) := by decide +kernel
theorem dX9_lie_4 : decode cX9_lie 4 = .ok (.ifCond .eq 10, 3) := by decide +kernel
theorem dX9_lie_7 : decode cX9_lie 7 = .ok (.iload_n 2, 1) := by decide +kernel
theorem dX9_lie_8 : decode cX9_lie 8 = .ok (.invokestatic 45, 3) := by decide +kernel
theorem dX9_lie_11 : decode cX9_lie 11 = .ok (.ifCond .ne 5, 3) := by decide +kernel
theorem dX9_lie_14 : decode cX9_lie 14 = .ok (.iconst (-1), 1) := by decide +kernel
theorem dX9_lie_15 : decode cX9_lie 15 = .ok (.ireturn, 1) := by decide +kernel
theorem dX9_lie_16 : decode cX9_lie 16 = .ok (.iload_n 3, 1) := by decide +kernel
theorem dX9_lie_17 : decode cX9_lie 17 = .ok (.iconst 0, 1) := by decide +kernel
theorem dX9_lie_18 : decode cX9_lie 18 = .ok (.iconst 1, 1) := by decide +kernel
theorem dX9_lie_19 : decode cX9_lie 19 = .ok (.invokestatic 41, 3) := by decide +kernel
theorem dX9_lie_22 : decode cX9_lie 22 = .ok (.ifCond .ne 6, 3) := by decide +kernel
theorem dX9_lie_25 : decode cX9_lie 25 = .ok (.bipush (-2), 2) := by decide +kernel
theorem dX9_lie_27 : decode cX9_lie 27 = .ok (.ireturn, 1) := by decide +kernel
theorem dX9_lie_28 : decode cX9_lie 28 = .ok (.iconst (-1), 1) := by decide +kernel
theorem dX9_lie_29 : decode cX9_lie 29 = .ok (.istore 4, 2) := by decide +kernel
theorem dX9_lie_31 : decode cX9_lie 31 = .ok (.iconst 0, 1) := by decide +kernel
theorem dX9_lie_32 : decode cX9_lie 32 = .ok (.istore 5, 2) := by decide +kernel
theorem dX9_lie_34 : decode cX9_lie 34 = .ok (.bipush (-5), 2) := by decide +kernel
theorem dX9_lie_36 : decode cX9_lie 36 = .ok (.istore 6, 2) := by decide +kernel
theorem dX9_lie_38 : decode cX9_lie 38 = .ok (.iload 6, 2) := by decide +kernel
theorem dX9_lie_40 : decode cX9_lie 40 = .ok (.bipush 6, 2) := by decide +kernel
theorem dX9_lie_42 : decode cX9_lie 42 = .ok (.if_icmp .ge 59, 3) := by decide +kernel
theorem dX9_lie_45 : decode cX9_lie 45 = .ok (.aload_n 0, 1) := by decide +kernel
theorem dX9_lie_46 : decode cX9_lie 46 = .ok (.iload_n 1, 1) := by decide +kernel
theorem dX9_lie_47 : decode cX9_lie 47 = .ok (.iload_n 2, 1) := by decide +kernel
theorem dX9_lie_48 : decode cX9_lie 48 = .ok (.iload 6, 2) := by decide +kernel
theorem dX9_lie_50 : decode cX9_lie 50 = .ok (.invokevirtual 123, 3) := by decide +kernel
theorem dX9_lie_53 : decode cX9_lie 53 = .ok (.iload 4, 2) := by decide +kernel
theorem dX9_lie_55 : decode cX9_lie 55 = .ok (.if_icmp .le 8, 3) := by decide +kernel
theorem dX9_lie_58 : decode cX9_lie 58 = .ok (.iload 6, 2) := by decide +kernel
theorem dX9_lie_60 : decode cX9_lie 60 = .ok (.goto 5, 3) := by decide +kernel
theorem dX9_lie_63 : decode cX9_lie 63 = .ok (.iload 5, 2) := by decide +kernel
theorem dX9_lie_65 : decode cX9_lie 65 = .ok (.istore 5, 2) := by decide +kernel
theorem dX9_lie_67 : decode cX9_lie 67 = .ok (.aload_n 0, 1) := by decide +kernel
theorem dX9_lie_68 : decode cX9_lie 68 = .ok (.iload_n 1, 1) := by decide +kernel
theorem dX9_lie_69 : decode cX9_lie 69 = .ok (.iload_n 2, 1) := by decide +kernel
theorem dX9_lie_70 : decode cX9_lie 70 = .ok (.iload 6, 2) := by decide +kernel
theorem dX9_lie_72 : decode cX9_lie 72 = .ok (.invokevirtual 123, 3) := by decide +kernel
theorem dX9_lie_75 : decode cX9_lie 75 = .ok (.iload 4, 2) := by decide +kernel
theorem dX9_lie_77 : decode cX9_lie 77 = .ok (.if_icmp .le 14, 3) := by decide +kernel
theorem dX9_lie_80 : decode cX9_lie 80 = .ok (.aload_n 0, 1) := by decide +kernel
theorem dX9_lie_81 : decode cX9_lie 81 = .ok (.iload_n 1, 1) := by decide +kernel
theorem dX9_lie_82 : decode cX9_lie 82 = .ok (.iload_n 2, 1) := by decide +kernel
theorem dX9_lie_83 : decode cX9_lie 83 = .ok (.iload 6, 2) := by decide +kernel
theorem dX9_lie_85 : decode cX9_lie 85 = .ok (.invokevirtual 123, 3) := by decide +kernel
theorem dX9_lie_88 : decode cX9_lie 88 = .ok (.goto 5, 3) := by decide +kernel
theorem dX9_lie_91 : decode cX9_lie 91 = .ok (.iload 4, 2) := by decide +kernel
theorem dX9_lie_93 : decode cX9_lie 93 = .ok (.istore 4, 2) := by decide +kernel
theorem dX9_lie_95 : decode cX9_lie 95 = .ok (.iinc 6 1, 3) := by decide +kernel
theorem dX9_lie_98 : decode cX9_lie 98 = .ok (.goto (-60), 3) := by decide +kernel
theorem dX9_lie_101 : decode cX9_lie 101 = .ok (.iload_n 3, 1) := by decide +kernel
theorem dX9_lie_102 : decode cX9_lie 102 = .ok (.ifCond .ne 8, 3) := by decide +kernel
theorem dX9_lie_105 : decode cX9_lie 105 = .ok (.iload 4, 2) := by decide +kernel
theorem dX9_lie_107 : decode cX9_lie 107 = .ok (.goto 7, 3) := by decide +kernel
theorem dX9_lie_110 : decode cX9_lie 110 = .ok (.iload 5, 2) := by decide +kernel
theorem dX9_lie_112 : decode cX9_lie 112 = .ok (.iconst 5, 1) := by decide +kernel
theorem dX9_lie_113 : decode cX9_lie 113 = .ok (.iadd, 1) := by decide +kernel
theorem dX9_lie_114 : decode cX9_lie 114 = .ok (.ireturn, 1) := by decide +kernel
def wtX9_lie : List Cond := .code yX9_lie cX9_lie 7 (some .int) :: (([]) ++ ((va_wsS RX9 45 yX9_isPiece wtX9_isPiece) ++ ((va_wsS RX9 41 yX9_in wtX9_in) ++ ((wsV RX9 123 RX9 yX9_sameBy wtX9_sameBy) ++ []))))
theorem imX9_lie_own : ∀ w ∈ ([] : List Cond), w ∈ wtX9_lie := fun w h => List.mem_cons_of_mem _ (inl h)
theorem imX9_lie_c_X9_isPiece : ∀ w ∈ (va_wsS RX9 45 yX9_isPiece wtX9_isPiece : List Cond), w ∈ wtX9_lie := fun w h => List.mem_cons_of_mem _ (inr (inl h))
theorem imX9_lie_c_X9_in : ∀ w ∈ (va_wsS RX9 41 yX9_in wtX9_in : List Cond), w ∈ wtX9_lie := fun w h => List.mem_cons_of_mem _ (inr (inr (inl h)))
theorem imX9_lie_c_X9_sameBy : ∀ w ∈ (wsV RX9 123 RX9 yX9_sameBy wtX9_sameBy : List Cond), w ∈ wtX9_lie := fun w h => List.mem_cons_of_mem _ (inr (inr (inr (inl h))))
theorem gdX9_lie : ∀ w ∈ wtX9_lie, Gd w := gdc rfl (gda (gdl (by decide +kernel)) (gda (gda (gdl (by decide +kernel)) gdX9_isPiece) (gda (gda (gdl (by decide +kernel)) gdX9_in) (gda (gda (gdl (by decide +kernel)) gdX9_sameBy) gdn))))
theorem gcX9_lie_X9_isPiece : GoodIn wtX9_lie (va_wsS RX9 45 yX9_isPiece wtX9_isPiece) := fun w h => ⟨imX9_lie_c_X9_isPiece w h, (gda (gdl (by decide +kernel)) gdX9_isPiece) w h⟩
theorem gcX9_lie_X9_in : GoodIn wtX9_lie (va_wsS RX9 41 yX9_in wtX9_in) := fun w h => ⟨imX9_lie_c_X9_in w h, (gda (gdl (by decide +kernel)) gdX9_in) w h⟩
theorem gcX9_lie_X9_sameBy : GoodIn wtX9_lie (wsV RX9 123 RX9 yX9_sameBy wtX9_sameBy) := fun w h => ⟨imX9_lie_c_X9_sameBy w h, (gda (gdl (by decide +kernel)) gdX9_sameBy) w h⟩
def fX9_lie_65 (k38 : Int32 → Int32 → Int32 → Option (Int32)) (v_of : Nat → Int32) (x1 : Int32) (x2 : Int32) (x3 : Int32) (x4 : Int32) (x6 : Int32) (s0 : Int32) : Option (Int32) :=
  (fX9_sameBy v_of x1 x2 x6).bind (fun r1001 =>
    if r1001 ≤ x4 then
      k38 x4 s0 (x6 + (1 : Int32))
    else
      (fX9_sameBy v_of x1 x2 x6).bind (fun r1003 =>
        k38 r1003 s0 (x6 + (1 : Int32))))
def fX9_lie_38 (v_of : Nat → Int32) (x1 : Int32) (x2 : Int32) (x3 : Int32) : Nat → Int32 → Int32 → Int32 → Option (Int32)
  | 0, _, _, _ => none
  | n + 1, x4, x5, x6 =>
    if (6 : Int32) ≤ x6 then
      if x3 = (0 : Int32) then
        some x4
      else
        some (x5 + (5 : Int32))
    else
      (fX9_sameBy v_of x1 x2 x6).bind (fun r2003 =>
        if r2003 ≤ x4 then
          fX9_lie_65 (fun y0 y1 y2 => fX9_lie_38 v_of x1 x2 x3 n y0 y1 y2) v_of x1 x2 x3 x4 x6 x5
        else
          fX9_lie_65 (fun y0 y1 y2 => fX9_lie_38 v_of x1 x2 x3 n y0 y1 y2) v_of x1 x2 x3 x4 x6 x6)
def fX9_lie (v_of : Nat → Int32) (x1 : Int32) (x2 : Int32) (x3 : Int32) : Option (Int32) :=
  (fX9_isPiece x1).bind (fun r1 =>
    if r1 = (0 : Int32) then
      some (-1 : Int32)
    else
      (fX9_isPiece x2).bind (fun r3 =>
        if r3 = (0 : Int32) then
          some (-1 : Int32)
        else
          (fX9_in x3 (0 : Int32) (1 : Int32)).bind (fun r5 =>
            if r5 = (0 : Int32) then
              some (-2 : Int32)
            else
              fX9_lie_38 v_of x1 x2 x3 2000 (-1 : Int32) (0 : Int32) (-5 : Int32))))
def wdX9_lie (cI cZ : ClassId) (q0 : Nat) (q1 : Nat) (d2 : Nat) (d3 : Nat) (d4 : Nat) (d5 : Nat) (d6 : Nat) (d7 : Nat) (d8 : Nat) (d9 : Nat) (d10 : Nat)  (v_of : Nat → Int32) (v_sights : Int32) (v_signs : Int32) (v_weddings : Int32) (v_reason : Int32) (v_acts : Int32) : va_W := [(q0, .inr (9, [.ref d2, .ref d3, .ref q1, .int v_sights, .ref d4, .int v_signs, .ref d5, .int v_weddings, .int v_reason, .int v_acts, .ref d6, .ref d7, .ref d8, .ref d9, .ref d10])), (q1, .inl (cI, 60, .inl v_of))]
abbrev rmX9_lie : Jvm.Room := { frames := 2, cells := 0, slots := 0, locals := 48 }
theorem hyX9_lie : yX9_lie.cls ≠ "java/lang/invoke/MethodHandle" ∧ yX9_lie.cls ≠ "java/lang/invoke/VarHandle" ∧ (parseMethodDescriptor yX9_lie.desc).map (fun d => d.parameters.length) = some 3 := by decide +kernel
set_option maxHeartbeats 4000000 in
set_option maxRecDepth 100000 in
theorem mX9_lie (l : Launch) (D : va_G) (cI cZ : ClassId) (q0 : Nat) (q1 : Nat) (d2 : Nat) (d3 : Nat) (d4 : Nat) (d5 : Nat) (d6 : Nat) (d7 : Nat) (d8 : Nat) (d9 : Nat) (d10 : Nat) (v_of : Nat → Int32) (v_sights : Int32) (v_signs : Int32) (v_weddings : Int32) (v_reason : Int32) (v_acts : Int32) (x1 : Int32) (x2 : Int32) (x3 : Int32) (z : Int32) (hF : fX9_lie v_of x1 x2 x3 = some z) : mp l yX9_lie wtX9_lie rmX9_lie D cI cZ [.ref q0, .int x1, .int x2, .int x3] (wdX9_lie cI cZ q0 q1 d2 d3 d4 d5 d6 d7 d8 d9 d10 v_of v_sights v_signs v_weddings v_reason v_acts) (some (.int z)) (wdX9_lie cI cZ q0 q1 d2 d3 d4 d5 d6 d7 d8 d9 d10 v_of v_sights v_signs v_weddings v_reason v_acts) := by
  refine mp_i (lv0 := [(0, .ref q0), (1, .int x1), (2, .int x2), (3, .int x3)]) cX9_lie 7 z (by decide) rfl (Nat.le_of_ble_eq_true rfl) rfl (fun E h hend0 => ?_)
  have hend : ∀ (z' : Int32), some z' = some z → ∀ (pc : Nat) (lv : List (Nat × Value)), decode cX9_lie pc = .ok (.ireturn, 1) → G l D E 7 0 0 (wdX9_lie cI cZ q0 q1 d2 d3 d4 d5 d6 d7 d8 d9 d10 v_of v_sights v_signs v_weddings v_reason v_acts) pc lv [.int z'] := fun z' e => by cases e; exact hend0
  clear hend0
  have hL38 : ∀ (n38 : Nat) (x4 : Int32) (x5 : Int32) (x6 : Int32), fX9_lie_38 v_of x1 x2 x3 n38 x4 x5 x6 = some z → G l D E 7 0 0 (wdX9_lie cI cZ q0 q1 d2 d3 d4 d5 d6 d7 d8 d9 d10 v_of v_sights v_signs v_weddings v_reason v_acts) 38 [(0, .ref q0), (1, .int x1), (2, .int x2), (3, .int x3), (4, .int x4), (5, .int x5), (6, .int x6)] [] := by
    intro n38
    induction n38 with
    | zero =>
      intro x4 x5 x6 hF
      rw [fX9_lie_38] at hF
      cases hF
    | succ n38 ih38 =>
      have hL65 : ∀ (x4 : Int32) (x6 : Int32) (s0 : Int32), fX9_lie_65 (fun y0 y1 y2 => fX9_lie_38 v_of x1 x2 x3 n38 y0 y1 y2) v_of x1 x2 x3 x4 x6 s0 = some z → G l D E 7 0 0 (wdX9_lie cI cZ q0 q1 d2 d3 d4 d5 d6 d7 d8 d9 d10 v_of v_sights v_signs v_weddings v_reason v_acts) 65 [(0, .ref q0), (1, .int x1), (2, .int x2), (3, .int x3), (4, .int x4), (6, .int x6)] [.int s0] := by
        intro x4 x6 s0 hF
        rw [fX9_lie_65] at hF
        refine g_istore (np := 67) (lv' := [(5, .int s0), (0, .ref q0), (1, .int x1), (2, .int x2), (3, .int x3), (4, .int x4), (6, .int x6)]) h (by decide) rfl dX9_lie_65 rfl ?_
        refine g_aload_n (np := 68) h 1 rfl rfl dX9_lie_67 rfl ?_
        refine g_iload_n (np := 69) h 2 rfl rfl dX9_lie_68 rfl ?_
        refine g_iload_n (np := 70) h 3 rfl rfl dX9_lie_69 rfl ?_
        refine g_iload (np := 72) h 6 rfl dX9_lie_70 rfl ?_
        obtain ⟨r1001, hr1001, hF⟩ := Option.bind_eq_some_iff.mp hF
        refine g_callV (np := 75) (Wd' := (wdX9_lie cI cZ q0 q1 d2 d3 d4 d5 d6 d7 d8 d9 d10 v_of v_sights v_signs v_weddings v_reason v_acts)) (As := [.int x1, .int x2, .int x6]) h (mX9_sameBy l D cI cZ q0 q1 d2 d3 d4 d5 d6 d7 d8 d9 d10 v_of v_sights v_signs v_weddings v_reason v_acts x1 x2 x6 r1001 hr1001) gcX9_lie_X9_sameBy rfl ⟨rfl, rfl⟩ ⟨rfl, hyX9_sameBy⟩ rfl 9 0 rfl rfl rfl rfl rfl rfl ⟨Nat.zero_le _, Nat.zero_le _⟩ [0, 1] [] (N := 2) (by decide +kernel) rfl rfl rfl rfl rfl dX9_lie_72 rfl ?_
        refine g_iload (np := 77) h 5 rfl dX9_lie_75 rfl ?_
        refine g_icmp_le h hF dX9_lie_77 (np := 80) rfl (tg := 91) rfl (fun c1002 hF => ?_) (fun c1002 hF => ?_)
        · refine g_iload (np := 93) h 5 rfl dX9_lie_91 rfl ?_
          refine g_istore (np := 95) (lv' := [(4, .int x4), (5, .int s0), (0, .ref q0), (1, .int x1), (2, .int x2), (3, .int x3), (6, .int x6)]) h (by decide) rfl dX9_lie_93 rfl ?_
          refine g_iinc (np := 98) (v := (x6 + (1 : Int32))) (lv' := [(6, .int (x6 + (1 : Int32))), (4, .int x4), (5, .int s0), (0, .ref q0), (1, .int x1), (2, .int x2), (3, .int x3)]) h 6 rfl rfl (by decide) rfl dX9_lie_95 rfl ?_
          refine g_goto h dX9_lie_98 (np := 38) rfl ?_
          refine g_lv [3, 4, 5, 6, 1, 2, 0] rfl ?_
          exact ih38 x4 s0 (x6 + (1 : Int32)) hF
        · refine g_aload_n (np := 81) h 1 rfl rfl dX9_lie_80 rfl ?_
          refine g_iload_n (np := 82) h 2 rfl rfl dX9_lie_81 rfl ?_
          refine g_iload_n (np := 83) h 3 rfl rfl dX9_lie_82 rfl ?_
          refine g_iload (np := 85) h 6 rfl dX9_lie_83 rfl ?_
          obtain ⟨r1003, hr1003, hF⟩ := Option.bind_eq_some_iff.mp hF
          refine g_callV (np := 88) (Wd' := (wdX9_lie cI cZ q0 q1 d2 d3 d4 d5 d6 d7 d8 d9 d10 v_of v_sights v_signs v_weddings v_reason v_acts)) (As := [.int x1, .int x2, .int x6]) h (mX9_sameBy l D cI cZ q0 q1 d2 d3 d4 d5 d6 d7 d8 d9 d10 v_of v_sights v_signs v_weddings v_reason v_acts x1 x2 x6 r1003 hr1003) gcX9_lie_X9_sameBy rfl ⟨rfl, rfl⟩ ⟨rfl, hyX9_sameBy⟩ rfl 9 0 rfl rfl rfl rfl rfl rfl ⟨Nat.zero_le _, Nat.zero_le _⟩ [0, 1] [] (N := 2) (by decide +kernel) rfl rfl rfl rfl rfl dX9_lie_85 rfl ?_
          refine g_goto h dX9_lie_88 (np := 93) rfl ?_
          refine g_istore (np := 95) (lv' := [(4, .int r1003), (5, .int s0), (0, .ref q0), (1, .int x1), (2, .int x2), (3, .int x3), (6, .int x6)]) h (by decide) rfl dX9_lie_93 rfl ?_
          refine g_iinc (np := 98) (v := (x6 + (1 : Int32))) (lv' := [(6, .int (x6 + (1 : Int32))), (4, .int r1003), (5, .int s0), (0, .ref q0), (1, .int x1), (2, .int x2), (3, .int x3)]) h 6 rfl rfl (by decide) rfl dX9_lie_95 rfl ?_
          refine g_goto h dX9_lie_98 (np := 38) rfl ?_
          refine g_lv [3, 4, 5, 6, 1, 2, 0] rfl ?_
          exact ih38 r1003 s0 (x6 + (1 : Int32)) hF
      intro x4 x5 x6 hF
      rw [fX9_lie_38] at hF
      refine g_iload (np := 40) h 6 rfl dX9_lie_38 rfl ?_
      refine g_bipush (np := 42) (v := (6 : Int32)) h (by decide) dX9_lie_40 rfl ?_
      refine g_icmp_ge h hF dX9_lie_42 (np := 45) rfl (tg := 101) rfl (fun c2001 hF => ?_) (fun c2001 hF => ?_)
      · refine g_iload_n (np := 102) h 3 rfl rfl dX9_lie_101 rfl ?_
        refine g_if_ne h hF dX9_lie_102 (np := 105) rfl (tg := 110) rfl (fun c2002 hF => ?_) (fun c2002 hF => ?_)
        · refine g_iload (np := 112) h 5 rfl dX9_lie_110 rfl ?_
          refine g_iconst (np := 113) (v := (5 : Int32)) h (by decide) dX9_lie_112 rfl ?_
          refine g_iadd (np := 114) h dX9_lie_113 rfl ?_
          exact hend _ hF _ _ dX9_lie_114
        · refine g_iload (np := 107) h 4 rfl dX9_lie_105 rfl ?_
          refine g_goto h dX9_lie_107 (np := 114) rfl ?_
          exact hend _ hF _ _ dX9_lie_114
      · refine g_aload_n (np := 46) h 0 rfl rfl dX9_lie_45 rfl ?_
        refine g_iload_n (np := 47) h 1 rfl rfl dX9_lie_46 rfl ?_
        refine g_iload_n (np := 48) h 2 rfl rfl dX9_lie_47 rfl ?_
        refine g_iload (np := 50) h 6 rfl dX9_lie_48 rfl ?_
        obtain ⟨r2003, hr2003, hF⟩ := Option.bind_eq_some_iff.mp hF
        refine g_callV (np := 53) (Wd' := (wdX9_lie cI cZ q0 q1 d2 d3 d4 d5 d6 d7 d8 d9 d10 v_of v_sights v_signs v_weddings v_reason v_acts)) (As := [.int x1, .int x2, .int x6]) h (mX9_sameBy l D cI cZ q0 q1 d2 d3 d4 d5 d6 d7 d8 d9 d10 v_of v_sights v_signs v_weddings v_reason v_acts x1 x2 x6 r2003 hr2003) gcX9_lie_X9_sameBy rfl ⟨rfl, rfl⟩ ⟨rfl, hyX9_sameBy⟩ rfl 9 0 rfl rfl rfl rfl rfl rfl ⟨Nat.zero_le _, Nat.zero_le _⟩ [0, 1] [] (N := 2) (by decide +kernel) rfl rfl rfl rfl rfl dX9_lie_50 rfl ?_
        refine g_iload (np := 55) h 4 rfl dX9_lie_53 rfl ?_
        refine g_icmp_le h hF dX9_lie_55 (np := 58) rfl (tg := 63) rfl (fun c2004 hF => ?_) (fun c2004 hF => ?_)
        · refine g_iload (np := 65) h 5 rfl dX9_lie_63 rfl ?_
          refine g_lv [0, 1, 2, 3, 4, 6] rfl ?_
          exact hL65 x4 x6 x5 hF
        · refine g_iload (np := 60) h 6 rfl dX9_lie_58 rfl ?_
          refine g_goto h dX9_lie_60 (np := 65) rfl ?_
          refine g_lv [0, 1, 2, 3, 4, 6] rfl ?_
          exact hL65 x4 x6 x6 hF
  unfold fX9_lie at hF
  refine g_iload_n (np := 1) h 1 rfl rfl dX9_lie_0 rfl ?_
  obtain ⟨r1, hr1, hF⟩ := Option.bind_eq_some_iff.mp hF
  refine g_callS (np := 4) (Wd' := (wdX9_lie cI cZ q0 q1 d2 d3 d4 d5 d6 d7 d8 d9 d10 v_of v_sights v_signs v_weddings v_reason v_acts)) (As := [.int x1]) h (mX9_isPiece l D cI cZ x1 r1 hr1) gcX9_lie_X9_isPiece rfl ⟨rfl, rfl⟩ hyX9_isPiece rfl rfl rfl rfl ⟨Nat.zero_le _, Nat.zero_le _⟩ [] [0, 1] (N := 2) (by decide +kernel) rfl rfl rfl rfl rfl dX9_lie_1 rfl ?_
  refine g_if_eq h hF dX9_lie_4 (np := 7) rfl (tg := 14) rfl (fun c2 hF => ?_) (fun c2 hF => ?_)
  · refine g_iconst (np := 15) (v := (-1 : Int32)) h (by decide) dX9_lie_14 rfl ?_
    exact hend _ hF _ _ dX9_lie_15
  · refine g_iload_n (np := 8) h 2 rfl rfl dX9_lie_7 rfl ?_
    obtain ⟨r3, hr3, hF⟩ := Option.bind_eq_some_iff.mp hF
    refine g_callS (np := 11) (Wd' := (wdX9_lie cI cZ q0 q1 d2 d3 d4 d5 d6 d7 d8 d9 d10 v_of v_sights v_signs v_weddings v_reason v_acts)) (As := [.int x2]) h (mX9_isPiece l D cI cZ x2 r3 hr3) gcX9_lie_X9_isPiece rfl ⟨rfl, rfl⟩ hyX9_isPiece rfl rfl rfl rfl ⟨Nat.zero_le _, Nat.zero_le _⟩ [] [0, 1] (N := 2) (by decide +kernel) rfl rfl rfl rfl rfl dX9_lie_8 rfl ?_
    refine g_if_ne h hF dX9_lie_11 (np := 14) rfl (tg := 16) rfl (fun c4 hF => ?_) (fun c4 hF => ?_)
    · refine g_iload_n (np := 17) h 3 rfl rfl dX9_lie_16 rfl ?_
      refine g_iconst (np := 18) (v := (0 : Int32)) h (by decide) dX9_lie_17 rfl ?_
      refine g_iconst (np := 19) (v := (1 : Int32)) h (by decide) dX9_lie_18 rfl ?_
      obtain ⟨r5, hr5, hF⟩ := Option.bind_eq_some_iff.mp hF
      refine g_callS (np := 22) (Wd' := (wdX9_lie cI cZ q0 q1 d2 d3 d4 d5 d6 d7 d8 d9 d10 v_of v_sights v_signs v_weddings v_reason v_acts)) (As := [.int x3, .int (0 : Int32), .int (1 : Int32)]) h (mX9_in l D cI cZ x3 (0 : Int32) (1 : Int32) r5 hr5) gcX9_lie_X9_in rfl ⟨rfl, rfl⟩ hyX9_in rfl rfl rfl rfl ⟨Nat.zero_le _, Nat.zero_le _⟩ [] [0, 1] (N := 2) (by decide +kernel) rfl rfl rfl rfl rfl dX9_lie_19 rfl ?_
      refine g_if_ne h hF dX9_lie_22 (np := 25) rfl (tg := 28) rfl (fun c6 hF => ?_) (fun c6 hF => ?_)
      · refine g_iconst (np := 29) (v := (-1 : Int32)) h (by decide) dX9_lie_28 rfl ?_
        refine g_istore (np := 31) (lv' := [(4, .int (-1 : Int32)), (0, .ref q0), (1, .int x1), (2, .int x2), (3, .int x3)]) h (by decide) rfl dX9_lie_29 rfl ?_
        refine g_iconst (np := 32) (v := (0 : Int32)) h (by decide) dX9_lie_31 rfl ?_
        refine g_istore (np := 34) (lv' := [(5, .int (0 : Int32)), (4, .int (-1 : Int32)), (0, .ref q0), (1, .int x1), (2, .int x2), (3, .int x3)]) h (by decide) rfl dX9_lie_32 rfl ?_
        refine g_bipush (np := 36) (v := (-5 : Int32)) h (by decide) dX9_lie_34 rfl ?_
        refine g_istore (np := 38) (lv' := [(6, .int (-5 : Int32)), (5, .int (0 : Int32)), (4, .int (-1 : Int32)), (0, .ref q0), (1, .int x1), (2, .int x2), (3, .int x3)]) h (by decide) rfl dX9_lie_36 rfl ?_
        refine g_lv [3, 4, 5, 6, 2, 1, 0] rfl ?_
        exact hL38 _ (-1 : Int32) (0 : Int32) (-5 : Int32) hF
      · refine g_bipush (np := 27) (v := (-2 : Int32)) h (by decide) dX9_lie_25 rfl ?_
        exact hend _ hF _ _ dX9_lie_27
    · refine g_iconst (np := 15) (v := (-1 : Int32)) h (by decide) dX9_lie_14 rfl ?_
      exact hend _ hF _ _ dX9_lie_15
theorem dX9_mayWed_0 : decode cX9_mayWed 0 = .ok (.iload_n 1, 1) := by decide +kernel
theorem dX9_mayWed_1 : decode cX9_mayWed 1 = .ok (.iload_n 2, 1) := by decide +kernel
theorem dX9_mayWed_2 : decode cX9_mayWed 2 = .ok (.if_icmp .eq 55, 3) := by decide +kernel
theorem dX9_mayWed_5 : decode cX9_mayWed 5 = .ok (.aload_n 0, 1) := by decide +kernel
theorem dX9_mayWed_6 : decode cX9_mayWed 6 = .ok (.getfield 7, 3) := by decide +kernel
theorem dX9_mayWed_9 : decode cX9_mayWed 9 = .ok (.bipush 10, 2) := by decide +kernel
theorem dX9_mayWed_11 : decode cX9_mayWed 11 = .ok (.iload_n 1, 1) := by decide +kernel
theorem dX9_mayWed_12 : decode cX9_mayWed 12 = .ok (.iadd, 1) := by decide +kernel
theorem dX9_mayWed_13 : decode cX9_mayWed 13 = .ok (.iaload, 1) := by decide +kernel
theorem dX9_mayWed_14 : decode cX9_mayWed 14 = .ok (.ifCond .lt 43, 3) := by decide +kernel
theorem dX9_mayWed_17 : decode cX9_mayWed 17 = .ok (.aload_n 0, 1) := by decide +kernel
theorem dX9_mayWed_18 : decode cX9_mayWed 18 = .ok (.getfield 7, 3) := by decide +kernel
theorem dX9_mayWed_21 : decode cX9_mayWed 21 = .ok (.bipush 10, 2) := by decide +kernel
theorem dX9_mayWed_23 : decode cX9_mayWed 23 = .ok (.iload_n 2, 1) := by decide +kernel
theorem dX9_mayWed_24 : decode cX9_mayWed 24 = .ok (.iadd, 1) := by decide +kernel
theorem dX9_mayWed_25 : decode cX9_mayWed 25 = .ok (.iaload, 1) := by decide +kernel
theorem dX9_mayWed_26 : decode cX9_mayWed 26 = .ok (.ifCond .lt 31, 3) := by decide +kernel
theorem dX9_mayWed_29 : decode cX9_mayWed 29 = .ok (.aload_n 0, 1) := by decide +kernel
theorem dX9_mayWed_30 : decode cX9_mayWed 30 = .ok (.getfield 7, 3) := by decide +kernel
theorem dX9_mayWed_33 : decode cX9_mayWed 33 = .ok (.bipush 18, 2) := by decide +kernel
theorem dX9_mayWed_35 : decode cX9_mayWed 35 = .ok (.iload_n 1, 1) := by decide +kernel
theorem dX9_mayWed_36 : decode cX9_mayWed 36 = .ok (.iadd, 1) := by decide +kernel
theorem dX9_mayWed_37 : decode cX9_mayWed 37 = .ok (.iaload, 1) := by decide +kernel
theorem dX9_mayWed_38 : decode cX9_mayWed 38 = .ok (.ifCond .ge 19, 3) := by decide +kernel
theorem dX9_mayWed_41 : decode cX9_mayWed 41 = .ok (.aload_n 0, 1) := by decide +kernel
theorem dX9_mayWed_42 : decode cX9_mayWed 42 = .ok (.getfield 7, 3) := by decide +kernel
theorem dX9_mayWed_45 : decode cX9_mayWed 45 = .ok (.bipush 18, 2) := by decide +kernel
theorem dX9_mayWed_47 : decode cX9_mayWed 47 = .ok (.iload_n 2, 1) := by decide +kernel
theorem dX9_mayWed_48 : decode cX9_mayWed 48 = .ok (.iadd, 1) := by decide +kernel
theorem dX9_mayWed_49 : decode cX9_mayWed 49 = .ok (.iaload, 1) := by decide +kernel
theorem dX9_mayWed_50 : decode cX9_mayWed 50 = .ok (.ifCond .ge 7, 3) := by decide +kernel
theorem dX9_mayWed_53 : decode cX9_mayWed 53 = .ok (.iconst 1, 1) := by decide +kernel
theorem dX9_mayWed_54 : decode cX9_mayWed 54 = .ok (.goto 4, 3) := by decide +kernel
theorem dX9_mayWed_57 : decode cX9_mayWed 57 = .ok (.iconst 0, 1) := by decide +kernel
theorem dX9_mayWed_58 : decode cX9_mayWed 58 = .ok (.istore_n 3, 1) := by decide +kernel
theorem dX9_mayWed_59 : decode cX9_mayWed 59 = .ok (.iload_n 3, 1) := by decide +kernel
theorem dX9_mayWed_60 : decode cX9_mayWed 60 = .ok (.ifCond .eq 38, 3) := by decide +kernel
theorem dX9_mayWed_63 : decode cX9_mayWed 63 = .ok (.aload_n 0, 1) := by decide +kernel
theorem dX9_mayWed_64 : decode cX9_mayWed 64 = .ok (.getfield 16, 3) := by decide +kernel
theorem dX9_mayWed_67 : decode cX9_mayWed 67 = .ok (.aload_n 0, 1) := by decide +kernel
theorem dX9_mayWed_68 : decode cX9_mayWed 68 = .ok (.getfield 7, 3) := by decide +kernel
theorem dX9_mayWed_71 : decode cX9_mayWed 71 = .ok (.bipush 10, 2) := by decide +kernel
theorem dX9_mayWed_73 : decode cX9_mayWed 73 = .ok (.iload_n 1, 1) := by decide +kernel
theorem dX9_mayWed_74 : decode cX9_mayWed 74 = .ok (.iadd, 1) := by decide +kernel
theorem dX9_mayWed_75 : decode cX9_mayWed 75 = .ok (.iaload, 1) := by decide +kernel
theorem dX9_mayWed_76 : decode cX9_mayWed 76 = .ok (.iaload, 1) := by decide +kernel
theorem dX9_mayWed_77 : decode cX9_mayWed 77 = .ok (.aload_n 0, 1) := by decide +kernel
theorem dX9_mayWed_78 : decode cX9_mayWed 78 = .ok (.getfield 16, 3) := by decide +kernel
theorem dX9_mayWed_81 : decode cX9_mayWed 81 = .ok (.aload_n 0, 1) := by decide +kernel
theorem dX9_mayWed_82 : decode cX9_mayWed 82 = .ok (.getfield 7, 3) := by decide +kernel
theorem dX9_mayWed_85 : decode cX9_mayWed 85 = .ok (.bipush 10, 2) := by decide +kernel
theorem dX9_mayWed_87 : decode cX9_mayWed 87 = .ok (.iload_n 2, 1) := by decide +kernel
theorem dX9_mayWed_88 : decode cX9_mayWed 88 = .ok (.iadd, 1) := by decide +kernel
theorem dX9_mayWed_89 : decode cX9_mayWed 89 = .ok (.iaload, 1) := by decide +kernel
theorem dX9_mayWed_90 : decode cX9_mayWed 90 = .ok (.iaload, 1) := by decide +kernel
theorem dX9_mayWed_91 : decode cX9_mayWed 91 = .ok (.if_icmp .eq 7, 3) := by decide +kernel
theorem dX9_mayWed_94 : decode cX9_mayWed 94 = .ok (.iconst 1, 1) := by decide +kernel
theorem dX9_mayWed_95 : decode cX9_mayWed 95 = .ok (.goto 4, 3) := by decide +kernel
theorem dX9_mayWed_98 : decode cX9_mayWed 98 = .ok (.iconst 0, 1) := by decide +kernel
theorem dX9_mayWed_99 : decode cX9_mayWed 99 = .ok (.ireturn, 1) := by decide +kernel
def wtX9_mayWed : List Cond := .code yX9_mayWed cX9_mayWed 4 (some .boolean) :: (([.fieldLink RX9 7 "DriftKinModel" "book" "[I", .fieldLink RX9 16 "DriftKinModel" "of" "[I"]) ++ ((u_ws RX9 TX9 15) ++ []))
theorem imX9_mayWed_own : ∀ w ∈ ([.fieldLink RX9 7 "DriftKinModel" "book" "[I", .fieldLink RX9 16 "DriftKinModel" "of" "[I"] : List Cond), w ∈ wtX9_mayWed := fun w h => List.mem_cons_of_mem _ (inl h)
theorem imX9_mayWed_u_X9 : ∀ w ∈ (u_ws RX9 TX9 15 : List Cond), w ∈ wtX9_mayWed := fun w h => List.mem_cons_of_mem _ (inr (inl h))
theorem gdX9_mayWed : ∀ w ∈ wtX9_mayWed, Gd w := gdc rfl (gda (gdl (by decide +kernel)) (gda (gdu _ _ _) gdn))
def fX9_mayWed_58 (v_book : Nat → Int32) (v_of : Nat → Int32) (x1 : Int32) (x2 : Int32) (s0 : Int32) : Option (Int32) :=
  if s0 = (0 : Int32) then
    some (0 : Int32)
  else
    chk ((10 : Int32) + x1) 35 (
      chk (rd v_book ((10 : Int32) + x1)) 60 (
        chk ((10 : Int32) + x2) 35 (
          chk (rd v_book ((10 : Int32) + x2)) 60 (
            if (rd v_of (rd v_book ((10 : Int32) + x1))) = (rd v_of (rd v_book ((10 : Int32) + x2))) then
              some (0 : Int32)
            else
              some (1 : Int32)))))
def fX9_mayWed (v_book : Nat → Int32) (v_of : Nat → Int32) (x1 : Int32) (x2 : Int32) : Option (Int32) :=
  if x1 = x2 then
    fX9_mayWed_58 v_book v_of x1 x2 (0 : Int32)
  else
    chk ((10 : Int32) + x1) 35 (
      if (rd v_book ((10 : Int32) + x1)) < (0 : Int32) then
        fX9_mayWed_58 v_book v_of x1 x2 (0 : Int32)
      else
        chk ((10 : Int32) + x2) 35 (
          if (rd v_book ((10 : Int32) + x2)) < (0 : Int32) then
            fX9_mayWed_58 v_book v_of x1 x2 (0 : Int32)
          else
            chk ((18 : Int32) + x1) 35 (
              if (0 : Int32) ≤ (rd v_book ((18 : Int32) + x1)) then
                fX9_mayWed_58 v_book v_of x1 x2 (0 : Int32)
              else
                chk ((18 : Int32) + x2) 35 (
                  if (0 : Int32) ≤ (rd v_book ((18 : Int32) + x2)) then
                    fX9_mayWed_58 v_book v_of x1 x2 (0 : Int32)
                  else
                    fX9_mayWed_58 v_book v_of x1 x2 (1 : Int32)))))
def wdX9_mayWed (cI cZ : ClassId) (q0 : Nat) (q1 : Nat) (q2 : Nat) (d3 : Nat) (d4 : Nat) (d5 : Nat) (d6 : Nat) (d7 : Nat) (d8 : Nat) (d9 : Nat) (d10 : Nat)  (v_book : Nat → Int32) (v_of : Nat → Int32) (v_sights : Int32) (v_signs : Int32) (v_weddings : Int32) (v_reason : Int32) (v_acts : Int32) : va_W := [(q0, .inr (9, [.ref q1, .ref d3, .ref q2, .int v_sights, .ref d4, .int v_signs, .ref d5, .int v_weddings, .int v_reason, .int v_acts, .ref d6, .ref d7, .ref d8, .ref d9, .ref d10])), (q1, .inl (cI, 35, .inl v_book)), (q2, .inl (cI, 60, .inl v_of))]
abbrev rmX9_mayWed : Jvm.Room := { frames := 0, cells := 0, slots := 0, locals := 0 }
theorem hyX9_mayWed : yX9_mayWed.cls ≠ "java/lang/invoke/MethodHandle" ∧ yX9_mayWed.cls ≠ "java/lang/invoke/VarHandle" ∧ (parseMethodDescriptor yX9_mayWed.desc).map (fun d => d.parameters.length) = some 2 := by decide +kernel
set_option maxHeartbeats 4000000 in
set_option maxRecDepth 100000 in
theorem mX9_mayWed (l : Launch) (D : va_G) (cI cZ : ClassId) (q0 : Nat) (q1 : Nat) (q2 : Nat) (d3 : Nat) (d4 : Nat) (d5 : Nat) (d6 : Nat) (d7 : Nat) (d8 : Nat) (d9 : Nat) (d10 : Nat) (v_book : Nat → Int32) (v_of : Nat → Int32) (v_sights : Int32) (v_signs : Int32) (v_weddings : Int32) (v_reason : Int32) (v_acts : Int32) (x1 : Int32) (x2 : Int32) (z : Int32) (hF : fX9_mayWed v_book v_of x1 x2 = some z) : mp l yX9_mayWed wtX9_mayWed rmX9_mayWed D cI cZ [.ref q0, .int x1, .int x2] (wdX9_mayWed cI cZ q0 q1 q2 d3 d4 d5 d6 d7 d8 d9 d10 v_book v_of v_sights v_signs v_weddings v_reason v_acts) (some (.int z)) (wdX9_mayWed cI cZ q0 q1 q2 d3 d4 d5 d6 d7 d8 d9 d10 v_book v_of v_sights v_signs v_weddings v_reason v_acts) := by
  refine mp_z (lv0 := [(0, .ref q0), (1, .int x1), (2, .int x2)]) cX9_mayWed 4 z (by decide) rfl (Nat.le_of_ble_eq_true rfl) rfl (fun E h hend0 => ?_)
  have hend : ∀ (z' : Int32), some z' = some z → ∀ (pc : Nat) (lv : List (Nat × Value)), z' = z' &&& 1 → decode cX9_mayWed pc = .ok (.ireturn, 1) → G l D E 4 0 0 (wdX9_mayWed cI cZ q0 q1 q2 d3 d4 d5 d6 d7 d8 d9 d10 v_book v_of v_sights v_signs v_weddings v_reason v_acts) pc lv [.int z'] := fun z' e => by cases e; exact hend0
  clear hend0
  have hL58 : ∀ (s0 : Int32), fX9_mayWed_58 v_book v_of x1 x2 s0 = some z → G l D E 4 0 0 (wdX9_mayWed cI cZ q0 q1 q2 d3 d4 d5 d6 d7 d8 d9 d10 v_book v_of v_sights v_signs v_weddings v_reason v_acts) 58 [(0, .ref q0), (1, .int x1), (2, .int x2)] [.int s0] := by
    intro s0 hF
    rw [fX9_mayWed_58] at hF
    refine g_istore_n (np := 59) (lv' := [(3, .int s0), (0, .ref q0), (1, .int x1), (2, .int x2)]) h rfl (by decide) rfl dX9_mayWed_58 rfl ?_
    refine g_iload_n (np := 60) h 0 rfl rfl dX9_mayWed_59 rfl ?_
    refine g_if_eq h hF dX9_mayWed_60 (np := 63) rfl (tg := 98) rfl (fun c1001 hF => ?_) (fun c1001 hF => ?_)
    · refine g_iconst (np := 99) (v := (0 : Int32)) h (by decide) dX9_mayWed_98 rfl ?_
      exact hend _ hF _ _ zb0 dX9_mayWed_99
    · refine g_aload_n (np := 64) h 1 rfl rfl dX9_mayWed_63 rfl ?_
      refine g_get (np := 67) (T := TX9) h imX9_mayWed_u_X9 0 9 rfl rfl 2 (by decide) (imX9_mayWed_own _ (List.mem_of_getElem? (i := 1) rfl)) rfl dX9_mayWed_64 rfl ?_
      refine g_aload_n (np := 68) h 1 rfl rfl dX9_mayWed_67 rfl ?_
      refine g_get (np := 71) (T := TX9) h imX9_mayWed_u_X9 0 9 rfl rfl 0 (by decide) (imX9_mayWed_own _ (List.mem_of_getElem? (i := 0) rfl)) rfl dX9_mayWed_68 rfl ?_
      refine g_bipush (np := 73) (v := (10 : Int32)) h (by decide) dX9_mayWed_71 rfl ?_
      refine g_iload_n (np := 74) h 2 rfl rfl dX9_mayWed_73 rfl ?_
      refine g_iadd (np := 75) h dX9_mayWed_74 rfl ?_
      refine g_iald (np := 76) h 1 rfl hF dX9_mayWed_75 rfl (fun hi1002 hF => ?_)
      refine g_iald (np := 77) h 2 rfl hF dX9_mayWed_76 rfl (fun hi1003 hF => ?_)
      refine g_aload_n (np := 78) h 1 rfl rfl dX9_mayWed_77 rfl ?_
      refine g_get (np := 81) (T := TX9) h imX9_mayWed_u_X9 0 9 rfl rfl 2 (by decide) (imX9_mayWed_own _ (List.mem_of_getElem? (i := 1) rfl)) rfl dX9_mayWed_78 rfl ?_
      refine g_aload_n (np := 82) h 1 rfl rfl dX9_mayWed_81 rfl ?_
      refine g_get (np := 85) (T := TX9) h imX9_mayWed_u_X9 0 9 rfl rfl 0 (by decide) (imX9_mayWed_own _ (List.mem_of_getElem? (i := 0) rfl)) rfl dX9_mayWed_82 rfl ?_
      refine g_bipush (np := 87) (v := (10 : Int32)) h (by decide) dX9_mayWed_85 rfl ?_
      refine g_iload_n (np := 88) h 3 rfl rfl dX9_mayWed_87 rfl ?_
      refine g_iadd (np := 89) h dX9_mayWed_88 rfl ?_
      refine g_iald (np := 90) h 1 rfl hF dX9_mayWed_89 rfl (fun hi1004 hF => ?_)
      refine g_iald (np := 91) h 2 rfl hF dX9_mayWed_90 rfl (fun hi1005 hF => ?_)
      refine g_icmp_eq h hF dX9_mayWed_91 (np := 94) rfl (tg := 98) rfl (fun c1006 hF => ?_) (fun c1006 hF => ?_)
      · refine g_iconst (np := 99) (v := (0 : Int32)) h (by decide) dX9_mayWed_98 rfl ?_
        exact hend _ hF _ _ zb0 dX9_mayWed_99
      · refine g_iconst (np := 95) (v := (1 : Int32)) h (by decide) dX9_mayWed_94 rfl ?_
        refine g_goto h dX9_mayWed_95 (np := 99) rfl ?_
        exact hend _ hF _ _ zb1 dX9_mayWed_99
  unfold fX9_mayWed at hF
  refine g_iload_n (np := 1) h 1 rfl rfl dX9_mayWed_0 rfl ?_
  refine g_iload_n (np := 2) h 2 rfl rfl dX9_mayWed_1 rfl ?_
  refine g_icmp_eq h hF dX9_mayWed_2 (np := 5) rfl (tg := 57) rfl (fun c1 hF => ?_) (fun c1 hF => ?_)
  · refine g_iconst (np := 58) (v := (0 : Int32)) h (by decide) dX9_mayWed_57 rfl ?_
    exact hL58 (0 : Int32) hF
  · refine g_aload_n (np := 6) h 0 rfl rfl dX9_mayWed_5 rfl ?_
    refine g_get (np := 9) (T := TX9) h imX9_mayWed_u_X9 0 9 rfl rfl 0 (by decide) (imX9_mayWed_own _ (List.mem_of_getElem? (i := 0) rfl)) rfl dX9_mayWed_6 rfl ?_
    refine g_bipush (np := 11) (v := (10 : Int32)) h (by decide) dX9_mayWed_9 rfl ?_
    refine g_iload_n (np := 12) h 1 rfl rfl dX9_mayWed_11 rfl ?_
    refine g_iadd (np := 13) h dX9_mayWed_12 rfl ?_
    refine g_iald (np := 14) h 1 rfl hF dX9_mayWed_13 rfl (fun hi2 hF => ?_)
    refine g_if_lt h hF dX9_mayWed_14 (np := 17) rfl (tg := 57) rfl (fun c3 hF => ?_) (fun c3 hF => ?_)
    · refine g_iconst (np := 58) (v := (0 : Int32)) h (by decide) dX9_mayWed_57 rfl ?_
      exact hL58 (0 : Int32) hF
    · refine g_aload_n (np := 18) h 0 rfl rfl dX9_mayWed_17 rfl ?_
      refine g_get (np := 21) (T := TX9) h imX9_mayWed_u_X9 0 9 rfl rfl 0 (by decide) (imX9_mayWed_own _ (List.mem_of_getElem? (i := 0) rfl)) rfl dX9_mayWed_18 rfl ?_
      refine g_bipush (np := 23) (v := (10 : Int32)) h (by decide) dX9_mayWed_21 rfl ?_
      refine g_iload_n (np := 24) h 2 rfl rfl dX9_mayWed_23 rfl ?_
      refine g_iadd (np := 25) h dX9_mayWed_24 rfl ?_
      refine g_iald (np := 26) h 1 rfl hF dX9_mayWed_25 rfl (fun hi4 hF => ?_)
      refine g_if_lt h hF dX9_mayWed_26 (np := 29) rfl (tg := 57) rfl (fun c5 hF => ?_) (fun c5 hF => ?_)
      · refine g_iconst (np := 58) (v := (0 : Int32)) h (by decide) dX9_mayWed_57 rfl ?_
        exact hL58 (0 : Int32) hF
      · refine g_aload_n (np := 30) h 0 rfl rfl dX9_mayWed_29 rfl ?_
        refine g_get (np := 33) (T := TX9) h imX9_mayWed_u_X9 0 9 rfl rfl 0 (by decide) (imX9_mayWed_own _ (List.mem_of_getElem? (i := 0) rfl)) rfl dX9_mayWed_30 rfl ?_
        refine g_bipush (np := 35) (v := (18 : Int32)) h (by decide) dX9_mayWed_33 rfl ?_
        refine g_iload_n (np := 36) h 1 rfl rfl dX9_mayWed_35 rfl ?_
        refine g_iadd (np := 37) h dX9_mayWed_36 rfl ?_
        refine g_iald (np := 38) h 1 rfl hF dX9_mayWed_37 rfl (fun hi6 hF => ?_)
        refine g_if_ge h hF dX9_mayWed_38 (np := 41) rfl (tg := 57) rfl (fun c7 hF => ?_) (fun c7 hF => ?_)
        · refine g_iconst (np := 58) (v := (0 : Int32)) h (by decide) dX9_mayWed_57 rfl ?_
          exact hL58 (0 : Int32) hF
        · refine g_aload_n (np := 42) h 0 rfl rfl dX9_mayWed_41 rfl ?_
          refine g_get (np := 45) (T := TX9) h imX9_mayWed_u_X9 0 9 rfl rfl 0 (by decide) (imX9_mayWed_own _ (List.mem_of_getElem? (i := 0) rfl)) rfl dX9_mayWed_42 rfl ?_
          refine g_bipush (np := 47) (v := (18 : Int32)) h (by decide) dX9_mayWed_45 rfl ?_
          refine g_iload_n (np := 48) h 2 rfl rfl dX9_mayWed_47 rfl ?_
          refine g_iadd (np := 49) h dX9_mayWed_48 rfl ?_
          refine g_iald (np := 50) h 1 rfl hF dX9_mayWed_49 rfl (fun hi8 hF => ?_)
          refine g_if_ge h hF dX9_mayWed_50 (np := 53) rfl (tg := 57) rfl (fun c9 hF => ?_) (fun c9 hF => ?_)
          · refine g_iconst (np := 58) (v := (0 : Int32)) h (by decide) dX9_mayWed_57 rfl ?_
            exact hL58 (0 : Int32) hF
          · refine g_iconst (np := 54) (v := (1 : Int32)) h (by decide) dX9_mayWed_53 rfl ?_
            refine g_goto h dX9_mayWed_54 (np := 58) rfl ?_
            exact hL58 (1 : Int32) hF
theorem dX9_layTwos_0 : decode cX9_layTwos 0 = .ok (.aload_n 0, 1) := by decide +kernel
theorem dX9_layTwos_1 : decode cX9_layTwos 1 = .ok (.getfield 31, 3) := by decide +kernel
theorem dX9_layTwos_4 : decode cX9_layTwos 4 = .ok (.iconst 0, 1) := by decide +kernel
theorem dX9_layTwos_5 : decode cX9_layTwos 5 = .ok (.iconst 0, 1) := by decide +kernel
theorem dX9_layTwos_6 : decode cX9_layTwos 6 = .ok (.iastore, 1) := by decide +kernel
theorem dX9_layTwos_7 : decode cX9_layTwos 7 = .ok (.iconst 1, 1) := by decide +kernel
theorem dX9_layTwos_8 : decode cX9_layTwos 8 = .ok (.istore_n 1, 1) := by decide +kernel
theorem dX9_layTwos_9 : decode cX9_layTwos 9 = .ok (.iload_n 1, 1) := by decide +kernel
theorem dX9_layTwos_10 : decode cX9_layTwos 10 = .ok (.sipush 256, 3) := by decide +kernel
theorem dX9_layTwos_13 : decode cX9_layTwos 13 = .ok (.if_icmp .ge 123, 3) := by decide +kernel
theorem dX9_layTwos_16 : decode cX9_layTwos 16 = .ok (.iconst 0, 1) := by decide +kernel
theorem dX9_layTwos_17 : decode cX9_layTwos 17 = .ok (.istore_n 2, 1) := by decide +kernel
theorem dX9_layTwos_18 : decode cX9_layTwos 18 = .ok (.iload_n 1, 1) := by decide +kernel
theorem dX9_layTwos_19 : decode cX9_layTwos 19 = .ok (.iload_n 2, 1) := by decide +kernel
theorem dX9_layTwos_20 : decode cX9_layTwos 20 = .ok (.invokestatic 109, 3) := by decide +kernel
theorem dX9_layTwos_23 : decode cX9_layTwos 23 = .ok (.ifCond .ne 9, 3) := by decide +kernel
theorem dX9_layTwos_26 : decode cX9_layTwos 26 = .ok (.iinc 2 1, 3) := by decide +kernel
theorem dX9_layTwos_29 : decode cX9_layTwos 29 = .ok (.goto (-11), 3) := by decide +kernel
theorem dX9_layTwos_32 : decode cX9_layTwos 32 = .ok (.iload_n 1, 1) := by decide +kernel
theorem dX9_layTwos_33 : decode cX9_layTwos 33 = .ok (.iconst 1, 1) := by decide +kernel
theorem dX9_layTwos_34 : decode cX9_layTwos 34 = .ok (.iload_n 2, 1) := by decide +kernel
theorem dX9_layTwos_35 : decode cX9_layTwos 35 = .ok (.ishl, 1) := by decide +kernel
theorem dX9_layTwos_36 : decode cX9_layTwos 36 = .ok (.iconst (-1), 1) := by decide +kernel
theorem dX9_layTwos_37 : decode cX9_layTwos 37 = .ok (.ixor, 1) := by decide +kernel
theorem dX9_layTwos_38 : decode cX9_layTwos 38 = .ok (.iand, 1) := by decide +kernel
theorem dX9_layTwos_39 : decode cX9_layTwos 39 = .ok (.istore_n 3, 1) := by decide +kernel
theorem dX9_layTwos_40 : decode cX9_layTwos 40 = .ok (.aload_n 0, 1) := by decide +kernel
theorem dX9_layTwos_41 : decode cX9_layTwos 41 = .ok (.getfield 31, 3) := by decide +kernel
theorem dX9_layTwos_44 : decode cX9_layTwos 44 = .ok (.iload_n 3, 1) := by decide +kernel
theorem dX9_layTwos_45 : decode cX9_layTwos 45 = .ok (.iaload, 1) := by decide +kernel
theorem dX9_layTwos_46 : decode cX9_layTwos 46 = .ok (.istore 4, 2) := by decide +kernel
theorem dX9_layTwos_48 : decode cX9_layTwos 48 = .ok (.iload_n 2, 1) := by decide +kernel
theorem dX9_layTwos_49 : decode cX9_layTwos 49 = .ok (.iconst 1, 1) := by decide +kernel
theorem dX9_layTwos_50 : decode cX9_layTwos 50 = .ok (.iadd, 1) := by decide +kernel
theorem dX9_layTwos_51 : decode cX9_layTwos 51 = .ok (.istore 5, 2) := by decide +kernel
theorem dX9_layTwos_53 : decode cX9_layTwos 53 = .ok (.iload 5, 2) := by decide +kernel
theorem dX9_layTwos_55 : decode cX9_layTwos 55 = .ok (.bipush 8, 2) := by decide +kernel
theorem dX9_layTwos_57 : decode cX9_layTwos 57 = .ok (.if_icmp .ge 65, 3) := by decide +kernel
theorem dX9_layTwos_60 : decode cX9_layTwos 60 = .ok (.iload_n 3, 1) := by decide +kernel
theorem dX9_layTwos_61 : decode cX9_layTwos 61 = .ok (.iload 5, 2) := by decide +kernel
theorem dX9_layTwos_63 : decode cX9_layTwos 63 = .ok (.invokestatic 109, 3) := by decide +kernel
theorem dX9_layTwos_66 : decode cX9_layTwos 66 = .ok (.ifCond .eq 50, 3) := by decide +kernel
theorem dX9_layTwos_69 : decode cX9_layTwos 69 = .ok (.aload_n 0, 1) := by decide +kernel
theorem dX9_layTwos_70 : decode cX9_layTwos 70 = .ok (.iload_n 2, 1) := by decide +kernel
theorem dX9_layTwos_71 : decode cX9_layTwos 71 = .ok (.iload 5, 2) := by decide +kernel
theorem dX9_layTwos_73 : decode cX9_layTwos 73 = .ok (.invokevirtual 126, 3) := by decide +kernel
theorem dX9_layTwos_76 : decode cX9_layTwos 76 = .ok (.ifCond .eq 40, 3) := by decide +kernel
theorem dX9_layTwos_79 : decode cX9_layTwos 79 = .ok (.aload_n 0, 1) := by decide +kernel
theorem dX9_layTwos_80 : decode cX9_layTwos 80 = .ok (.getfield 31, 3) := by decide +kernel
theorem dX9_layTwos_83 : decode cX9_layTwos 83 = .ok (.iload_n 3, 1) := by decide +kernel
theorem dX9_layTwos_84 : decode cX9_layTwos 84 = .ok (.iconst 1, 1) := by decide +kernel
theorem dX9_layTwos_85 : decode cX9_layTwos 85 = .ok (.iload 5, 2) := by decide +kernel
theorem dX9_layTwos_87 : decode cX9_layTwos 87 = .ok (.ishl, 1) := by decide +kernel
theorem dX9_layTwos_88 : decode cX9_layTwos 88 = .ok (.iconst (-1), 1) := by decide +kernel
theorem dX9_layTwos_89 : decode cX9_layTwos 89 = .ok (.ixor, 1) := by decide +kernel
theorem dX9_layTwos_90 : decode cX9_layTwos 90 = .ok (.iand, 1) := by decide +kernel
theorem dX9_layTwos_91 : decode cX9_layTwos 91 = .ok (.iaload, 1) := by decide +kernel
theorem dX9_layTwos_92 : decode cX9_layTwos 92 = .ok (.iconst 1, 1) := by decide +kernel
theorem dX9_layTwos_93 : decode cX9_layTwos 93 = .ok (.iadd, 1) := by decide +kernel
theorem dX9_layTwos_94 : decode cX9_layTwos 94 = .ok (.iload 4, 2) := by decide +kernel
theorem dX9_layTwos_96 : decode cX9_layTwos 96 = .ok (.if_icmp .le 20, 3) := by decide +kernel
theorem dX9_layTwos_99 : decode cX9_layTwos 99 = .ok (.aload_n 0, 1) := by decide +kernel
theorem dX9_layTwos_100 : decode cX9_layTwos 100 = .ok (.getfield 31, 3) := by decide +kernel
theorem dX9_layTwos_103 : decode cX9_layTwos 103 = .ok (.iload_n 3, 1) := by decide +kernel
theorem dX9_layTwos_104 : decode cX9_layTwos 104 = .ok (.iconst 1, 1) := by decide +kernel
theorem dX9_layTwos_105 : decode cX9_layTwos 105 = .ok (.iload 5, 2) := by decide +kernel
theorem dX9_layTwos_107 : decode cX9_layTwos 107 = .ok (.ishl, 1) := by decide +kernel
theorem dX9_layTwos_108 : decode cX9_layTwos 108 = .ok (.iconst (-1), 1) := by decide +kernel
theorem dX9_layTwos_109 : decode cX9_layTwos 109 = .ok (.ixor, 1) := by decide +kernel
theorem dX9_layTwos_110 : decode cX9_layTwos 110 = .ok (.iand, 1) := by decide +kernel
theorem dX9_layTwos_111 : decode cX9_layTwos 111 = .ok (.iaload, 1) := by decide +kernel
theorem dX9_layTwos_112 : decode cX9_layTwos 112 = .ok (.iconst 1, 1) := by decide +kernel
theorem dX9_layTwos_113 : decode cX9_layTwos 113 = .ok (.iadd, 1) := by decide +kernel
theorem dX9_layTwos_114 : decode cX9_layTwos 114 = .ok (.istore 4, 2) := by decide +kernel
theorem dX9_layTwos_116 : decode cX9_layTwos 116 = .ok (.iinc 5 1, 3) := by decide +kernel
theorem dX9_layTwos_119 : decode cX9_layTwos 119 = .ok (.goto (-66), 3) := by decide +kernel
theorem dX9_layTwos_122 : decode cX9_layTwos 122 = .ok (.aload_n 0, 1) := by decide +kernel
theorem dX9_layTwos_123 : decode cX9_layTwos 123 = .ok (.getfield 31, 3) := by decide +kernel
theorem dX9_layTwos_126 : decode cX9_layTwos 126 = .ok (.iload_n 1, 1) := by decide +kernel
theorem dX9_layTwos_127 : decode cX9_layTwos 127 = .ok (.iload 4, 2) := by decide +kernel
theorem dX9_layTwos_129 : decode cX9_layTwos 129 = .ok (.iastore, 1) := by decide +kernel
theorem dX9_layTwos_130 : decode cX9_layTwos 130 = .ok (.iinc 1 1, 3) := by decide +kernel
theorem dX9_layTwos_133 : decode cX9_layTwos 133 = .ok (.goto (-124), 3) := by decide +kernel
theorem dX9_layTwos_136 : decode cX9_layTwos 136 = .ok (.return_, 1) := by decide +kernel
def wtX9_layTwos : List Cond := .code yX9_layTwos cX9_layTwos 6 none :: (([.fieldLink RX9 31 "DriftKinModel" "twos" "[I"]) ++ ((u_ws RX9 TX9 15) ++ ((va_wsS RX9 109 yX9_has wtX9_has) ++ ((wsV RX9 126 RX9 yX9_mayWed wtX9_mayWed) ++ []))))
theorem imX9_layTwos_own : ∀ w ∈ ([.fieldLink RX9 31 "DriftKinModel" "twos" "[I"] : List Cond), w ∈ wtX9_layTwos := fun w h => List.mem_cons_of_mem _ (inl h)
theorem imX9_layTwos_u_X9 : ∀ w ∈ (u_ws RX9 TX9 15 : List Cond), w ∈ wtX9_layTwos := fun w h => List.mem_cons_of_mem _ (inr (inl h))
theorem imX9_layTwos_c_X9_has : ∀ w ∈ (va_wsS RX9 109 yX9_has wtX9_has : List Cond), w ∈ wtX9_layTwos := fun w h => List.mem_cons_of_mem _ (inr (inr (inl h)))
theorem imX9_layTwos_c_X9_mayWed : ∀ w ∈ (wsV RX9 126 RX9 yX9_mayWed wtX9_mayWed : List Cond), w ∈ wtX9_layTwos := fun w h => List.mem_cons_of_mem _ (inr (inr (inr (inl h))))
theorem gdX9_layTwos : ∀ w ∈ wtX9_layTwos, Gd w := gdc rfl (gda (gdl (by decide +kernel)) (gda (gdu _ _ _) (gda (gda (gdl (by decide +kernel)) gdX9_has) (gda (gda (gdl (by decide +kernel)) gdX9_mayWed) gdn))))
theorem gcX9_layTwos_X9_has : GoodIn wtX9_layTwos (va_wsS RX9 109 yX9_has wtX9_has) := fun w h => ⟨imX9_layTwos_c_X9_has w h, (gda (gdl (by decide +kernel)) gdX9_has) w h⟩
theorem gcX9_layTwos_X9_mayWed : GoodIn wtX9_layTwos (wsV RX9 126 RX9 yX9_mayWed wtX9_mayWed) := fun w h => ⟨imX9_layTwos_c_X9_mayWed w h, (gda (gdl (by decide +kernel)) gdX9_mayWed) w h⟩
def fX9_layTwos_53 (k9 : (Nat → Int32) → Int32 → Option ((Nat → Int32))) (v_book : Nat → Int32) (v_of : Nat → Int32) (v_twos : Nat → Int32) (x1 : Int32) (x2 : Int32) (x3 : Int32) : Nat → Int32 → Int32 → Option ((Nat → Int32))
  | 0, _, _ => none
  | n + 1, x4, x5 =>
    if (8 : Int32) ≤ x5 then
      chk x1 256 (
        k9 (wr v_twos x1 x4) (x1 + (1 : Int32)))
    else
      (fX9_has x3 x5).bind (fun r1003 =>
        if r1003 = (0 : Int32) then
          fX9_layTwos_53 k9 v_book v_of v_twos x1 x2 x3 n x4 (x5 + (1 : Int32))
        else
          (fX9_mayWed v_book v_of x2 x5).bind (fun r1005 =>
            if r1005 = (0 : Int32) then
              fX9_layTwos_53 k9 v_book v_of v_twos x1 x2 x3 n x4 (x5 + (1 : Int32))
            else
              chk (x3 &&& ((jshl (1 : Int32) x5) ^^^ (-1 : Int32))) 256 (
                bnd ((rd v_twos (x3 &&& ((jshl (1 : Int32) x5) ^^^ (-1 : Int32)))) + (1 : Int32)) (fun t1008 =>
                  if t1008 ≤ x4 then
                    fX9_layTwos_53 k9 v_book v_of v_twos x1 x2 x3 n x4 (x5 + (1 : Int32))
                  else
                    chk (x3 &&& ((jshl (1 : Int32) x5) ^^^ (-1 : Int32))) 256 (
                      bnd ((rd v_twos (x3 &&& ((jshl (1 : Int32) x5) ^^^ (-1 : Int32)))) + (1 : Int32)) (fun t1011 =>
                        fX9_layTwos_53 k9 v_book v_of v_twos x1 x2 x3 n t1011 (x5 + (1 : Int32))))))))
def fX9_layTwos_18 (k9 : (Nat → Int32) → Int32 → Option ((Nat → Int32))) (v_book : Nat → Int32) (v_of : Nat → Int32) (v_twos : Nat → Int32) (x1 : Int32) : Nat → Int32 → Option ((Nat → Int32))
  | 0, _ => none
  | n + 1, x2 =>
    (fX9_has x1 x2).bind (fun r2001 =>
      if r2001 = (0 : Int32) then
        fX9_layTwos_18 k9 v_book v_of v_twos x1 n (x2 + (1 : Int32))
      else
        chk (x1 &&& ((jshl (1 : Int32) x2) ^^^ (-1 : Int32))) 256 (
          fX9_layTwos_53 k9 v_book v_of v_twos x1 x2 (x1 &&& ((jshl (1 : Int32) x2) ^^^ (-1 : Int32))) 2000 (rd v_twos (x1 &&& ((jshl (1 : Int32) x2) ^^^ (-1 : Int32)))) (x2 + (1 : Int32))))
def fX9_layTwos_9 (v_book : Nat → Int32) (v_of : Nat → Int32) : Nat → (Nat → Int32) → Int32 → Option ((Nat → Int32))
  | 0, _, _ => none
  | n + 1, v_twos, x1 =>
    if (256 : Int32) ≤ x1 then
      some v_twos
    else
      fX9_layTwos_18 (fun y0 y1 => fX9_layTwos_9 v_book v_of n y0 y1) v_book v_of v_twos x1 2000 (0 : Int32)
def fX9_layTwos (v_book : Nat → Int32) (v_of : Nat → Int32) (v_twos : Nat → Int32) : Option ((Nat → Int32)) :=
  chk (0 : Int32) 256 (
    fX9_layTwos_9 v_book v_of 2000 (wr v_twos (0 : Int32) (0 : Int32)) (1 : Int32))
def wdX9_layTwos (cI cZ : ClassId) (q0 : Nat) (q1 : Nat) (q2 : Nat) (q3 : Nat) (d4 : Nat) (d5 : Nat) (d6 : Nat) (d7 : Nat) (d8 : Nat) (d9 : Nat) (d10 : Nat)  (v_book : Nat → Int32) (v_of : Nat → Int32) (v_twos : Nat → Int32) (v_sights : Int32) (v_signs : Int32) (v_weddings : Int32) (v_reason : Int32) (v_acts : Int32) : va_W := [(q0, .inr (9, [.ref q1, .ref d4, .ref q2, .int v_sights, .ref d5, .int v_signs, .ref d6, .int v_weddings, .int v_reason, .int v_acts, .ref d7, .ref d8, .ref q3, .ref d9, .ref d10])), (q1, .inl (cI, 35, .inl v_book)), (q2, .inl (cI, 60, .inl v_of)), (q3, .inl (cI, 256, .inl v_twos))]
abbrev rmX9_layTwos : Jvm.Room := { frames := 1, cells := 0, slots := 0, locals := 23 }
theorem hyX9_layTwos : yX9_layTwos.cls ≠ "java/lang/invoke/MethodHandle" ∧ yX9_layTwos.cls ≠ "java/lang/invoke/VarHandle" ∧ (parseMethodDescriptor yX9_layTwos.desc).map (fun d => d.parameters.length) = some 0 := by decide +kernel
set_option maxHeartbeats 4000000 in
set_option maxRecDepth 100000 in
theorem mX9_layTwos (l : Launch) (D : va_G) (cI cZ : ClassId) (q0 : Nat) (q1 : Nat) (q2 : Nat) (q3 : Nat) (d4 : Nat) (d5 : Nat) (d6 : Nat) (d7 : Nat) (d8 : Nat) (d9 : Nat) (d10 : Nat) (v_book : Nat → Int32) (v_of : Nat → Int32) (v_twos : Nat → Int32) (v_sights : Int32) (v_signs : Int32) (v_weddings : Int32) (v_reason : Int32) (v_acts : Int32) (z : (Nat → Int32)) (hF : fX9_layTwos v_book v_of v_twos = some z) : mp l yX9_layTwos wtX9_layTwos rmX9_layTwos D cI cZ [.ref q0] (wdX9_layTwos cI cZ q0 q1 q2 q3 d4 d5 d6 d7 d8 d9 d10 v_book v_of v_twos v_sights v_signs v_weddings v_reason v_acts) none (wdX9_layTwos cI cZ q0 q1 q2 q3 d4 d5 d6 d7 d8 d9 d10 v_book v_of z v_sights v_signs v_weddings v_reason v_acts) := by
  refine mp_v (lv0 := [(0, .ref q0)]) cX9_layTwos 6 (by decide) rfl (Nat.le_of_ble_eq_true rfl) rfl (fun E h hend0 => ?_)
  have hend : ∀ (z' : (Nat → Int32)), some z' = some z → ∀ (pc : Nat) (lv : List (Nat × Value)), decode cX9_layTwos pc = .ok (.return_, 1) → G l D E 6 0 0 (wdX9_layTwos cI cZ q0 q1 q2 q3 d4 d5 d6 d7 d8 d9 d10 v_book v_of (z') v_sights v_signs v_weddings v_reason v_acts) pc lv [] := fun z' e => by cases e; exact hend0
  clear hend0
  have hL9 : ∀ (n9 : Nat) (v_twos : Nat → Int32) (x1 : Int32), fX9_layTwos_9 v_book v_of n9 v_twos x1 = some z → G l D E 6 0 0 (wdX9_layTwos cI cZ q0 q1 q2 q3 d4 d5 d6 d7 d8 d9 d10 v_book v_of v_twos v_sights v_signs v_weddings v_reason v_acts) 9 [(0, .ref q0), (1, .int x1)] [] := by
    intro n9
    induction n9 with
    | zero =>
      intro v_twos x1 hF
      rw [fX9_layTwos_9] at hF
      cases hF
    | succ n9 ih9 =>
      have hL53 : ∀ (n53 : Nat) (v_twos : Nat → Int32) (x1 : Int32) (x2 : Int32) (x3 : Int32) (x4 : Int32) (x5 : Int32), fX9_layTwos_53 (fun y0 y1 => fX9_layTwos_9 v_book v_of n9 y0 y1) v_book v_of v_twos x1 x2 x3 n53 x4 x5 = some z → G l D E 6 0 0 (wdX9_layTwos cI cZ q0 q1 q2 q3 d4 d5 d6 d7 d8 d9 d10 v_book v_of v_twos v_sights v_signs v_weddings v_reason v_acts) 53 [(0, .ref q0), (1, .int x1), (2, .int x2), (3, .int x3), (4, .int x4), (5, .int x5)] [] := by
        intro n53
        induction n53 with
        | zero =>
          intro v_twos x1 x2 x3 x4 x5 hF
          rw [fX9_layTwos_53] at hF
          cases hF
        | succ n53 ih53 =>
          intro v_twos x1 x2 x3 x4 x5 hF
          rw [fX9_layTwos_53] at hF
          refine g_iload (np := 55) h 5 rfl dX9_layTwos_53 rfl ?_
          refine g_bipush (np := 57) (v := (8 : Int32)) h (by decide) dX9_layTwos_55 rfl ?_
          refine g_icmp_ge h hF dX9_layTwos_57 (np := 60) rfl (tg := 122) rfl (fun c1001 hF => ?_) (fun c1001 hF => ?_)
          · refine g_aload_n (np := 123) h 0 rfl rfl dX9_layTwos_122 rfl ?_
            refine g_get (np := 126) (T := TX9) h imX9_layTwos_u_X9 0 9 rfl rfl 12 (by decide) (imX9_layTwos_own _ (List.mem_of_getElem? (i := 0) rfl)) rfl dX9_layTwos_123 rfl ?_
            refine g_iload_n (np := 127) h 1 rfl rfl dX9_layTwos_126 rfl ?_
            refine g_iload (np := 129) h 4 rfl dX9_layTwos_127 rfl ?_
            refine g_iast (np := 130) (Wd' := (wdX9_layTwos cI cZ q0 q1 q2 q3 d4 d5 d6 d7 d8 d9 d10 v_book v_of (wr v_twos x1 x4) v_sights v_signs v_weddings v_reason v_acts)) h 3 rfl hF rfl dX9_layTwos_129 rfl (fun hi1002 hF => ?_)
            refine g_iinc (np := 133) (v := (x1 + (1 : Int32))) (lv' := [(1, .int (x1 + (1 : Int32))), (0, .ref q0), (2, .int x2), (3, .int x3), (4, .int x4), (5, .int x5)]) h 1 rfl rfl (by decide) rfl dX9_layTwos_130 rfl ?_
            refine g_goto h dX9_layTwos_133 (np := 9) rfl ?_
            refine g_lv [1, 0] rfl ?_
            exact ih9 (wr v_twos x1 x4) (x1 + (1 : Int32)) hF
          · refine g_iload_n (np := 61) h 3 rfl rfl dX9_layTwos_60 rfl ?_
            refine g_iload (np := 63) h 5 rfl dX9_layTwos_61 rfl ?_
            obtain ⟨r1003, hr1003, hF⟩ := Option.bind_eq_some_iff.mp hF
            refine g_callS (np := 66) (Wd' := (wdX9_layTwos cI cZ q0 q1 q2 q3 d4 d5 d6 d7 d8 d9 d10 v_book v_of v_twos v_sights v_signs v_weddings v_reason v_acts)) (As := [.int x3, .int x5]) h (mX9_has l D cI cZ x3 x5 r1003 hr1003) gcX9_layTwos_X9_has rfl ⟨rfl, rfl⟩ hyX9_has rfl rfl rfl rfl ⟨Nat.zero_le _, Nat.zero_le _⟩ [] [0, 1, 2, 3] (N := 4) (by decide +kernel) rfl rfl rfl rfl rfl dX9_layTwos_63 rfl ?_
            refine g_if_eq h hF dX9_layTwos_66 (np := 69) rfl (tg := 116) rfl (fun c1004 hF => ?_) (fun c1004 hF => ?_)
            · refine g_iinc (np := 119) (v := (x5 + (1 : Int32))) (lv' := [(5, .int (x5 + (1 : Int32))), (0, .ref q0), (1, .int x1), (2, .int x2), (3, .int x3), (4, .int x4)]) h 5 rfl rfl (by decide) rfl dX9_layTwos_116 rfl ?_
              refine g_goto h dX9_layTwos_119 (np := 53) rfl ?_
              refine g_lv [1, 2, 3, 4, 5, 0] rfl ?_
              exact ih53 v_twos x1 x2 x3 x4 (x5 + (1 : Int32)) hF
            · refine g_aload_n (np := 70) h 0 rfl rfl dX9_layTwos_69 rfl ?_
              refine g_iload_n (np := 71) h 2 rfl rfl dX9_layTwos_70 rfl ?_
              refine g_iload (np := 73) h 5 rfl dX9_layTwos_71 rfl ?_
              obtain ⟨r1005, hr1005, hF⟩ := Option.bind_eq_some_iff.mp hF
              refine g_callV (np := 76) (Wd' := (wdX9_layTwos cI cZ q0 q1 q2 q3 d4 d5 d6 d7 d8 d9 d10 v_book v_of v_twos v_sights v_signs v_weddings v_reason v_acts)) (As := [.int x2, .int x5]) h (mX9_mayWed l D cI cZ q0 q1 q2 d4 d5 d6 d7 d8 q3 d9 d10 v_book v_of v_sights v_signs v_weddings v_reason v_acts x2 x5 r1005 hr1005) gcX9_layTwos_X9_mayWed rfl ⟨rfl, rfl⟩ ⟨rfl, hyX9_mayWed⟩ rfl 9 0 rfl rfl rfl rfl rfl rfl ⟨Nat.zero_le _, Nat.zero_le _⟩ [0, 1, 2] [3] (N := 4) (by decide +kernel) rfl rfl rfl rfl rfl dX9_layTwos_73 rfl ?_
              refine g_if_eq h hF dX9_layTwos_76 (np := 79) rfl (tg := 116) rfl (fun c1006 hF => ?_) (fun c1006 hF => ?_)
              · refine g_iinc (np := 119) (v := (x5 + (1 : Int32))) (lv' := [(5, .int (x5 + (1 : Int32))), (0, .ref q0), (1, .int x1), (2, .int x2), (3, .int x3), (4, .int x4)]) h 5 rfl rfl (by decide) rfl dX9_layTwos_116 rfl ?_
                refine g_goto h dX9_layTwos_119 (np := 53) rfl ?_
                refine g_lv [1, 2, 3, 4, 5, 0] rfl ?_
                exact ih53 v_twos x1 x2 x3 x4 (x5 + (1 : Int32)) hF
              · refine g_aload_n (np := 80) h 0 rfl rfl dX9_layTwos_79 rfl ?_
                refine g_get (np := 83) (T := TX9) h imX9_layTwos_u_X9 0 9 rfl rfl 12 (by decide) (imX9_layTwos_own _ (List.mem_of_getElem? (i := 0) rfl)) rfl dX9_layTwos_80 rfl ?_
                refine g_iload_n (np := 84) h 3 rfl rfl dX9_layTwos_83 rfl ?_
                refine g_iconst (np := 85) (v := (1 : Int32)) h (by decide) dX9_layTwos_84 rfl ?_
                refine g_iload (np := 87) h 5 rfl dX9_layTwos_85 rfl ?_
                refine g_ishl (np := 88) h dX9_layTwos_87 rfl ?_
                refine g_iconst (np := 89) (v := (-1 : Int32)) h (by decide) dX9_layTwos_88 rfl ?_
                refine g_ixor (np := 90) h dX9_layTwos_89 rfl ?_
                refine g_iand (np := 91) h dX9_layTwos_90 rfl ?_
                refine g_iald (np := 92) h 3 rfl hF dX9_layTwos_91 rfl (fun hi1007 hF => ?_)
                refine g_iconst (np := 93) (v := (1 : Int32)) h (by decide) dX9_layTwos_92 rfl ?_
                refine g_iadd (np := 94) h dX9_layTwos_93 rfl ?_
                refine g_top hF (fun t1008 et1008 hF => ?_)
                refine g_iload (np := 96) h 4 rfl dX9_layTwos_94 rfl ?_
                refine g_icmp_le h hF dX9_layTwos_96 (np := 99) rfl (tg := 116) rfl (fun c1009 hF => ?_) (fun c1009 hF => ?_)
                · refine g_iinc (np := 119) (v := (x5 + (1 : Int32))) (lv' := [(5, .int (x5 + (1 : Int32))), (0, .ref q0), (1, .int x1), (2, .int x2), (3, .int x3), (4, .int x4)]) h 5 rfl rfl (by decide) rfl dX9_layTwos_116 rfl ?_
                  refine g_goto h dX9_layTwos_119 (np := 53) rfl ?_
                  refine g_lv [1, 2, 3, 4, 5, 0] rfl ?_
                  exact ih53 v_twos x1 x2 x3 x4 (x5 + (1 : Int32)) hF
                · refine g_aload_n (np := 100) h 0 rfl rfl dX9_layTwos_99 rfl ?_
                  refine g_get (np := 103) (T := TX9) h imX9_layTwos_u_X9 0 9 rfl rfl 12 (by decide) (imX9_layTwos_own _ (List.mem_of_getElem? (i := 0) rfl)) rfl dX9_layTwos_100 rfl ?_
                  refine g_iload_n (np := 104) h 3 rfl rfl dX9_layTwos_103 rfl ?_
                  refine g_iconst (np := 105) (v := (1 : Int32)) h (by decide) dX9_layTwos_104 rfl ?_
                  refine g_iload (np := 107) h 5 rfl dX9_layTwos_105 rfl ?_
                  refine g_ishl (np := 108) h dX9_layTwos_107 rfl ?_
                  refine g_iconst (np := 109) (v := (-1 : Int32)) h (by decide) dX9_layTwos_108 rfl ?_
                  refine g_ixor (np := 110) h dX9_layTwos_109 rfl ?_
                  refine g_iand (np := 111) h dX9_layTwos_110 rfl ?_
                  refine g_iald (np := 112) h 3 rfl hF dX9_layTwos_111 rfl (fun hi1010 hF => ?_)
                  refine g_iconst (np := 113) (v := (1 : Int32)) h (by decide) dX9_layTwos_112 rfl ?_
                  refine g_iadd (np := 114) h dX9_layTwos_113 rfl ?_
                  refine g_top hF (fun t1011 et1011 hF => ?_)
                  refine g_istore (np := 116) (lv' := [(4, .int t1011), (0, .ref q0), (1, .int x1), (2, .int x2), (3, .int x3), (5, .int x5)]) h (by decide) rfl dX9_layTwos_114 rfl ?_
                  refine g_iinc (np := 119) (v := (x5 + (1 : Int32))) (lv' := [(5, .int (x5 + (1 : Int32))), (4, .int t1011), (0, .ref q0), (1, .int x1), (2, .int x2), (3, .int x3)]) h 5 rfl rfl (by decide) rfl dX9_layTwos_116 rfl ?_
                  refine g_goto h dX9_layTwos_119 (np := 53) rfl ?_
                  refine g_lv [2, 3, 4, 5, 1, 0] rfl ?_
                  exact ih53 v_twos x1 x2 x3 t1011 (x5 + (1 : Int32)) hF
      have hL18 : ∀ (n18 : Nat) (v_twos : Nat → Int32) (x1 : Int32) (x2 : Int32), fX9_layTwos_18 (fun y0 y1 => fX9_layTwos_9 v_book v_of n9 y0 y1) v_book v_of v_twos x1 n18 x2 = some z → G l D E 6 0 0 (wdX9_layTwos cI cZ q0 q1 q2 q3 d4 d5 d6 d7 d8 d9 d10 v_book v_of v_twos v_sights v_signs v_weddings v_reason v_acts) 18 [(0, .ref q0), (1, .int x1), (2, .int x2)] [] := by
        intro n18
        induction n18 with
        | zero =>
          intro v_twos x1 x2 hF
          rw [fX9_layTwos_18] at hF
          cases hF
        | succ n18 ih18 =>
          intro v_twos x1 x2 hF
          rw [fX9_layTwos_18] at hF
          refine g_iload_n (np := 19) h 1 rfl rfl dX9_layTwos_18 rfl ?_
          refine g_iload_n (np := 20) h 2 rfl rfl dX9_layTwos_19 rfl ?_
          obtain ⟨r2001, hr2001, hF⟩ := Option.bind_eq_some_iff.mp hF
          refine g_callS (np := 23) (Wd' := (wdX9_layTwos cI cZ q0 q1 q2 q3 d4 d5 d6 d7 d8 d9 d10 v_book v_of v_twos v_sights v_signs v_weddings v_reason v_acts)) (As := [.int x1, .int x2]) h (mX9_has l D cI cZ x1 x2 r2001 hr2001) gcX9_layTwos_X9_has rfl ⟨rfl, rfl⟩ hyX9_has rfl rfl rfl rfl ⟨Nat.zero_le _, Nat.zero_le _⟩ [] [0, 1, 2, 3] (N := 4) (by decide +kernel) rfl rfl rfl rfl rfl dX9_layTwos_20 rfl ?_
          refine g_if_ne h hF dX9_layTwos_23 (np := 26) rfl (tg := 32) rfl (fun c2002 hF => ?_) (fun c2002 hF => ?_)
          · refine g_iload_n (np := 33) h 1 rfl rfl dX9_layTwos_32 rfl ?_
            refine g_iconst (np := 34) (v := (1 : Int32)) h (by decide) dX9_layTwos_33 rfl ?_
            refine g_iload_n (np := 35) h 2 rfl rfl dX9_layTwos_34 rfl ?_
            refine g_ishl (np := 36) h dX9_layTwos_35 rfl ?_
            refine g_iconst (np := 37) (v := (-1 : Int32)) h (by decide) dX9_layTwos_36 rfl ?_
            refine g_ixor (np := 38) h dX9_layTwos_37 rfl ?_
            refine g_iand (np := 39) h dX9_layTwos_38 rfl ?_
            refine g_istore_n (np := 40) (lv' := [(3, .int (x1 &&& ((jshl (1 : Int32) x2) ^^^ (-1 : Int32)))), (0, .ref q0), (1, .int x1), (2, .int x2)]) h rfl (by decide) rfl dX9_layTwos_39 rfl ?_
            refine g_aload_n (np := 41) h 1 rfl rfl dX9_layTwos_40 rfl ?_
            refine g_get (np := 44) (T := TX9) h imX9_layTwos_u_X9 0 9 rfl rfl 12 (by decide) (imX9_layTwos_own _ (List.mem_of_getElem? (i := 0) rfl)) rfl dX9_layTwos_41 rfl ?_
            refine g_iload_n (np := 45) h 0 rfl rfl dX9_layTwos_44 rfl ?_
            refine g_iald (np := 46) h 3 rfl hF dX9_layTwos_45 rfl (fun hi2003 hF => ?_)
            refine g_istore (np := 48) (lv' := [(4, .int (rd v_twos (x1 &&& ((jshl (1 : Int32) x2) ^^^ (-1 : Int32))))), (3, .int (x1 &&& ((jshl (1 : Int32) x2) ^^^ (-1 : Int32)))), (0, .ref q0), (1, .int x1), (2, .int x2)]) h (by decide) rfl dX9_layTwos_46 rfl ?_
            refine g_iload_n (np := 49) h 4 rfl rfl dX9_layTwos_48 rfl ?_
            refine g_iconst (np := 50) (v := (1 : Int32)) h (by decide) dX9_layTwos_49 rfl ?_
            refine g_iadd (np := 51) h dX9_layTwos_50 rfl ?_
            refine g_istore (np := 53) (lv' := [(5, .int (x2 + (1 : Int32))), (4, .int (rd v_twos (x1 &&& ((jshl (1 : Int32) x2) ^^^ (-1 : Int32))))), (3, .int (x1 &&& ((jshl (1 : Int32) x2) ^^^ (-1 : Int32)))), (0, .ref q0), (1, .int x1), (2, .int x2)]) h (by decide) rfl dX9_layTwos_51 rfl ?_
            refine g_lv [3, 4, 5, 2, 1, 0] rfl ?_
            exact hL53 _ v_twos x1 x2 (x1 &&& ((jshl (1 : Int32) x2) ^^^ (-1 : Int32))) (rd v_twos (x1 &&& ((jshl (1 : Int32) x2) ^^^ (-1 : Int32)))) (x2 + (1 : Int32)) hF
          · refine g_iinc (np := 29) (v := (x2 + (1 : Int32))) (lv' := [(2, .int (x2 + (1 : Int32))), (0, .ref q0), (1, .int x1)]) h 2 rfl rfl (by decide) rfl dX9_layTwos_26 rfl ?_
            refine g_goto h dX9_layTwos_29 (np := 18) rfl ?_
            refine g_lv [1, 2, 0] rfl ?_
            exact ih18 v_twos x1 (x2 + (1 : Int32)) hF
      intro v_twos x1 hF
      rw [fX9_layTwos_9] at hF
      refine g_iload_n (np := 10) h 1 rfl rfl dX9_layTwos_9 rfl ?_
      refine g_sipush (np := 13) (v := (256 : Int32)) h (by decide) dX9_layTwos_10 rfl ?_
      refine g_icmp_ge h hF dX9_layTwos_13 (np := 16) rfl (tg := 136) rfl (fun c3001 hF => ?_) (fun c3001 hF => ?_)
      · exact hend _ hF _ _ dX9_layTwos_136
      · refine g_iconst (np := 17) (v := (0 : Int32)) h (by decide) dX9_layTwos_16 rfl ?_
        refine g_istore_n (np := 18) (lv' := [(2, .int (0 : Int32)), (0, .ref q0), (1, .int x1)]) h rfl (by decide) rfl dX9_layTwos_17 rfl ?_
        refine g_lv [1, 2, 0] rfl ?_
        exact hL18 _ v_twos x1 (0 : Int32) hF
  unfold fX9_layTwos at hF
  refine g_aload_n (np := 1) h 0 rfl rfl dX9_layTwos_0 rfl ?_
  refine g_get (np := 4) (T := TX9) h imX9_layTwos_u_X9 0 9 rfl rfl 12 (by decide) (imX9_layTwos_own _ (List.mem_of_getElem? (i := 0) rfl)) rfl dX9_layTwos_1 rfl ?_
  refine g_iconst (np := 5) (v := (0 : Int32)) h (by decide) dX9_layTwos_4 rfl ?_
  refine g_iconst (np := 6) (v := (0 : Int32)) h (by decide) dX9_layTwos_5 rfl ?_
  refine g_iast (np := 7) (Wd' := (wdX9_layTwos cI cZ q0 q1 q2 q3 d4 d5 d6 d7 d8 d9 d10 v_book v_of (wr v_twos (0 : Int32) (0 : Int32)) v_sights v_signs v_weddings v_reason v_acts)) h 3 rfl hF rfl dX9_layTwos_6 rfl (fun hi1 hF => ?_)
  refine g_iconst (np := 8) (v := (1 : Int32)) h (by decide) dX9_layTwos_7 rfl ?_
  refine g_istore_n (np := 9) (lv' := [(1, .int (1 : Int32)), (0, .ref q0)]) h rfl (by decide) rfl dX9_layTwos_8 rfl ?_
  refine g_lv [1, 0] rfl ?_
  exact hL9 _ (wr v_twos (0 : Int32) (0 : Int32)) (1 : Int32) hF
theorem dX9_match_0 : decode cX9_match 0 = .ok (.iload_n 1, 1) := by decide +kernel
theorem dX9_match_1 : decode cX9_match 1 = .ok (.iconst (-1), 1) := by decide +kernel
theorem dX9_match_2 : decode cX9_match 2 = .ok (.bipush 7, 2) := by decide +kernel
theorem dX9_match_4 : decode cX9_match 4 = .ok (.invokestatic 41, 3) := by decide +kernel
theorem dX9_match_7 : decode cX9_match 7 = .ok (.ifCond .ne 5, 3) := by decide +kernel
theorem dX9_match_10 : decode cX9_match 10 = .ok (.iconst (-1), 1) := by decide +kernel
theorem dX9_match_11 : decode cX9_match 11 = .ok (.ireturn, 1) := by decide +kernel
theorem dX9_match_12 : decode cX9_match 12 = .ok (.aload_n 0, 1) := by decide +kernel
theorem dX9_match_13 : decode cX9_match 13 = .ok (.invokevirtual 129, 3) := by decide +kernel
theorem dX9_match_16 : decode cX9_match 16 = .ok (.iload_n 1, 1) := by decide +kernel
theorem dX9_match_17 : decode cX9_match 17 = .ok (.ifCond .ge 12, 3) := by decide +kernel
theorem dX9_match_20 : decode cX9_match 20 = .ok (.aload_n 0, 1) := by decide +kernel
theorem dX9_match_21 : decode cX9_match 21 = .ok (.getfield 31, 3) := by decide +kernel
theorem dX9_match_24 : decode cX9_match 24 = .ok (.sipush 255, 3) := by decide +kernel
theorem dX9_match_27 : decode cX9_match 27 = .ok (.iaload, 1) := by decide +kernel
theorem dX9_match_28 : decode cX9_match 28 = .ok (.ireturn, 1) := by decide +kernel
theorem dX9_match_29 : decode cX9_match 29 = .ok (.sipush 255, 3) := by decide +kernel
theorem dX9_match_32 : decode cX9_match 32 = .ok (.istore_n 2, 1) := by decide +kernel
theorem dX9_match_33 : decode cX9_match 33 = .ok (.bipush (-6), 2) := by decide +kernel
theorem dX9_match_35 : decode cX9_match 35 = .ok (.istore_n 3, 1) := by decide +kernel
theorem dX9_match_36 : decode cX9_match 36 = .ok (.iconst 0, 1) := by decide +kernel
theorem dX9_match_37 : decode cX9_match 37 = .ok (.istore 4, 2) := by decide +kernel
theorem dX9_match_39 : decode cX9_match 39 = .ok (.iload 4, 2) := by decide +kernel
theorem dX9_match_41 : decode cX9_match 41 = .ok (.bipush 8, 2) := by decide +kernel
theorem dX9_match_43 : decode cX9_match 43 = .ok (.if_icmp .ge 160, 3) := by decide +kernel
theorem dX9_match_46 : decode cX9_match 46 = .ok (.iload_n 2, 1) := by decide +kernel
theorem dX9_match_47 : decode cX9_match 47 = .ok (.iload 4, 2) := by decide +kernel
theorem dX9_match_49 : decode cX9_match 49 = .ok (.invokestatic 109, 3) := by decide +kernel
theorem dX9_match_52 : decode cX9_match 52 = .ok (.ifCond .eq 145, 3) := by decide +kernel
theorem dX9_match_55 : decode cX9_match 55 = .ok (.iload_n 2, 1) := by decide +kernel
theorem dX9_match_56 : decode cX9_match 56 = .ok (.iconst 1, 1) := by decide +kernel
theorem dX9_match_57 : decode cX9_match 57 = .ok (.iload 4, 2) := by decide +kernel
theorem dX9_match_59 : decode cX9_match 59 = .ok (.ishl, 1) := by decide +kernel
theorem dX9_match_60 : decode cX9_match 60 = .ok (.iconst (-1), 1) := by decide +kernel
theorem dX9_match_61 : decode cX9_match 61 = .ok (.ixor, 1) := by decide +kernel
theorem dX9_match_62 : decode cX9_match 62 = .ok (.iand, 1) := by decide +kernel
theorem dX9_match_63 : decode cX9_match 63 = .ok (.istore 5, 2) := by decide +kernel
theorem dX9_match_65 : decode cX9_match 65 = .ok (.bipush (-6), 2) := by decide +kernel
theorem dX9_match_67 : decode cX9_match 67 = .ok (.istore 6, 2) := by decide +kernel
theorem dX9_match_69 : decode cX9_match 69 = .ok (.bipush 7, 2) := by decide +kernel
theorem dX9_match_71 : decode cX9_match 71 = .ok (.istore 7, 2) := by decide +kernel
theorem dX9_match_73 : decode cX9_match 73 = .ok (.iload 7, 2) := by decide +kernel
theorem dX9_match_75 : decode cX9_match 75 = .ok (.iload 4, 2) := by decide +kernel
theorem dX9_match_77 : decode cX9_match 77 = .ok (.if_icmp .le 76, 3) := by decide +kernel
theorem dX9_match_80 : decode cX9_match 80 = .ok (.iload 5, 2) := by decide +kernel
theorem dX9_match_82 : decode cX9_match 82 = .ok (.iload 7, 2) := by decide +kernel
theorem dX9_match_84 : decode cX9_match 84 = .ok (.invokestatic 109, 3) := by decide +kernel
theorem dX9_match_87 : decode cX9_match 87 = .ok (.ifCond .eq 43, 3) := by decide +kernel
theorem dX9_match_90 : decode cX9_match 90 = .ok (.aload_n 0, 1) := by decide +kernel
theorem dX9_match_91 : decode cX9_match 91 = .ok (.iload 4, 2) := by decide +kernel
theorem dX9_match_93 : decode cX9_match 93 = .ok (.iload 7, 2) := by decide +kernel
theorem dX9_match_95 : decode cX9_match 95 = .ok (.invokevirtual 126, 3) := by decide +kernel
theorem dX9_match_98 : decode cX9_match 98 = .ok (.ifCond .eq 32, 3) := by decide +kernel
theorem dX9_match_101 : decode cX9_match 101 = .ok (.aload_n 0, 1) := by decide +kernel
theorem dX9_match_102 : decode cX9_match 102 = .ok (.getfield 31, 3) := by decide +kernel
theorem dX9_match_105 : decode cX9_match 105 = .ok (.iload 5, 2) := by decide +kernel
theorem dX9_match_107 : decode cX9_match 107 = .ok (.iconst 1, 1) := by decide +kernel
theorem dX9_match_108 : decode cX9_match 108 = .ok (.iload 7, 2) := by decide +kernel
theorem dX9_match_110 : decode cX9_match 110 = .ok (.ishl, 1) := by decide +kernel
theorem dX9_match_111 : decode cX9_match 111 = .ok (.iconst (-1), 1) := by decide +kernel
theorem dX9_match_112 : decode cX9_match 112 = .ok (.ixor, 1) := by decide +kernel
theorem dX9_match_113 : decode cX9_match 113 = .ok (.iand, 1) := by decide +kernel
theorem dX9_match_114 : decode cX9_match 114 = .ok (.iaload, 1) := by decide +kernel
theorem dX9_match_115 : decode cX9_match 115 = .ok (.iconst 1, 1) := by decide +kernel
theorem dX9_match_116 : decode cX9_match 116 = .ok (.iadd, 1) := by decide +kernel
theorem dX9_match_117 : decode cX9_match 117 = .ok (.aload_n 0, 1) := by decide +kernel
theorem dX9_match_118 : decode cX9_match 118 = .ok (.getfield 31, 3) := by decide +kernel
theorem dX9_match_121 : decode cX9_match 121 = .ok (.iload_n 2, 1) := by decide +kernel
theorem dX9_match_122 : decode cX9_match 122 = .ok (.iaload, 1) := by decide +kernel
theorem dX9_match_123 : decode cX9_match 123 = .ok (.if_icmp .ne 7, 3) := by decide +kernel
theorem dX9_match_126 : decode cX9_match 126 = .ok (.iconst 1, 1) := by decide +kernel
theorem dX9_match_127 : decode cX9_match 127 = .ok (.goto 4, 3) := by decide +kernel
theorem dX9_match_130 : decode cX9_match 130 = .ok (.iconst 0, 1) := by decide +kernel
theorem dX9_match_131 : decode cX9_match 131 = .ok (.istore 8, 2) := by decide +kernel
theorem dX9_match_133 : decode cX9_match 133 = .ok (.iload 8, 2) := by decide +kernel
theorem dX9_match_135 : decode cX9_match 135 = .ok (.ifCond .eq 8, 3) := by decide +kernel
theorem dX9_match_138 : decode cX9_match 138 = .ok (.iload 7, 2) := by decide +kernel
theorem dX9_match_140 : decode cX9_match 140 = .ok (.goto 5, 3) := by decide +kernel
theorem dX9_match_143 : decode cX9_match 143 = .ok (.iload 6, 2) := by decide +kernel
theorem dX9_match_145 : decode cX9_match 145 = .ok (.istore 6, 2) := by decide +kernel
theorem dX9_match_147 : decode cX9_match 147 = .ok (.iinc 7 (-1), 3) := by decide +kernel
theorem dX9_match_150 : decode cX9_match 150 = .ok (.goto (-77), 3) := by decide +kernel
theorem dX9_match_153 : decode cX9_match 153 = .ok (.iload 4, 2) := by decide +kernel
theorem dX9_match_155 : decode cX9_match 155 = .ok (.iload_n 1, 1) := by decide +kernel
theorem dX9_match_156 : decode cX9_match 156 = .ok (.if_icmp .ne 8, 3) := by decide +kernel
theorem dX9_match_159 : decode cX9_match 159 = .ok (.iload 6, 2) := by decide +kernel
theorem dX9_match_161 : decode cX9_match 161 = .ok (.goto 15, 3) := by decide +kernel
theorem dX9_match_164 : decode cX9_match 164 = .ok (.iload 6, 2) := by decide +kernel
theorem dX9_match_166 : decode cX9_match 166 = .ok (.iload_n 1, 1) := by decide +kernel
theorem dX9_match_167 : decode cX9_match 167 = .ok (.if_icmp .ne 8, 3) := by decide +kernel
theorem dX9_match_170 : decode cX9_match 170 = .ok (.iload 4, 2) := by decide +kernel
theorem dX9_match_172 : decode cX9_match 172 = .ok (.goto 4, 3) := by decide +kernel
theorem dX9_match_175 : decode cX9_match 175 = .ok (.iload_n 3, 1) := by decide +kernel
theorem dX9_match_176 : decode cX9_match 176 = .ok (.istore_n 3, 1) := by decide +kernel
theorem dX9_match_177 : decode cX9_match 177 = .ok (.iload 6, 2) := by decide +kernel
theorem dX9_match_179 : decode cX9_match 179 = .ok (.ifCond .ge 8, 3) := by decide +kernel
theorem dX9_match_182 : decode cX9_match 182 = .ok (.iload 5, 2) := by decide +kernel
theorem dX9_match_184 : decode cX9_match 184 = .ok (.goto 12, 3) := by decide +kernel
theorem dX9_match_187 : decode cX9_match 187 = .ok (.iload 5, 2) := by decide +kernel
theorem dX9_match_189 : decode cX9_match 189 = .ok (.iconst 1, 1) := by decide +kernel
theorem dX9_match_190 : decode cX9_match 190 = .ok (.iload 6, 2) := by decide +kernel
theorem dX9_match_192 : decode cX9_match 192 = .ok (.ishl, 1) := by decide +kernel
theorem dX9_match_193 : decode cX9_match 193 = .ok (.iconst (-1), 1) := by decide +kernel
theorem dX9_match_194 : decode cX9_match 194 = .ok (.ixor, 1) := by decide +kernel
theorem dX9_match_195 : decode cX9_match 195 = .ok (.iand, 1) := by decide +kernel
theorem dX9_match_196 : decode cX9_match 196 = .ok (.istore_n 2, 1) := by decide +kernel
theorem dX9_match_197 : decode cX9_match 197 = .ok (.iinc 4 1, 3) := by decide +kernel
theorem dX9_match_200 : decode cX9_match 200 = .ok (.goto (-161), 3) := by decide +kernel
theorem dX9_match_203 : decode cX9_match 203 = .ok (.iload_n 3, 1) := by decide +kernel
theorem dX9_match_204 : decode cX9_match 204 = .ok (.ireturn, 1) := by decide +kernel
def wtX9_match : List Cond := .code yX9_match cX9_match 9 (some .int) :: (([.fieldLink RX9 31 "DriftKinModel" "twos" "[I"]) ++ ((u_ws RX9 TX9 15) ++ ((va_wsS RX9 41 yX9_in wtX9_in) ++ ((wsV RX9 129 RX9 yX9_layTwos wtX9_layTwos) ++ ((va_wsS RX9 109 yX9_has wtX9_has) ++ ((wsV RX9 126 RX9 yX9_mayWed wtX9_mayWed) ++ []))))))
theorem imX9_match_own : ∀ w ∈ ([.fieldLink RX9 31 "DriftKinModel" "twos" "[I"] : List Cond), w ∈ wtX9_match := fun w h => List.mem_cons_of_mem _ (inl h)
theorem imX9_match_u_X9 : ∀ w ∈ (u_ws RX9 TX9 15 : List Cond), w ∈ wtX9_match := fun w h => List.mem_cons_of_mem _ (inr (inl h))
theorem imX9_match_c_X9_in : ∀ w ∈ (va_wsS RX9 41 yX9_in wtX9_in : List Cond), w ∈ wtX9_match := fun w h => List.mem_cons_of_mem _ (inr (inr (inl h)))
theorem imX9_match_c_X9_layTwos : ∀ w ∈ (wsV RX9 129 RX9 yX9_layTwos wtX9_layTwos : List Cond), w ∈ wtX9_match := fun w h => List.mem_cons_of_mem _ (inr (inr (inr (inl h))))
theorem imX9_match_c_X9_has : ∀ w ∈ (va_wsS RX9 109 yX9_has wtX9_has : List Cond), w ∈ wtX9_match := fun w h => List.mem_cons_of_mem _ (inr (inr (inr (inr (inl h)))))
theorem imX9_match_c_X9_mayWed : ∀ w ∈ (wsV RX9 126 RX9 yX9_mayWed wtX9_mayWed : List Cond), w ∈ wtX9_match := fun w h => List.mem_cons_of_mem _ (inr (inr (inr (inr (inr (inl h))))))
theorem gdX9_match : ∀ w ∈ wtX9_match, Gd w := gdc rfl (gda (gdl (by decide +kernel)) (gda (gdu _ _ _) (gda (gda (gdl (by decide +kernel)) gdX9_in) (gda (gda (gdl (by decide +kernel)) gdX9_layTwos) (gda (gda (gdl (by decide +kernel)) gdX9_has) (gda (gda (gdl (by decide +kernel)) gdX9_mayWed) gdn))))))
theorem gcX9_match_X9_in : GoodIn wtX9_match (va_wsS RX9 41 yX9_in wtX9_in) := fun w h => ⟨imX9_match_c_X9_in w h, (gda (gdl (by decide +kernel)) gdX9_in) w h⟩
theorem gcX9_match_X9_layTwos : GoodIn wtX9_match (wsV RX9 129 RX9 yX9_layTwos wtX9_layTwos) := fun w h => ⟨imX9_match_c_X9_layTwos w h, (gda (gdl (by decide +kernel)) gdX9_layTwos) w h⟩
theorem gcX9_match_X9_has : GoodIn wtX9_match (va_wsS RX9 109 yX9_has wtX9_has) := fun w h => ⟨imX9_match_c_X9_has w h, (gda (gdl (by decide +kernel)) gdX9_has) w h⟩
theorem gcX9_match_X9_mayWed : GoodIn wtX9_match (wsV RX9 126 RX9 yX9_mayWed wtX9_mayWed) := fun w h => ⟨imX9_match_c_X9_mayWed w h, (gda (gdl (by decide +kernel)) gdX9_mayWed) w h⟩
def fX9_match_176 (k39 : Int32 → Int32 → Int32 → Option (Int32 × (Nat → Int32))) (v_book : Nat → Int32) (v_of : Nat → Int32) (v_twos : Nat → Int32) (x1 : Int32) (x4 : Int32) (x5 : Int32) (x6 : Int32) (s0 : Int32) : Option (Int32 × (Nat → Int32)) :=
  if (0 : Int32) ≤ x6 then
    k39 (x5 &&& ((jshl (1 : Int32) x6) ^^^ (-1 : Int32))) s0 (x4 + (1 : Int32))
  else
    k39 x5 s0 (x4 + (1 : Int32))
def fX9_match_131 (k39 : Int32 → Int32 → Int32 → Option (Int32 × (Nat → Int32))) (k73 : Int32 → Int32 → Option (Int32 × (Nat → Int32))) (v_book : Nat → Int32) (v_of : Nat → Int32) (v_twos : Nat → Int32) (x1 : Int32) (x2 : Int32) (x3 : Int32) (x4 : Int32) (x5 : Int32) (x6 : Int32) (x7 : Int32) (s0 : Int32) : Option (Int32 × (Nat → Int32)) :=
  if s0 = (0 : Int32) then
    k73 x6 (x7 + (-1 : Int32))
  else
    k73 x7 (x7 + (-1 : Int32))
def fX9_match_73 (k39 : Int32 → Int32 → Int32 → Option (Int32 × (Nat → Int32))) (v_book : Nat → Int32) (v_of : Nat → Int32) (v_twos : Nat → Int32) (x1 : Int32) (x2 : Int32) (x3 : Int32) (x4 : Int32) (x5 : Int32) : Nat → Int32 → Int32 → Option (Int32 × (Nat → Int32))
  | 0, _, _ => none
  | n + 1, x6, x7 =>
    if x7 ≤ x4 then
      if x4 = x1 then
        fX9_match_176 k39 v_book v_of v_twos x1 x4 x5 x6 x6
      else
        if x6 = x1 then
          fX9_match_176 k39 v_book v_of v_twos x1 x4 x5 x6 x4
        else
          fX9_match_176 k39 v_book v_of v_twos x1 x4 x5 x6 x3
    else
      (fX9_has x5 x7).bind (fun r3004 =>
        if r3004 = (0 : Int32) then
          fX9_match_131 k39 (fun y0 y1 => fX9_match_73 k39 v_book v_of v_twos x1 x2 x3 x4 x5 n y0 y1) v_book v_of v_twos x1 x2 x3 x4 x5 x6 x7 (0 : Int32)
        else
          (fX9_mayWed v_book v_of x4 x7).bind (fun r3006 =>
            if r3006 = (0 : Int32) then
              fX9_match_131 k39 (fun y0 y1 => fX9_match_73 k39 v_book v_of v_twos x1 x2 x3 x4 x5 n y0 y1) v_book v_of v_twos x1 x2 x3 x4 x5 x6 x7 (0 : Int32)
            else
              chk (x5 &&& ((jshl (1 : Int32) x7) ^^^ (-1 : Int32))) 256 (
                bnd ((rd v_twos (x5 &&& ((jshl (1 : Int32) x7) ^^^ (-1 : Int32)))) + (1 : Int32)) (fun t3009 =>
                  chk x2 256 (
                    if t3009 = (rd v_twos x2) then
                      fX9_match_131 k39 (fun y0 y1 => fX9_match_73 k39 v_book v_of v_twos x1 x2 x3 x4 x5 n y0 y1) v_book v_of v_twos x1 x2 x3 x4 x5 x6 x7 (1 : Int32)
                    else
                      fX9_match_131 k39 (fun y0 y1 => fX9_match_73 k39 v_book v_of v_twos x1 x2 x3 x4 x5 n y0 y1) v_book v_of v_twos x1 x2 x3 x4 x5 x6 x7 (0 : Int32))))))
def fX9_match_39 (v_book : Nat → Int32) (v_of : Nat → Int32) (v_twos : Nat → Int32) (x1 : Int32) : Nat → Int32 → Int32 → Int32 → Option (Int32 × (Nat → Int32))
  | 0, _, _, _ => none
  | n + 1, x2, x3, x4 =>
    if (8 : Int32) ≤ x4 then
      some (x3, v_twos)
    else
      (fX9_has x2 x4).bind (fun r4002 =>
        if r4002 = (0 : Int32) then
          fX9_match_39 v_book v_of v_twos x1 n x2 x3 (x4 + (1 : Int32))
        else
          fX9_match_73 (fun y0 y1 y2 => fX9_match_39 v_book v_of v_twos x1 n y0 y1 y2) v_book v_of v_twos x1 x2 x3 x4 (x2 &&& ((jshl (1 : Int32) x4) ^^^ (-1 : Int32))) 2000 (-6 : Int32) (7 : Int32))
def fX9_match (v_book : Nat → Int32) (v_of : Nat → Int32) (v_twos : Nat → Int32) (x1 : Int32) : Option (Int32 × (Nat → Int32)) :=
  (fX9_in x1 (-1 : Int32) (7 : Int32)).bind (fun r1 =>
    if r1 = (0 : Int32) then
      some ((-1 : Int32), v_twos)
    else
      (fX9_layTwos v_book v_of v_twos).bind (fun r3 =>
        if (0 : Int32) ≤ x1 then
          fX9_match_39 v_book v_of r3 x1 2000 (255 : Int32) (-6 : Int32) (0 : Int32)
        else
          chk (255 : Int32) 256 (
            some ((rd r3 (255 : Int32)), r3))))
def wdX9_match (cI cZ : ClassId) (q0 : Nat) (q1 : Nat) (q2 : Nat) (q3 : Nat) (d4 : Nat) (d5 : Nat) (d6 : Nat) (d7 : Nat) (d8 : Nat) (d9 : Nat) (d10 : Nat)  (v_book : Nat → Int32) (v_of : Nat → Int32) (v_twos : Nat → Int32) (v_sights : Int32) (v_signs : Int32) (v_weddings : Int32) (v_reason : Int32) (v_acts : Int32) : va_W := [(q0, .inr (9, [.ref q1, .ref d4, .ref q2, .int v_sights, .ref d5, .int v_signs, .ref d6, .int v_weddings, .int v_reason, .int v_acts, .ref d7, .ref d8, .ref q3, .ref d9, .ref d10])), (q1, .inl (cI, 35, .inl v_book)), (q2, .inl (cI, 60, .inl v_of)), (q3, .inl (cI, 256, .inl v_twos))]
abbrev rmX9_match : Jvm.Room := { frames := 2, cells := 0, slots := 0, locals := 48 }
theorem hyX9_match : yX9_match.cls ≠ "java/lang/invoke/MethodHandle" ∧ yX9_match.cls ≠ "java/lang/invoke/VarHandle" ∧ (parseMethodDescriptor yX9_match.desc).map (fun d => d.parameters.length) = some 1 := by decide +kernel
set_option maxHeartbeats 4000000 in
set_option maxRecDepth 100000 in
theorem mX9_match (l : Launch) (D : va_G) (cI cZ : ClassId) (q0 : Nat) (q1 : Nat) (q2 : Nat) (q3 : Nat) (d4 : Nat) (d5 : Nat) (d6 : Nat) (d7 : Nat) (d8 : Nat) (d9 : Nat) (d10 : Nat) (v_book : Nat → Int32) (v_of : Nat → Int32) (v_twos : Nat → Int32) (v_sights : Int32) (v_signs : Int32) (v_weddings : Int32) (v_reason : Int32) (v_acts : Int32) (x1 : Int32) (z : Int32 × (Nat → Int32)) (hF : fX9_match v_book v_of v_twos x1 = some z) : mp l yX9_match wtX9_match rmX9_match D cI cZ [.ref q0, .int x1] (wdX9_match cI cZ q0 q1 q2 q3 d4 d5 d6 d7 d8 d9 d10 v_book v_of v_twos v_sights v_signs v_weddings v_reason v_acts) (some (.int z.1)) (wdX9_match cI cZ q0 q1 q2 q3 d4 d5 d6 d7 d8 d9 d10 v_book v_of z.2 v_sights v_signs v_weddings v_reason v_acts) := by
  refine mp_i (lv0 := [(0, .ref q0), (1, .int x1)]) cX9_match 9 z.1 (by decide) rfl (Nat.le_of_ble_eq_true rfl) rfl (fun E h hend0 => ?_)
  have hend : ∀ (z' : Int32 × (Nat → Int32)), some z' = some z → ∀ (pc : Nat) (lv : List (Nat × Value)), decode cX9_match pc = .ok (.ireturn, 1) → G l D E 9 0 0 (wdX9_match cI cZ q0 q1 q2 q3 d4 d5 d6 d7 d8 d9 d10 v_book v_of (z'.2) v_sights v_signs v_weddings v_reason v_acts) pc lv [.int z'.1] := fun z' e => by cases e; exact hend0
  clear hend0
  have hL39 : ∀ (n39 : Nat) (v_twos : Nat → Int32) (x2 : Int32) (x3 : Int32) (x4 : Int32), fX9_match_39 v_book v_of v_twos x1 n39 x2 x3 x4 = some z → G l D E 9 0 0 (wdX9_match cI cZ q0 q1 q2 q3 d4 d5 d6 d7 d8 d9 d10 v_book v_of v_twos v_sights v_signs v_weddings v_reason v_acts) 39 [(0, .ref q0), (1, .int x1), (2, .int x2), (3, .int x3), (4, .int x4)] [] := by
    intro n39
    induction n39 with
    | zero =>
      intro v_twos x2 x3 x4 hF
      rw [fX9_match_39] at hF
      cases hF
    | succ n39 ih39 =>
      have hL176 : ∀ (v_twos : Nat → Int32) (x4 : Int32) (x5 : Int32) (x6 : Int32) (s0 : Int32), fX9_match_176 (fun y0 y1 y2 => fX9_match_39 v_book v_of v_twos x1 n39 y0 y1 y2) v_book v_of v_twos x1 x4 x5 x6 s0 = some z → G l D E 9 0 0 (wdX9_match cI cZ q0 q1 q2 q3 d4 d5 d6 d7 d8 d9 d10 v_book v_of v_twos v_sights v_signs v_weddings v_reason v_acts) 176 [(0, .ref q0), (1, .int x1), (4, .int x4), (5, .int x5), (6, .int x6)] [.int s0] := by
        intro v_twos x4 x5 x6 s0 hF
        rw [fX9_match_176] at hF
        refine g_istore_n (np := 177) (lv' := [(3, .int s0), (0, .ref q0), (1, .int x1), (4, .int x4), (5, .int x5), (6, .int x6)]) h rfl (by decide) rfl dX9_match_176 rfl ?_
        refine g_iload (np := 179) h 5 rfl dX9_match_177 rfl ?_
        refine g_if_ge h hF dX9_match_179 (np := 182) rfl (tg := 187) rfl (fun c1001 hF => ?_) (fun c1001 hF => ?_)
        · refine g_iload (np := 189) h 4 rfl dX9_match_187 rfl ?_
          refine g_iconst (np := 190) (v := (1 : Int32)) h (by decide) dX9_match_189 rfl ?_
          refine g_iload (np := 192) h 5 rfl dX9_match_190 rfl ?_
          refine g_ishl (np := 193) h dX9_match_192 rfl ?_
          refine g_iconst (np := 194) (v := (-1 : Int32)) h (by decide) dX9_match_193 rfl ?_
          refine g_ixor (np := 195) h dX9_match_194 rfl ?_
          refine g_iand (np := 196) h dX9_match_195 rfl ?_
          refine g_istore_n (np := 197) (lv' := [(2, .int (x5 &&& ((jshl (1 : Int32) x6) ^^^ (-1 : Int32)))), (3, .int s0), (0, .ref q0), (1, .int x1), (4, .int x4), (5, .int x5), (6, .int x6)]) h rfl (by decide) rfl dX9_match_196 rfl ?_
          refine g_iinc (np := 200) (v := (x4 + (1 : Int32))) (lv' := [(4, .int (x4 + (1 : Int32))), (2, .int (x5 &&& ((jshl (1 : Int32) x6) ^^^ (-1 : Int32)))), (3, .int s0), (0, .ref q0), (1, .int x1), (5, .int x5), (6, .int x6)]) h 4 rfl rfl (by decide) rfl dX9_match_197 rfl ?_
          refine g_goto h dX9_match_200 (np := 39) rfl ?_
          refine g_lv [3, 4, 1, 2, 0] rfl ?_
          exact ih39 v_twos (x5 &&& ((jshl (1 : Int32) x6) ^^^ (-1 : Int32))) s0 (x4 + (1 : Int32)) hF
        · refine g_iload (np := 184) h 4 rfl dX9_match_182 rfl ?_
          refine g_goto h dX9_match_184 (np := 196) rfl ?_
          refine g_istore_n (np := 197) (lv' := [(2, .int x5), (3, .int s0), (0, .ref q0), (1, .int x1), (4, .int x4), (5, .int x5), (6, .int x6)]) h rfl (by decide) rfl dX9_match_196 rfl ?_
          refine g_iinc (np := 200) (v := (x4 + (1 : Int32))) (lv' := [(4, .int (x4 + (1 : Int32))), (2, .int x5), (3, .int s0), (0, .ref q0), (1, .int x1), (5, .int x5), (6, .int x6)]) h 4 rfl rfl (by decide) rfl dX9_match_197 rfl ?_
          refine g_goto h dX9_match_200 (np := 39) rfl ?_
          refine g_lv [3, 4, 1, 2, 0] rfl ?_
          exact ih39 v_twos x5 s0 (x4 + (1 : Int32)) hF
      have hL73 : ∀ (n73 : Nat) (v_twos : Nat → Int32) (x2 : Int32) (x3 : Int32) (x4 : Int32) (x5 : Int32) (x6 : Int32) (x7 : Int32), fX9_match_73 (fun y0 y1 y2 => fX9_match_39 v_book v_of v_twos x1 n39 y0 y1 y2) v_book v_of v_twos x1 x2 x3 x4 x5 n73 x6 x7 = some z → G l D E 9 0 0 (wdX9_match cI cZ q0 q1 q2 q3 d4 d5 d6 d7 d8 d9 d10 v_book v_of v_twos v_sights v_signs v_weddings v_reason v_acts) 73 [(0, .ref q0), (1, .int x1), (2, .int x2), (3, .int x3), (4, .int x4), (5, .int x5), (6, .int x6), (7, .int x7)] [] := by
        intro n73
        induction n73 with
        | zero =>
          intro v_twos x2 x3 x4 x5 x6 x7 hF
          rw [fX9_match_73] at hF
          cases hF
        | succ n73 ih73 =>
          have hL131 : ∀ (v_twos : Nat → Int32) (x2 : Int32) (x3 : Int32) (x4 : Int32) (x5 : Int32) (x6 : Int32) (x7 : Int32) (s0 : Int32), fX9_match_131 (fun y0 y1 y2 => fX9_match_39 v_book v_of v_twos x1 n39 y0 y1 y2) (fun y0 y1 => fX9_match_73 (fun y0 y1 y2 => fX9_match_39 v_book v_of v_twos x1 n39 y0 y1 y2) v_book v_of v_twos x1 x2 x3 x4 x5 n73 y0 y1) v_book v_of v_twos x1 x2 x3 x4 x5 x6 x7 s0 = some z → G l D E 9 0 0 (wdX9_match cI cZ q0 q1 q2 q3 d4 d5 d6 d7 d8 d9 d10 v_book v_of v_twos v_sights v_signs v_weddings v_reason v_acts) 131 [(0, .ref q0), (1, .int x1), (2, .int x2), (3, .int x3), (4, .int x4), (5, .int x5), (6, .int x6), (7, .int x7)] [.int s0] := by
            intro v_twos x2 x3 x4 x5 x6 x7 s0 hF
            rw [fX9_match_131] at hF
            refine g_istore (np := 133) (lv' := [(8, .int s0), (0, .ref q0), (1, .int x1), (2, .int x2), (3, .int x3), (4, .int x4), (5, .int x5), (6, .int x6), (7, .int x7)]) h (by decide) rfl dX9_match_131 rfl ?_
            refine g_iload (np := 135) h 0 rfl dX9_match_133 rfl ?_
            refine g_if_eq h hF dX9_match_135 (np := 138) rfl (tg := 143) rfl (fun c2001 hF => ?_) (fun c2001 hF => ?_)
            · refine g_iload (np := 145) h 7 rfl dX9_match_143 rfl ?_
              refine g_istore (np := 147) (lv' := [(6, .int x6), (8, .int s0), (0, .ref q0), (1, .int x1), (2, .int x2), (3, .int x3), (4, .int x4), (5, .int x5), (7, .int x7)]) h (by decide) rfl dX9_match_145 rfl ?_
              refine g_iinc (np := 150) (v := (x7 + (-1 : Int32))) (lv' := [(7, .int (x7 + (-1 : Int32))), (6, .int x6), (8, .int s0), (0, .ref q0), (1, .int x1), (2, .int x2), (3, .int x3), (4, .int x4), (5, .int x5)]) h 8 rfl (congrArg (fun w => x7 + w) (show Int32.ofInt (-1) = (-1 : Int32) by decide)) (by decide) rfl dX9_match_147 rfl ?_
              refine g_goto h dX9_match_150 (np := 73) rfl ?_
              refine g_lv [3, 4, 5, 6, 7, 8, 1, 0] rfl ?_
              exact ih73 v_twos x2 x3 x4 x5 x6 (x7 + (-1 : Int32)) hF
            · refine g_iload (np := 140) h 8 rfl dX9_match_138 rfl ?_
              refine g_goto h dX9_match_140 (np := 145) rfl ?_
              refine g_istore (np := 147) (lv' := [(6, .int x7), (8, .int s0), (0, .ref q0), (1, .int x1), (2, .int x2), (3, .int x3), (4, .int x4), (5, .int x5), (7, .int x7)]) h (by decide) rfl dX9_match_145 rfl ?_
              refine g_iinc (np := 150) (v := (x7 + (-1 : Int32))) (lv' := [(7, .int (x7 + (-1 : Int32))), (6, .int x7), (8, .int s0), (0, .ref q0), (1, .int x1), (2, .int x2), (3, .int x3), (4, .int x4), (5, .int x5)]) h 8 rfl (congrArg (fun w => x7 + w) (show Int32.ofInt (-1) = (-1 : Int32) by decide)) (by decide) rfl dX9_match_147 rfl ?_
              refine g_goto h dX9_match_150 (np := 73) rfl ?_
              refine g_lv [3, 4, 5, 6, 7, 8, 1, 0] rfl ?_
              exact ih73 v_twos x2 x3 x4 x5 x7 (x7 + (-1 : Int32)) hF
          intro v_twos x2 x3 x4 x5 x6 x7 hF
          rw [fX9_match_73] at hF
          refine g_iload (np := 75) h 7 rfl dX9_match_73 rfl ?_
          refine g_iload (np := 77) h 4 rfl dX9_match_75 rfl ?_
          refine g_icmp_le h hF dX9_match_77 (np := 80) rfl (tg := 153) rfl (fun c3001 hF => ?_) (fun c3001 hF => ?_)
          · refine g_iload (np := 155) h 4 rfl dX9_match_153 rfl ?_
            refine g_iload_n (np := 156) h 1 rfl rfl dX9_match_155 rfl ?_
            refine g_icmp_ne h hF dX9_match_156 (np := 159) rfl (tg := 164) rfl (fun c3002 hF => ?_) (fun c3002 hF => ?_)
            · refine g_iload (np := 166) h 6 rfl dX9_match_164 rfl ?_
              refine g_iload_n (np := 167) h 1 rfl rfl dX9_match_166 rfl ?_
              refine g_icmp_ne h hF dX9_match_167 (np := 170) rfl (tg := 175) rfl (fun c3003 hF => ?_) (fun c3003 hF => ?_)
              · refine g_iload_n (np := 176) h 3 rfl rfl dX9_match_175 rfl ?_
                refine g_lv [0, 1, 4, 5, 6] rfl ?_
                exact hL176 v_twos x4 x5 x6 x3 hF
              · refine g_iload (np := 172) h 4 rfl dX9_match_170 rfl ?_
                refine g_goto h dX9_match_172 (np := 176) rfl ?_
                refine g_lv [0, 1, 4, 5, 6] rfl ?_
                exact hL176 v_twos x4 x5 x6 x4 hF
            · refine g_iload (np := 161) h 6 rfl dX9_match_159 rfl ?_
              refine g_goto h dX9_match_161 (np := 176) rfl ?_
              refine g_lv [0, 1, 4, 5, 6] rfl ?_
              exact hL176 v_twos x4 x5 x6 x6 hF
          · refine g_iload (np := 82) h 5 rfl dX9_match_80 rfl ?_
            refine g_iload (np := 84) h 7 rfl dX9_match_82 rfl ?_
            obtain ⟨r3004, hr3004, hF⟩ := Option.bind_eq_some_iff.mp hF
            refine g_callS (np := 87) (Wd' := (wdX9_match cI cZ q0 q1 q2 q3 d4 d5 d6 d7 d8 d9 d10 v_book v_of v_twos v_sights v_signs v_weddings v_reason v_acts)) (As := [.int x5, .int x7]) h (mX9_has l D cI cZ x5 x7 r3004 hr3004) gcX9_match_X9_has rfl ⟨rfl, rfl⟩ hyX9_has rfl rfl rfl rfl ⟨Nat.zero_le _, Nat.zero_le _⟩ [] [0, 1, 2, 3] (N := 4) (by decide +kernel) rfl rfl rfl rfl rfl dX9_match_84 rfl ?_
            refine g_if_eq h hF dX9_match_87 (np := 90) rfl (tg := 130) rfl (fun c3005 hF => ?_) (fun c3005 hF => ?_)
            · refine g_iconst (np := 131) (v := (0 : Int32)) h (by decide) dX9_match_130 rfl ?_
              exact hL131 v_twos x2 x3 x4 x5 x6 x7 (0 : Int32) hF
            · refine g_aload_n (np := 91) h 0 rfl rfl dX9_match_90 rfl ?_
              refine g_iload (np := 93) h 4 rfl dX9_match_91 rfl ?_
              refine g_iload (np := 95) h 7 rfl dX9_match_93 rfl ?_
              obtain ⟨r3006, hr3006, hF⟩ := Option.bind_eq_some_iff.mp hF
              refine g_callV (np := 98) (Wd' := (wdX9_match cI cZ q0 q1 q2 q3 d4 d5 d6 d7 d8 d9 d10 v_book v_of v_twos v_sights v_signs v_weddings v_reason v_acts)) (As := [.int x4, .int x7]) h (mX9_mayWed l D cI cZ q0 q1 q2 d4 d5 d6 d7 d8 q3 d9 d10 v_book v_of v_sights v_signs v_weddings v_reason v_acts x4 x7 r3006 hr3006) gcX9_match_X9_mayWed rfl ⟨rfl, rfl⟩ ⟨rfl, hyX9_mayWed⟩ rfl 9 0 rfl rfl rfl rfl rfl rfl ⟨Nat.zero_le _, Nat.zero_le _⟩ [0, 1, 2] [3] (N := 4) (by decide +kernel) rfl rfl rfl rfl rfl dX9_match_95 rfl ?_
              refine g_if_eq h hF dX9_match_98 (np := 101) rfl (tg := 130) rfl (fun c3007 hF => ?_) (fun c3007 hF => ?_)
              · refine g_iconst (np := 131) (v := (0 : Int32)) h (by decide) dX9_match_130 rfl ?_
                exact hL131 v_twos x2 x3 x4 x5 x6 x7 (0 : Int32) hF
              · refine g_aload_n (np := 102) h 0 rfl rfl dX9_match_101 rfl ?_
                refine g_get (np := 105) (T := TX9) h imX9_match_u_X9 0 9 rfl rfl 12 (by decide) (imX9_match_own _ (List.mem_of_getElem? (i := 0) rfl)) rfl dX9_match_102 rfl ?_
                refine g_iload (np := 107) h 5 rfl dX9_match_105 rfl ?_
                refine g_iconst (np := 108) (v := (1 : Int32)) h (by decide) dX9_match_107 rfl ?_
                refine g_iload (np := 110) h 7 rfl dX9_match_108 rfl ?_
                refine g_ishl (np := 111) h dX9_match_110 rfl ?_
                refine g_iconst (np := 112) (v := (-1 : Int32)) h (by decide) dX9_match_111 rfl ?_
                refine g_ixor (np := 113) h dX9_match_112 rfl ?_
                refine g_iand (np := 114) h dX9_match_113 rfl ?_
                refine g_iald (np := 115) h 3 rfl hF dX9_match_114 rfl (fun hi3008 hF => ?_)
                refine g_iconst (np := 116) (v := (1 : Int32)) h (by decide) dX9_match_115 rfl ?_
                refine g_iadd (np := 117) h dX9_match_116 rfl ?_
                refine g_top hF (fun t3009 et3009 hF => ?_)
                refine g_aload_n (np := 118) h 0 rfl rfl dX9_match_117 rfl ?_
                refine g_get (np := 121) (T := TX9) h imX9_match_u_X9 0 9 rfl rfl 12 (by decide) (imX9_match_own _ (List.mem_of_getElem? (i := 0) rfl)) rfl dX9_match_118 rfl ?_
                refine g_iload_n (np := 122) h 2 rfl rfl dX9_match_121 rfl ?_
                refine g_iald (np := 123) h 3 rfl hF dX9_match_122 rfl (fun hi3010 hF => ?_)
                refine g_icmp_ne h hF dX9_match_123 (np := 126) rfl (tg := 130) rfl (fun c3011 hF => ?_) (fun c3011 hF => ?_)
                · refine g_iconst (np := 131) (v := (0 : Int32)) h (by decide) dX9_match_130 rfl ?_
                  exact hL131 v_twos x2 x3 x4 x5 x6 x7 (0 : Int32) hF
                · refine g_iconst (np := 127) (v := (1 : Int32)) h (by decide) dX9_match_126 rfl ?_
                  refine g_goto h dX9_match_127 (np := 131) rfl ?_
                  exact hL131 v_twos x2 x3 x4 x5 x6 x7 (1 : Int32) hF
      intro v_twos x2 x3 x4 hF
      rw [fX9_match_39] at hF
      refine g_iload (np := 41) h 4 rfl dX9_match_39 rfl ?_
      refine g_bipush (np := 43) (v := (8 : Int32)) h (by decide) dX9_match_41 rfl ?_
      refine g_icmp_ge h hF dX9_match_43 (np := 46) rfl (tg := 203) rfl (fun c4001 hF => ?_) (fun c4001 hF => ?_)
      · refine g_iload_n (np := 204) h 3 rfl rfl dX9_match_203 rfl ?_
        exact hend _ hF _ _ dX9_match_204
      · refine g_iload_n (np := 47) h 2 rfl rfl dX9_match_46 rfl ?_
        refine g_iload (np := 49) h 4 rfl dX9_match_47 rfl ?_
        obtain ⟨r4002, hr4002, hF⟩ := Option.bind_eq_some_iff.mp hF
        refine g_callS (np := 52) (Wd' := (wdX9_match cI cZ q0 q1 q2 q3 d4 d5 d6 d7 d8 d9 d10 v_book v_of v_twos v_sights v_signs v_weddings v_reason v_acts)) (As := [.int x2, .int x4]) h (mX9_has l D cI cZ x2 x4 r4002 hr4002) gcX9_match_X9_has rfl ⟨rfl, rfl⟩ hyX9_has rfl rfl rfl rfl ⟨Nat.zero_le _, Nat.zero_le _⟩ [] [0, 1, 2, 3] (N := 4) (by decide +kernel) rfl rfl rfl rfl rfl dX9_match_49 rfl ?_
        refine g_if_eq h hF dX9_match_52 (np := 55) rfl (tg := 197) rfl (fun c4003 hF => ?_) (fun c4003 hF => ?_)
        · refine g_iinc (np := 200) (v := (x4 + (1 : Int32))) (lv' := [(4, .int (x4 + (1 : Int32))), (0, .ref q0), (1, .int x1), (2, .int x2), (3, .int x3)]) h 4 rfl rfl (by decide) rfl dX9_match_197 rfl ?_
          refine g_goto h dX9_match_200 (np := 39) rfl ?_
          refine g_lv [1, 2, 3, 4, 0] rfl ?_
          exact ih39 v_twos x2 x3 (x4 + (1 : Int32)) hF
        · refine g_iload_n (np := 56) h 2 rfl rfl dX9_match_55 rfl ?_
          refine g_iconst (np := 57) (v := (1 : Int32)) h (by decide) dX9_match_56 rfl ?_
          refine g_iload (np := 59) h 4 rfl dX9_match_57 rfl ?_
          refine g_ishl (np := 60) h dX9_match_59 rfl ?_
          refine g_iconst (np := 61) (v := (-1 : Int32)) h (by decide) dX9_match_60 rfl ?_
          refine g_ixor (np := 62) h dX9_match_61 rfl ?_
          refine g_iand (np := 63) h dX9_match_62 rfl ?_
          refine g_istore (np := 65) (lv' := [(5, .int (x2 &&& ((jshl (1 : Int32) x4) ^^^ (-1 : Int32)))), (0, .ref q0), (1, .int x1), (2, .int x2), (3, .int x3), (4, .int x4)]) h (by decide) rfl dX9_match_63 rfl ?_
          refine g_bipush (np := 67) (v := (-6 : Int32)) h (by decide) dX9_match_65 rfl ?_
          refine g_istore (np := 69) (lv' := [(6, .int (-6 : Int32)), (5, .int (x2 &&& ((jshl (1 : Int32) x4) ^^^ (-1 : Int32)))), (0, .ref q0), (1, .int x1), (2, .int x2), (3, .int x3), (4, .int x4)]) h (by decide) rfl dX9_match_67 rfl ?_
          refine g_bipush (np := 71) (v := (7 : Int32)) h (by decide) dX9_match_69 rfl ?_
          refine g_istore (np := 73) (lv' := [(7, .int (7 : Int32)), (6, .int (-6 : Int32)), (5, .int (x2 &&& ((jshl (1 : Int32) x4) ^^^ (-1 : Int32)))), (0, .ref q0), (1, .int x1), (2, .int x2), (3, .int x3), (4, .int x4)]) h (by decide) rfl dX9_match_71 rfl ?_
          refine g_lv [3, 4, 5, 6, 7, 2, 1, 0] rfl ?_
          exact hL73 _ v_twos x2 x3 x4 (x2 &&& ((jshl (1 : Int32) x4) ^^^ (-1 : Int32))) (-6 : Int32) (7 : Int32) hF
  unfold fX9_match at hF
  refine g_iload_n (np := 1) h 1 rfl rfl dX9_match_0 rfl ?_
  refine g_iconst (np := 2) (v := (-1 : Int32)) h (by decide) dX9_match_1 rfl ?_
  refine g_bipush (np := 4) (v := (7 : Int32)) h (by decide) dX9_match_2 rfl ?_
  obtain ⟨r1, hr1, hF⟩ := Option.bind_eq_some_iff.mp hF
  refine g_callS (np := 7) (Wd' := (wdX9_match cI cZ q0 q1 q2 q3 d4 d5 d6 d7 d8 d9 d10 v_book v_of v_twos v_sights v_signs v_weddings v_reason v_acts)) (As := [.int x1, .int (-1 : Int32), .int (7 : Int32)]) h (mX9_in l D cI cZ x1 (-1 : Int32) (7 : Int32) r1 hr1) gcX9_match_X9_in rfl ⟨rfl, rfl⟩ hyX9_in rfl rfl rfl rfl ⟨Nat.zero_le _, Nat.zero_le _⟩ [] [0, 1, 2, 3] (N := 4) (by decide +kernel) rfl rfl rfl rfl rfl dX9_match_4 rfl ?_
  refine g_if_ne h hF dX9_match_7 (np := 10) rfl (tg := 12) rfl (fun c2 hF => ?_) (fun c2 hF => ?_)
  · refine g_aload_n (np := 13) h 0 rfl rfl dX9_match_12 rfl ?_
    obtain ⟨r3, hr3, hF⟩ := Option.bind_eq_some_iff.mp hF
    refine g_callV (np := 16) (Wd' := (wdX9_match cI cZ q0 q1 q2 q3 d4 d5 d6 d7 d8 d9 d10 v_book v_of r3 v_sights v_signs v_weddings v_reason v_acts)) (As := []) h (mX9_layTwos l D cI cZ q0 q1 q2 q3 d4 d5 d6 d7 d8 d9 d10 v_book v_of v_twos v_sights v_signs v_weddings v_reason v_acts r3 hr3) gcX9_match_X9_layTwos rfl ⟨rfl, rfl⟩ ⟨rfl, hyX9_layTwos⟩ rfl 9 0 rfl rfl rfl rfl rfl rfl ⟨Nat.zero_le _, Nat.zero_le _⟩ [0, 1, 2, 3] [] (N := 4) (by decide +kernel) rfl rfl rfl rfl rfl dX9_match_13 rfl ?_
    refine g_iload_n (np := 17) h 1 rfl rfl dX9_match_16 rfl ?_
    refine g_if_ge h hF dX9_match_17 (np := 20) rfl (tg := 29) rfl (fun c4 hF => ?_) (fun c4 hF => ?_)
    · refine g_sipush (np := 32) (v := (255 : Int32)) h (by decide) dX9_match_29 rfl ?_
      refine g_istore_n (np := 33) (lv' := [(2, .int (255 : Int32)), (0, .ref q0), (1, .int x1)]) h rfl (by decide) rfl dX9_match_32 rfl ?_
      refine g_bipush (np := 35) (v := (-6 : Int32)) h (by decide) dX9_match_33 rfl ?_
      refine g_istore_n (np := 36) (lv' := [(3, .int (-6 : Int32)), (2, .int (255 : Int32)), (0, .ref q0), (1, .int x1)]) h rfl (by decide) rfl dX9_match_35 rfl ?_
      refine g_iconst (np := 37) (v := (0 : Int32)) h (by decide) dX9_match_36 rfl ?_
      refine g_istore (np := 39) (lv' := [(4, .int (0 : Int32)), (3, .int (-6 : Int32)), (2, .int (255 : Int32)), (0, .ref q0), (1, .int x1)]) h (by decide) rfl dX9_match_37 rfl ?_
      refine g_lv [3, 4, 2, 1, 0] rfl ?_
      exact hL39 _ r3 (255 : Int32) (-6 : Int32) (0 : Int32) hF
    · refine g_aload_n (np := 21) h 0 rfl rfl dX9_match_20 rfl ?_
      refine g_get (np := 24) (T := TX9) h imX9_match_u_X9 0 9 rfl rfl 12 (by decide) (imX9_match_own _ (List.mem_of_getElem? (i := 0) rfl)) rfl dX9_match_21 rfl ?_
      refine g_sipush (np := 27) (v := (255 : Int32)) h (by decide) dX9_match_24 rfl ?_
      refine g_iald (np := 28) h 3 rfl hF dX9_match_27 rfl (fun hi5 hF => ?_)
      exact hend _ hF _ _ dX9_match_28
  · refine g_iconst (np := 11) (v := (-1 : Int32)) h (by decide) dX9_match_10 rfl ?_
    exact hend _ hF _ _ dX9_match_11
