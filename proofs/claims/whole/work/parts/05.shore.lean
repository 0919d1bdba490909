theorem dX5_become_0 : decode cX5_become 0 = .ok (.aload_n 0, 1) := by decide +kernel
theorem dX5_become_1 : decode cX5_become 1 = .ok (.getfield 12, 3) := by decide +kernel
theorem dX5_become_4 : decode cX5_become 4 = .ok (.aload_n 1, 1) := by decide +kernel
theorem dX5_become_5 : decode cX5_become 5 = .ok (.getfield 12, 3) := by decide +kernel
theorem dX5_become_8 : decode cX5_become 8 = .ok (.invokevirtual 36, 3) := by decide +kernel
theorem dX5_become_11 : decode cX5_become 11 = .ok (.aload_n 0, 1) := by decide +kernel
theorem dX5_become_12 : decode cX5_become 12 = .ok (.getfield 21, 3) := by decide +kernel
theorem dX5_become_15 : decode cX5_become 15 = .ok (.aload_n 1, 1) := by decide +kernel
theorem dX5_become_16 : decode cX5_become 16 = .ok (.getfield 21, 3) := by decide +kernel
theorem dX5_become_19 : decode cX5_become 19 = .ok (.invokevirtual 40, 3) := by decide +kernel
theorem dX5_become_22 : decode cX5_become 22 = .ok (.aload_n 0, 1) := by decide +kernel
theorem dX5_become_23 : decode cX5_become 23 = .ok (.getfield 28, 3) := by decide +kernel
theorem dX5_become_26 : decode cX5_become 26 = .ok (.aload_n 1, 1) := by decide +kernel
theorem dX5_become_27 : decode cX5_become 27 = .ok (.getfield 28, 3) := by decide +kernel
theorem dX5_become_30 : decode cX5_become 30 = .ok (.invokevirtual 43, 3) := by decide +kernel
theorem dX5_become_33 : decode cX5_become 33 = .ok (.aload_n 0, 1) := by decide +kernel
theorem dX5_become_34 : decode cX5_become 34 = .ok (.aload_n 1, 1) := by decide +kernel
theorem dX5_become_35 : decode cX5_become 35 = .ok (.getfield 32, 3) := by decide +kernel
theorem dX5_become_38 : decode cX5_become 38 = .ok (.putfield 32, 3) := by decide +kernel
theorem dX5_become_41 : decode cX5_become 41 = .ok (.return_, 1) := by decide +kernel
def wtX5_become : List Cond := .code yX5_become cX5_become 2 none :: (([.fieldLink RX5 12 "DriftKin$Shore" "pieces" "LDriftKin$Pieces;", .fieldLink RX5 21 "DriftKin$Shore" "houses" "LDriftKin$Houses;", .fieldLink RX5 28 "DriftKin$Shore" "sights" "LDriftKin$Sights;", .fieldLink RX5 32 "DriftKin$Shore" "year" "I"]) ++ ((u_ws RX5 TX5 4) ++ ((wsV RX5 36 RX3 yX3_become wtX3_become) ++ ((wsV RX5 40 RX0 yX0_become wtX0_become) ++ ((wsV RX5 43 RX6 yX6_become wtX6_become) ++ [])))))
theorem imX5_become_own : ∀ w ∈ ([.fieldLink RX5 12 "DriftKin$Shore" "pieces" "LDriftKin$Pieces;", .fieldLink RX5 21 "DriftKin$Shore" "houses" "LDriftKin$Houses;", .fieldLink RX5 28 "DriftKin$Shore" "sights" "LDriftKin$Sights;", .fieldLink RX5 32 "DriftKin$Shore" "year" "I"] : List Cond), w ∈ wtX5_become := fun w h => List.mem_cons_of_mem _ (inl h)
theorem imX5_become_u_X5 : ∀ w ∈ (u_ws RX5 TX5 4 : List Cond), w ∈ wtX5_become := fun w h => List.mem_cons_of_mem _ (inr (inl h))
theorem imX5_become_c_X3_become : ∀ w ∈ (wsV RX5 36 RX3 yX3_become wtX3_become : List Cond), w ∈ wtX5_become := fun w h => List.mem_cons_of_mem _ (inr (inr (inl h)))
theorem imX5_become_c_X0_become : ∀ w ∈ (wsV RX5 40 RX0 yX0_become wtX0_become : List Cond), w ∈ wtX5_become := fun w h => List.mem_cons_of_mem _ (inr (inr (inr (inl h))))
theorem imX5_become_c_X6_become : ∀ w ∈ (wsV RX5 43 RX6 yX6_become wtX6_become : List Cond), w ∈ wtX5_become := fun w h => List.mem_cons_of_mem _ (inr (inr (inr (inr (inl h)))))
theorem gdX5_become : ∀ w ∈ wtX5_become, Gd w := gdc rfl (gda (gdl (by decide +kernel)) (gda (gdu _ _ _) (gda (gda (gdl (by decide +kernel)) gdX3_become) (gda (gda (gdl (by decide +kernel)) gdX0_become) (gda (gda (gdl (by decide +kernel)) gdX6_become) gdn)))))
theorem gcX5_become_X3_become : GoodIn wtX5_become (wsV RX5 36 RX3 yX3_become wtX3_become) := fun w h => ⟨imX5_become_c_X3_become w h, (gda (gdl (by decide +kernel)) gdX3_become) w h⟩
theorem gcX5_become_X0_become : GoodIn wtX5_become (wsV RX5 40 RX0 yX0_become wtX0_become) := fun w h => ⟨imX5_become_c_X0_become w h, (gda (gdl (by decide +kernel)) gdX0_become) w h⟩
theorem gcX5_become_X6_become : GoodIn wtX5_become (wsV RX5 43 RX6 yX6_become wtX6_become) := fun w h => ⟨imX5_become_c_X6_become w h, (gda (gdl (by decide +kernel)) gdX6_become) w h⟩
def fX5_become (v_year : Int32) (v_wreck : Nat → Int32) (v_wood : Nat → Int32) (v_length : Nat → Int32) (v_left : Nat → Int32) (v_right : Nat → Int32) (v_place : Nat → Int32) (v_rings : Nat → Int32) (v_piece : Nat → Int32) (v_partner : Nat → Int32) (v_children : Nat → Int32) (v_count : Int32) (v_house : Nat → Int32) (v_reach : Nat → Int32) (v_sounded : Nat → Int32) (v_year2 : Int32) (v_wreck2 : Nat → Int32) (v_wood2 : Nat → Int32) (v_length2 : Nat → Int32) (v_left2 : Nat → Int32) (v_right2 : Nat → Int32) (v_place2 : Nat → Int32) (v_rings2 : Nat → Int32) (v_piece2 : Nat → Int32) (v_partner2 : Nat → Int32) (v_children2 : Nat → Int32) (v_count2 : Int32) (v_house2 : Nat → Int32) (v_reach2 : Nat → Int32) (v_sounded2 : Nat → Int32) : Option (Int32 × (Nat → Int32) × (Nat → Int32) × (Nat → Int32) × (Nat → Int32) × (Nat → Int32) × (Nat → Int32) × (Nat → Int32) × (Nat → Int32) × (Nat → Int32) × (Nat → Int32) × Int32 × (Nat → Int32) × (Nat → Int32) × (Nat → Int32)) :=
  (fX3_become v_wreck v_wood v_length v_left v_right v_place v_rings v_wreck2 v_wood2 v_length2 v_left2 v_right2 v_place2 v_rings2).bind (fun r1 =>
    (fX0_become v_piece v_partner v_children v_piece2 v_partner2 v_children2).bind (fun r2 =>
      (fX6_become v_count v_house v_reach v_sounded v_count2 v_house2 v_reach2 v_sounded2).bind (fun r3 =>
        some (v_year2, r1.1, r1.2.1, r1.2.2.1, r1.2.2.2.1, r1.2.2.2.2.1, r1.2.2.2.2.2.1, r1.2.2.2.2.2.2, r2.1, r2.2.1, r2.2.2, r3.1, r3.2.1, r3.2.2.1, r3.2.2.2))))
def wdX5_become (cI cZ : ClassId) (q0 : Nat) (q1 : Nat) (q2 : Nat) (q3 : Nat) (q4 : Nat) (q5 : Nat) (q6 : Nat) (q7 : Nat) (q8 : Nat) (q9 : Nat) (q10 : Nat) (q11 : Nat) (q12 : Nat) (q13 : Nat) (q14 : Nat) (q15 : Nat) (q16 : Nat) (q17 : Nat) (q18 : Nat) (q19 : Nat) (q20 : Nat) (q21 : Nat) (q22 : Nat) (q23 : Nat) (q24 : Nat) (q25 : Nat) (q26 : Nat) (q27 : Nat) (q28 : Nat) (q29 : Nat) (q30 : Nat) (q31 : Nat) (q32 : Nat) (q33 : Nat)  (v_year : Int32) (v_wreck : Nat → Int32) (v_wood : Nat → Int32) (v_length : Nat → Int32) (v_left : Nat → Int32) (v_right : Nat → Int32) (v_place : Nat → Int32) (v_rings : Nat → Int32) (v_piece : Nat → Int32) (v_partner : Nat → Int32) (v_children : Nat → Int32) (v_count : Int32) (v_house : Nat → Int32) (v_reach : Nat → Int32) (v_sounded : Nat → Int32) (v_year2 : Int32) (v_wreck2 : Nat → Int32) (v_wood2 : Nat → Int32) (v_length2 : Nat → Int32) (v_left2 : Nat → Int32) (v_right2 : Nat → Int32) (v_place2 : Nat → Int32) (v_rings2 : Nat → Int32) (v_piece2 : Nat → Int32) (v_partner2 : Nat → Int32) (v_children2 : Nat → Int32) (v_count2 : Int32) (v_house2 : Nat → Int32) (v_reach2 : Nat → Int32) (v_sounded2 : Nat → Int32) : va_W := [(q0, .inr (5, [.ref q1, .ref q9, .ref q13, .int v_year])), (q1, .inr (3, [.ref q2, .ref q3, .ref q4, .ref q5, .ref q6, .ref q7, .ref q8])), (q2, .inl (cI, 10, .inl v_wreck)), (q3, .inl (cI, 10, .inl v_wood)), (q4, .inl (cI, 10, .inl v_length)), (q5, .inl (cI, 10, .inl v_left)), (q6, .inl (cI, 10, .inl v_right)), (q7, .inl (cI, 10, .inl v_place)), (q8, .inl (cI, 10, .inl v_rings)), (q9, .inr (0, [.ref q10, .ref q11, .ref q12])), (q10, .inl (cI, 8, .inl v_piece)), (q11, .inl (cI, 8, .inl v_partner)), (q12, .inl (cI, 8, .inl v_children)), (q13, .inr (6, [.ref q14, .ref q15, .ref q16, .int v_count])), (q14, .inl (cI, 8, .inl v_house)), (q15, .inl (cI, 8, .inl v_reach)), (q16, .inl (cI, 8, .inl v_sounded)), (q17, .inr (5, [.ref q18, .ref q26, .ref q30, .int v_year2])), (q18, .inr (3, [.ref q19, .ref q20, .ref q21, .ref q22, .ref q23, .ref q24, .ref q25])), (q19, .inl (cI, 10, .inl v_wreck2)), (q20, .inl (cI, 10, .inl v_wood2)), (q21, .inl (cI, 10, .inl v_length2)), (q22, .inl (cI, 10, .inl v_left2)), (q23, .inl (cI, 10, .inl v_right2)), (q24, .inl (cI, 10, .inl v_place2)), (q25, .inl (cI, 10, .inl v_rings2)), (q26, .inr (0, [.ref q27, .ref q28, .ref q29])), (q27, .inl (cI, 8, .inl v_piece2)), (q28, .inl (cI, 8, .inl v_partner2)), (q29, .inl (cI, 8, .inl v_children2)), (q30, .inr (6, [.ref q31, .ref q32, .ref q33, .int v_count2])), (q31, .inl (cI, 8, .inl v_house2)), (q32, .inl (cI, 8, .inl v_reach2)), (q33, .inl (cI, 8, .inl v_sounded2))]
abbrev rmX5_become : Jvm.Room := { frames := 2, cells := 0, slots := 0, locals := 43 }
theorem hyX5_become : yX5_become.cls ≠ "java/lang/invoke/MethodHandle" ∧ yX5_become.cls ≠ "java/lang/invoke/VarHandle" ∧ (parseMethodDescriptor yX5_become.desc).map (fun d => d.parameters.length) = some 1 := by decide +kernel
set_option maxHeartbeats 4000000 in
set_option maxRecDepth 100000 in
theorem mX5_become (l : Launch) (D : va_G) (cI cZ : ClassId) (q0 : Nat) (q1 : Nat) (q2 : Nat) (q3 : Nat) (q4 : Nat) (q5 : Nat) (q6 : Nat) (q7 : Nat) (q8 : Nat) (q9 : Nat) (q10 : Nat) (q11 : Nat) (q12 : Nat) (q13 : Nat) (q14 : Nat) (q15 : Nat) (q16 : Nat) (q17 : Nat) (q18 : Nat) (q19 : Nat) (q20 : Nat) (q21 : Nat) (q22 : Nat) (q23 : Nat) (q24 : Nat) (q25 : Nat) (q26 : Nat) (q27 : Nat) (q28 : Nat) (q29 : Nat) (q30 : Nat) (q31 : Nat) (q32 : Nat) (q33 : Nat) (v_year : Int32) (v_wreck : Nat → Int32) (v_wood : Nat → Int32) (v_length : Nat → Int32) (v_left : Nat → Int32) (v_right : Nat → Int32) (v_place : Nat → Int32) (v_rings : Nat → Int32) (v_piece : Nat → Int32) (v_partner : Nat → Int32) (v_children : Nat → Int32) (v_count : Int32) (v_house : Nat → Int32) (v_reach : Nat → Int32) (v_sounded : Nat → Int32) (v_year2 : Int32) (v_wreck2 : Nat → Int32) (v_wood2 : Nat → Int32) (v_length2 : Nat → Int32) (v_left2 : Nat → Int32) (v_right2 : Nat → Int32) (v_place2 : Nat → Int32) (v_rings2 : Nat → Int32) (v_piece2 : Nat → Int32) (v_partner2 : Nat → Int32) (v_children2 : Nat → Int32) (v_count2 : Int32) (v_house2 : Nat → Int32) (v_reach2 : Nat → Int32) (v_sounded2 : Nat → Int32) (z : Int32 × (Nat → Int32) × (Nat → Int32) × (Nat → Int32) × (Nat → Int32) × (Nat → Int32) × (Nat → Int32) × (Nat → Int32) × (Nat → Int32) × (Nat → Int32) × (Nat → Int32) × Int32 × (Nat → Int32) × (Nat → Int32) × (Nat → Int32)) (hF : fX5_become v_year v_wreck v_wood v_length v_left v_right v_place v_rings v_piece v_partner v_children v_count v_house v_reach v_sounded v_year2 v_wreck2 v_wood2 v_length2 v_left2 v_right2 v_place2 v_rings2 v_piece2 v_partner2 v_children2 v_count2 v_house2 v_reach2 v_sounded2 = some z) : mp l yX5_become wtX5_become rmX5_become D cI cZ [.ref q0, .ref q17] (wdX5_become cI cZ q0 q1 q2 q3 q4 q5 q6 q7 q8 q9 q10 q11 q12 q13 q14 q15 q16 q17 q18 q19 q20 q21 q22 q23 q24 q25 q26 q27 q28 q29 q30 q31 q32 q33 v_year v_wreck v_wood v_length v_left v_right v_place v_rings v_piece v_partner v_children v_count v_house v_reach v_sounded v_year2 v_wreck2 v_wood2 v_length2 v_left2 v_right2 v_place2 v_rings2 v_piece2 v_partner2 v_children2 v_count2 v_house2 v_reach2 v_sounded2) none (wdX5_become cI cZ q0 q1 q2 q3 q4 q5 q6 q7 q8 q9 q10 q11 q12 q13 q14 q15 q16 q17 q18 q19 q20 q21 q22 q23 q24 q25 q26 q27 q28 q29 q30 q31 q32 q33 z.1 z.2.1 z.2.2.1 z.2.2.2.1 z.2.2.2.2.1 z.2.2.2.2.2.1 z.2.2.2.2.2.2.1 z.2.2.2.2.2.2.2.1 z.2.2.2.2.2.2.2.2.1 z.2.2.2.2.2.2.2.2.2.1 z.2.2.2.2.2.2.2.2.2.2.1 z.2.2.2.2.2.2.2.2.2.2.2.1 z.2.2.2.2.2.2.2.2.2.2.2.2.1 z.2.2.2.2.2.2.2.2.2.2.2.2.2.1 z.2.2.2.2.2.2.2.2.2.2.2.2.2.2 v_year2 v_wreck2 v_wood2 v_length2 v_left2 v_right2 v_place2 v_rings2 v_piece2 v_partner2 v_children2 v_count2 v_house2 v_reach2 v_sounded2) := by
  refine mp_v (lv0 := [(0, .ref q0), (1, .ref q17)]) cX5_become 2 (by decide) rfl (Nat.le_of_ble_eq_true rfl) rfl (fun E h hend0 => ?_)
  have hend : ∀ (z' : Int32 × (Nat → Int32) × (Nat → Int32) × (Nat → Int32) × (Nat → Int32) × (Nat → Int32) × (Nat → Int32) × (Nat → Int32) × (Nat → Int32) × (Nat → Int32) × (Nat → Int32) × Int32 × (Nat → Int32) × (Nat → Int32) × (Nat → Int32)), some z' = some z → ∀ (pc : Nat) (lv : List (Nat × Value)), decode cX5_become pc = .ok (.return_, 1) → G l D E 2 0 0 (wdX5_become cI cZ q0 q1 q2 q3 q4 q5 q6 q7 q8 q9 q10 q11 q12 q13 q14 q15 q16 q17 q18 q19 q20 q21 q22 q23 q24 q25 q26 q27 q28 q29 q30 q31 q32 q33 (z'.1) (z'.2.1) (z'.2.2.1) (z'.2.2.2.1) (z'.2.2.2.2.1) (z'.2.2.2.2.2.1) (z'.2.2.2.2.2.2.1) (z'.2.2.2.2.2.2.2.1) (z'.2.2.2.2.2.2.2.2.1) (z'.2.2.2.2.2.2.2.2.2.1) (z'.2.2.2.2.2.2.2.2.2.2.1) (z'.2.2.2.2.2.2.2.2.2.2.2.1) (z'.2.2.2.2.2.2.2.2.2.2.2.2.1) (z'.2.2.2.2.2.2.2.2.2.2.2.2.2.1) (z'.2.2.2.2.2.2.2.2.2.2.2.2.2.2) v_year2 v_wreck2 v_wood2 v_length2 v_left2 v_right2 v_place2 v_rings2 v_piece2 v_partner2 v_children2 v_count2 v_house2 v_reach2 v_sounded2) pc lv [] := fun z' e => by cases e; exact hend0
  clear hend0
  unfold fX5_become at hF
  refine g_aload_n (np := 1) h 0 rfl rfl dX5_become_0 rfl ?_
  refine g_get (np := 4) (T := TX5) h imX5_become_u_X5 0 5 rfl rfl 0 (by decide) (imX5_become_own _ (List.mem_of_getElem? (i := 0) rfl)) rfl dX5_become_1 rfl ?_
  refine g_aload_n (np := 5) h 1 rfl rfl dX5_become_4 rfl ?_
  refine g_get (np := 8) (T := TX5) h imX5_become_u_X5 17 5 rfl rfl 0 (by decide) (imX5_become_own _ (List.mem_of_getElem? (i := 0) rfl)) rfl dX5_become_5 rfl ?_
  obtain ⟨r1, hr1, hF⟩ := Option.bind_eq_some_iff.mp hF
  refine g_callV (np := 11) (Wd' := (wdX5_become cI cZ q0 q1 q2 q3 q4 q5 q6 q7 q8 q9 q10 q11 q12 q13 q14 q15 q16 q17 q18 q19 q20 q21 q22 q23 q24 q25 q26 q27 q28 q29 q30 q31 q32 q33 v_year r1.1 r1.2.1 r1.2.2.1 r1.2.2.2.1 r1.2.2.2.2.1 r1.2.2.2.2.2.1 r1.2.2.2.2.2.2 v_piece v_partner v_children v_count v_house v_reach v_sounded v_year2 v_wreck2 v_wood2 v_length2 v_left2 v_right2 v_place2 v_rings2 v_piece2 v_partner2 v_children2 v_count2 v_house2 v_reach2 v_sounded2)) (As := [.ref q18]) h (mX3_become l D cI cZ q1 q2 q3 q4 q5 q6 q7 q8 q18 q19 q20 q21 q22 q23 q24 q25 v_wreck v_wood v_length v_left v_right v_place v_rings v_wreck2 v_wood2 v_length2 v_left2 v_right2 v_place2 v_rings2 r1 hr1) gcX5_become_X3_become rfl ⟨rfl, rfl⟩ ⟨rfl, hyX3_become⟩ rfl 3 1 rfl rfl rfl rfl rfl rfl ⟨Nat.zero_le _, Nat.zero_le _⟩ [1, 2, 3, 4, 5, 6, 7, 8, 18, 19, 20, 21, 22, 23, 24, 25] [0, 9, 10, 11, 12, 13, 14, 15, 16, 17, 26, 27, 28, 29, 30, 31, 32, 33] (N := 34) (by decide +kernel) rfl rfl rfl rfl rfl dX5_become_8 rfl ?_
  refine g_aload_n (np := 12) h 0 rfl rfl dX5_become_11 rfl ?_
  refine g_get (np := 15) (T := TX5) h imX5_become_u_X5 0 5 rfl rfl 1 (by decide) (imX5_become_own _ (List.mem_of_getElem? (i := 1) rfl)) rfl dX5_become_12 rfl ?_
  refine g_aload_n (np := 16) h 1 rfl rfl dX5_become_15 rfl ?_
  refine g_get (np := 19) (T := TX5) h imX5_become_u_X5 17 5 rfl rfl 1 (by decide) (imX5_become_own _ (List.mem_of_getElem? (i := 1) rfl)) rfl dX5_become_16 rfl ?_
  obtain ⟨r2, hr2, hF⟩ := Option.bind_eq_some_iff.mp hF
  refine g_callV (np := 22) (Wd' := (wdX5_become cI cZ q0 q1 q2 q3 q4 q5 q6 q7 q8 q9 q10 q11 q12 q13 q14 q15 q16 q17 q18 q19 q20 q21 q22 q23 q24 q25 q26 q27 q28 q29 q30 q31 q32 q33 v_year r1.1 r1.2.1 r1.2.2.1 r1.2.2.2.1 r1.2.2.2.2.1 r1.2.2.2.2.2.1 r1.2.2.2.2.2.2 r2.1 r2.2.1 r2.2.2 v_count v_house v_reach v_sounded v_year2 v_wreck2 v_wood2 v_length2 v_left2 v_right2 v_place2 v_rings2 v_piece2 v_partner2 v_children2 v_count2 v_house2 v_reach2 v_sounded2)) (As := [.ref q26]) h (mX0_become l D cI cZ q9 q10 q11 q12 q26 q27 q28 q29 v_piece v_partner v_children v_piece2 v_partner2 v_children2 r2 hr2) gcX5_become_X0_become rfl ⟨rfl, rfl⟩ ⟨rfl, hyX0_become⟩ rfl 0 9 rfl rfl rfl rfl rfl rfl ⟨Nat.zero_le _, Nat.zero_le _⟩ [9, 10, 11, 12, 26, 27, 28, 29] [0, 1, 2, 3, 4, 5, 6, 7, 8, 13, 14, 15, 16, 17, 18, 19, 20, 21, 22, 23, 24, 25, 30, 31, 32, 33] (N := 34) (by decide +kernel) rfl rfl rfl rfl rfl dX5_become_19 rfl ?_
  refine g_aload_n (np := 23) h 0 rfl rfl dX5_become_22 rfl ?_
  refine g_get (np := 26) (T := TX5) h imX5_become_u_X5 0 5 rfl rfl 2 (by decide) (imX5_become_own _ (List.mem_of_getElem? (i := 2) rfl)) rfl dX5_become_23 rfl ?_
  refine g_aload_n (np := 27) h 1 rfl rfl dX5_become_26 rfl ?_
  refine g_get (np := 30) (T := TX5) h imX5_become_u_X5 17 5 rfl rfl 2 (by decide) (imX5_become_own _ (List.mem_of_getElem? (i := 2) rfl)) rfl dX5_become_27 rfl ?_
  obtain ⟨r3, hr3, hF⟩ := Option.bind_eq_some_iff.mp hF
  refine g_callV (np := 33) (Wd' := (wdX5_become cI cZ q0 q1 q2 q3 q4 q5 q6 q7 q8 q9 q10 q11 q12 q13 q14 q15 q16 q17 q18 q19 q20 q21 q22 q23 q24 q25 q26 q27 q28 q29 q30 q31 q32 q33 v_year r1.1 r1.2.1 r1.2.2.1 r1.2.2.2.1 r1.2.2.2.2.1 r1.2.2.2.2.2.1 r1.2.2.2.2.2.2 r2.1 r2.2.1 r2.2.2 r3.1 r3.2.1 r3.2.2.1 r3.2.2.2 v_year2 v_wreck2 v_wood2 v_length2 v_left2 v_right2 v_place2 v_rings2 v_piece2 v_partner2 v_children2 v_count2 v_house2 v_reach2 v_sounded2)) (As := [.ref q30]) h (mX6_become l D cI cZ q13 q14 q15 q16 q30 q31 q32 q33 v_count v_house v_reach v_sounded v_count2 v_house2 v_reach2 v_sounded2 r3 hr3) gcX5_become_X6_become rfl ⟨rfl, rfl⟩ ⟨rfl, hyX6_become⟩ rfl 6 13 rfl rfl rfl rfl rfl rfl ⟨Nat.zero_le _, Nat.zero_le _⟩ [13, 14, 15, 16, 30, 31, 32, 33] [0, 1, 2, 3, 4, 5, 6, 7, 8, 9, 10, 11, 12, 17, 18, 19, 20, 21, 22, 23, 24, 25, 26, 27, 28, 29] (N := 34) (by decide +kernel) rfl rfl rfl rfl rfl dX5_become_30 rfl ?_
  refine g_aload_n (np := 34) h 0 rfl rfl dX5_become_33 rfl ?_
  refine g_aload_n (np := 35) h 1 rfl rfl dX5_become_34 rfl ?_
  refine g_get (np := 38) (T := TX5) h imX5_become_u_X5 17 5 rfl rfl 3 (by decide) (imX5_become_own _ (List.mem_of_getElem? (i := 3) rfl)) rfl dX5_become_35 rfl ?_
  refine g_put (np := 41) (T := TX5) (Wd' := (wdX5_become cI cZ q0 q1 q2 q3 q4 q5 q6 q7 q8 q9 q10 q11 q12 q13 q14 q15 q16 q17 q18 q19 q20 q21 q22 q23 q24 q25 q26 q27 q28 q29 q30 q31 q32 q33 v_year2 r1.1 r1.2.1 r1.2.2.1 r1.2.2.2.1 r1.2.2.2.2.1 r1.2.2.2.2.2.1 r1.2.2.2.2.2.2 r2.1 r2.2.1 r2.2.2 r3.1 r3.2.1 r3.2.2.1 r3.2.2.2 v_year2 v_wreck2 v_wood2 v_length2 v_left2 v_right2 v_place2 v_rings2 v_piece2 v_partner2 v_children2 v_count2 v_house2 v_reach2 v_sounded2)) h imX5_become_u_X5 tyX5_ok nmX5 0 5 rfl rfl 3 (by decide) (imX5_become_own _ (List.mem_of_getElem? (i := 3) rfl)) rfl rfl rfl (Nat.le_of_ble_eq_true rfl) rfl dX5_become_38 rfl ?_
  exact hend _ hF _ _ dX5_become_41
theorem dX5_comeIn_0 : decode cX5_comeIn 0 = .ok (.aload_n 0, 1) := by decide +kernel
theorem dX5_comeIn_1 : decode cX5_comeIn 1 = .ok (.getfield 12, 3) := by decide +kernel
theorem dX5_comeIn_4 : decode cX5_comeIn 4 = .ok (.getfield 46, 3) := by decide +kernel
theorem dX5_comeIn_7 : decode cX5_comeIn 7 = .ok (.iload_n 1, 1) := by decide +kernel
theorem dX5_comeIn_8 : decode cX5_comeIn 8 = .ok (.invokestatic 50, 3) := by decide +kernel
theorem dX5_comeIn_11 : decode cX5_comeIn 11 = .ok (.ifCond .eq 5, 3) := by decide +kernel
theorem dX5_comeIn_14 : decode cX5_comeIn 14 = .ok (.iconst 1, 1) := by decide +kernel
theorem dX5_comeIn_15 : decode cX5_comeIn 15 = .ok (.ireturn, 1) := by decide +kernel
theorem dX5_comeIn_16 : decode cX5_comeIn 16 = .ok (.aload_n 0, 1) := by decide +kernel
theorem dX5_comeIn_17 : decode cX5_comeIn 17 = .ok (.getfield 12, 3) := by decide +kernel
theorem dX5_comeIn_20 : decode cX5_comeIn 20 = .ok (.getfield 46, 3) := by decide +kernel
theorem dX5_comeIn_23 : decode cX5_comeIn 23 = .ok (.iload_n 1, 1) := by decide +kernel
theorem dX5_comeIn_24 : decode cX5_comeIn 24 = .ok (.iconst 1, 1) := by decide +kernel
theorem dX5_comeIn_25 : decode cX5_comeIn 25 = .ok (.invokestatic 54, 3) := by decide +kernel
theorem dX5_comeIn_28 : decode cX5_comeIn 28 = .ok (.iconst 0, 1) := by decide +kernel
theorem dX5_comeIn_29 : decode cX5_comeIn 29 = .ok (.ireturn, 1) := by decide +kernel
def wtX5_comeIn : List Cond := .code yX5_comeIn cX5_comeIn 2 (some .int) :: (([.fieldLink RX5 12 "DriftKin$Shore" "pieces" "LDriftKin$Pieces;", .fieldLink RX5 46 "DriftKin$Pieces" "place" "[I", .static yX8_at, .initialized RX8, .static yX8_put]) ++ ((u_ws RX3 TX3 7) ++ ((u_ws RX5 TX5 4) ++ ((wtX8_at) ++ ((wtX8_put) ++ [])))))
theorem imX5_comeIn_own : ∀ w ∈ ([.fieldLink RX5 12 "DriftKin$Shore" "pieces" "LDriftKin$Pieces;", .fieldLink RX5 46 "DriftKin$Pieces" "place" "[I", .static yX8_at, .initialized RX8, .static yX8_put] : List Cond), w ∈ wtX5_comeIn := fun w h => List.mem_cons_of_mem _ (inl h)
theorem imX5_comeIn_u_X3 : ∀ w ∈ (u_ws RX3 TX3 7 : List Cond), w ∈ wtX5_comeIn := fun w h => List.mem_cons_of_mem _ (inr (inl h))
theorem imX5_comeIn_u_X5 : ∀ w ∈ (u_ws RX5 TX5 4 : List Cond), w ∈ wtX5_comeIn := fun w h => List.mem_cons_of_mem _ (inr (inr (inl h)))
theorem imX5_comeIn_c_X8_at : ∀ w ∈ (wtX8_at : List Cond), w ∈ wtX5_comeIn := fun w h => List.mem_cons_of_mem _ (inr (inr (inr (inl h))))
theorem imX5_comeIn_c_X8_put : ∀ w ∈ (wtX8_put : List Cond), w ∈ wtX5_comeIn := fun w h => List.mem_cons_of_mem _ (inr (inr (inr (inr (inl h)))))
theorem gdX5_comeIn : ∀ w ∈ wtX5_comeIn, Gd w := gdc rfl (gda (gdl (by decide +kernel)) (gda (gdu _ _ _) (gda (gdu _ _ _) (gda gdX8_at (gda gdX8_put gdn)))))
theorem gcX5_comeIn_X8_at : GoodIn wtX5_comeIn (wtX8_at) := fun w h => ⟨imX5_comeIn_c_X8_at w h, gdX8_at w h⟩
theorem gcX5_comeIn_X8_put : GoodIn wtX5_comeIn (wtX8_put) := fun w h => ⟨imX5_comeIn_c_X8_put w h, gdX8_put w h⟩
def fX5_comeIn (v_place : Nat → Int32) (x1 : Int32) : Option (Int32 × (Nat → Int32)) :=
  (fX8_at 10 v_place x1).bind (fun r1 =>
    if r1 = (0 : Int32) then
      (fX8_put 10 v_place x1 (1 : Int32)).bind (fun r3 =>
        some ((0 : Int32), r3))
    else
      some ((1 : Int32), v_place))
def wdX5_comeIn (cI cZ : ClassId) (q0 : Nat) (q1 : Nat) (q2 : Nat) (d3 : Nat) (d4 : Nat) (d5 : Nat) (d6 : Nat) (d7 : Nat) (d8 : Nat) (d9 : Nat) (d10 : Nat)  (v_place : Nat → Int32) (v_year : Int32) : va_W := [(q0, .inr (5, [.ref q1, .ref d3, .ref d4, .int v_year])), (q1, .inr (3, [.ref d5, .ref d6, .ref d7, .ref d8, .ref d9, .ref q2, .ref d10])), (q2, .inl (cI, 10, .inl v_place))]
abbrev rmX5_comeIn : Jvm.Room := { frames := 1, cells := 0, slots := 0, locals := 22 }
theorem hyX5_comeIn : yX5_comeIn.cls ≠ "java/lang/invoke/MethodHandle" ∧ yX5_comeIn.cls ≠ "java/lang/invoke/VarHandle" ∧ (parseMethodDescriptor yX5_comeIn.desc).map (fun d => d.parameters.length) = some 1 := by decide +kernel
set_option maxHeartbeats 4000000 in
set_option maxRecDepth 100000 in
theorem mX5_comeIn (l : Launch) (D : va_G) (cI cZ : ClassId) (q0 : Nat) (q1 : Nat) (q2 : Nat) (d3 : Nat) (d4 : Nat) (d5 : Nat) (d6 : Nat) (d7 : Nat) (d8 : Nat) (d9 : Nat) (d10 : Nat) (v_place : Nat → Int32) (v_year : Int32) (x1 : Int32) (z : Int32 × (Nat → Int32)) (hF : fX5_comeIn v_place x1 = some z) : mp l yX5_comeIn wtX5_comeIn rmX5_comeIn D cI cZ [.ref q0, .int x1] (wdX5_comeIn cI cZ q0 q1 q2 d3 d4 d5 d6 d7 d8 d9 d10 v_place v_year) (some (.int z.1)) (wdX5_comeIn cI cZ q0 q1 q2 d3 d4 d5 d6 d7 d8 d9 d10 z.2 v_year) := by
  refine mp_i (lv0 := [(0, .ref q0), (1, .int x1)]) cX5_comeIn 2 z.1 (by decide) rfl (Nat.le_of_ble_eq_true rfl) rfl (fun E h hend0 => ?_)
  have hend : ∀ (z' : Int32 × (Nat → Int32)), some z' = some z → ∀ (pc : Nat) (lv : List (Nat × Value)), decode cX5_comeIn pc = .ok (.ireturn, 1) → G l D E 2 0 0 (wdX5_comeIn cI cZ q0 q1 q2 d3 d4 d5 d6 d7 d8 d9 d10 (z'.2) v_year) pc lv [.int z'.1] := fun z' e => by cases e; exact hend0
  clear hend0
  unfold fX5_comeIn at hF
  refine g_aload_n (np := 1) h 0 rfl rfl dX5_comeIn_0 rfl ?_
  refine g_get (np := 4) (T := TX5) h imX5_comeIn_u_X5 0 5 rfl rfl 0 (by decide) (imX5_comeIn_own _ (List.mem_of_getElem? (i := 0) rfl)) rfl dX5_comeIn_1 rfl ?_
  refine g_get (np := 7) (T := TX3) h imX5_comeIn_u_X3 1 3 rfl rfl 5 (by decide) (imX5_comeIn_own _ (List.mem_of_getElem? (i := 1) rfl)) rfl dX5_comeIn_4 rfl ?_
  refine g_iload_n (np := 8) h 1 rfl rfl dX5_comeIn_7 rfl ?_
  obtain ⟨r1, hr1, hF⟩ := Option.bind_eq_some_iff.mp hF
  refine g_callN (np := 11) (Wd' := (wdX5_comeIn cI cZ q0 q1 q2 d3 d4 d5 d6 d7 d8 d9 d10 v_place v_year)) (As := [.ref q2, .int x1]) h (mX8_at l D cI cZ q2 10 v_place x1 r1 hr1) gcX5_comeIn_X8_at rfl ⟨rfl, rfl⟩ (List.mem_of_getElem? (i := 16) rfl) (imX5_comeIn_own _ (List.mem_of_getElem? (i := 3) rfl)) (imX5_comeIn_own _ (List.mem_of_getElem? (i := 2) rfl)) hyX8_at rfl rfl rfl rfl ⟨Nat.zero_le _, Nat.zero_le _⟩ [2] [0, 1] (N := 3) (by decide +kernel) rfl rfl rfl rfl rfl dX5_comeIn_8 rfl ?_
  refine g_if_eq h hF dX5_comeIn_11 (np := 14) rfl (tg := 16) rfl (fun c2 hF => ?_) (fun c2 hF => ?_)
  · refine g_aload_n (np := 17) h 0 rfl rfl dX5_comeIn_16 rfl ?_
    refine g_get (np := 20) (T := TX5) h imX5_comeIn_u_X5 0 5 rfl rfl 0 (by decide) (imX5_comeIn_own _ (List.mem_of_getElem? (i := 0) rfl)) rfl dX5_comeIn_17 rfl ?_
    refine g_get (np := 23) (T := TX3) h imX5_comeIn_u_X3 1 3 rfl rfl 5 (by decide) (imX5_comeIn_own _ (List.mem_of_getElem? (i := 1) rfl)) rfl dX5_comeIn_20 rfl ?_
    refine g_iload_n (np := 24) h 1 rfl rfl dX5_comeIn_23 rfl ?_
    refine g_iconst (np := 25) (v := (1 : Int32)) h (by decide) dX5_comeIn_24 rfl ?_
    obtain ⟨r3, hr3, hF⟩ := Option.bind_eq_some_iff.mp hF
    refine g_callN (np := 28) (Wd' := (wdX5_comeIn cI cZ q0 q1 q2 d3 d4 d5 d6 d7 d8 d9 d10 r3 v_year)) (As := [.ref q2, .int x1, .int (1 : Int32)]) h (mX8_put l D cI cZ q2 10 v_place x1 (1 : Int32) r3 hr3) gcX5_comeIn_X8_put rfl ⟨rfl, rfl⟩ (List.mem_of_getElem? (i := 18) rfl) (imX5_comeIn_own _ (List.mem_of_getElem? (i := 3) rfl)) (imX5_comeIn_own _ (List.mem_of_getElem? (i := 4) rfl)) hyX8_put rfl rfl rfl rfl ⟨Nat.zero_le _, Nat.zero_le _⟩ [2] [0, 1] (N := 3) (by decide +kernel) rfl rfl rfl rfl rfl dX5_comeIn_25 rfl ?_
    refine g_iconst (np := 29) (v := (0 : Int32)) h (by decide) dX5_comeIn_28 rfl ?_
    exact hend _ hF _ _ dX5_comeIn_29
  · refine g_iconst (np := 15) (v := (1 : Int32)) h (by decide) dX5_comeIn_14 rfl ?_
    exact hend _ hF _ _ dX5_comeIn_15
theorem dX5_takeHome_0 : decode cX5_takeHome 0 = .ok (.aload_n 0, 1) := by decide +kernel
theorem dX5_takeHome_1 : decode cX5_takeHome 1 = .ok (.getfield 12, 3) := by decide +kernel
theorem dX5_takeHome_4 : decode cX5_takeHome 4 = .ok (.getfield 46, 3) := by decide +kernel
theorem dX5_takeHome_7 : decode cX5_takeHome 7 = .ok (.iload_n 2, 1) := by decide +kernel
theorem dX5_takeHome_8 : decode cX5_takeHome 8 = .ok (.invokestatic 50, 3) := by decide +kernel
theorem dX5_takeHome_11 : decode cX5_takeHome 11 = .ok (.iconst 1, 1) := by decide +kernel
theorem dX5_takeHome_12 : decode cX5_takeHome 12 = .ok (.if_icmp .eq 5, 3) := by decide +kernel
theorem dX5_takeHome_15 : decode cX5_takeHome 15 = .ok (.iconst 1, 1) := by decide +kernel
theorem dX5_takeHome_16 : decode cX5_takeHome 16 = .ok (.ireturn, 1) := by decide +kernel
theorem dX5_takeHome_17 : decode cX5_takeHome 17 = .ok (.aload_n 0, 1) := by decide +kernel
theorem dX5_takeHome_18 : decode cX5_takeHome 18 = .ok (.getfield 21, 3) := by decide +kernel
theorem dX5_takeHome_21 : decode cX5_takeHome 21 = .ok (.iload_n 1, 1) := by decide +kernel
theorem dX5_takeHome_22 : decode cX5_takeHome 22 = .ok (.invokevirtual 58, 3) := by decide +kernel
theorem dX5_takeHome_25 : decode cX5_takeHome 25 = .ok (.ifCond .ne 5, 3) := by decide +kernel
theorem dX5_takeHome_28 : decode cX5_takeHome 28 = .ok (.iconst 2, 1) := by decide +kernel
theorem dX5_takeHome_29 : decode cX5_takeHome 29 = .ok (.ireturn, 1) := by decide +kernel
theorem dX5_takeHome_30 : decode cX5_takeHome 30 = .ok (.aload_n 0, 1) := by decide +kernel
theorem dX5_takeHome_31 : decode cX5_takeHome 31 = .ok (.getfield 12, 3) := by decide +kernel
theorem dX5_takeHome_34 : decode cX5_takeHome 34 = .ok (.getfield 46, 3) := by decide +kernel
theorem dX5_takeHome_37 : decode cX5_takeHome 37 = .ok (.iload_n 2, 1) := by decide +kernel
theorem dX5_takeHome_38 : decode cX5_takeHome 38 = .ok (.iconst 2, 1) := by decide +kernel
theorem dX5_takeHome_39 : decode cX5_takeHome 39 = .ok (.invokestatic 54, 3) := by decide +kernel
theorem dX5_takeHome_42 : decode cX5_takeHome 42 = .ok (.aload_n 0, 1) := by decide +kernel
theorem dX5_takeHome_43 : decode cX5_takeHome 43 = .ok (.getfield 21, 3) := by decide +kernel
theorem dX5_takeHome_46 : decode cX5_takeHome 46 = .ok (.getfield 62, 3) := by decide +kernel
theorem dX5_takeHome_49 : decode cX5_takeHome 49 = .ok (.iload_n 1, 1) := by decide +kernel
theorem dX5_takeHome_50 : decode cX5_takeHome 50 = .ok (.iload_n 2, 1) := by decide +kernel
theorem dX5_takeHome_51 : decode cX5_takeHome 51 = .ok (.invokestatic 54, 3) := by decide +kernel
theorem dX5_takeHome_54 : decode cX5_takeHome 54 = .ok (.iconst 0, 1) := by decide +kernel
theorem dX5_takeHome_55 : decode cX5_takeHome 55 = .ok (.ireturn, 1) := by decide +kernel
def wtX5_takeHome : List Cond := .code yX5_takeHome cX5_takeHome 3 (some .int) :: (([.fieldLink RX5 12 "DriftKin$Shore" "pieces" "LDriftKin$Pieces;", .fieldLink RX5 46 "DriftKin$Pieces" "place" "[I", .static yX8_at, .initialized RX8, .fieldLink RX5 21 "DriftKin$Shore" "houses" "LDriftKin$Houses;", .static yX8_put, .fieldLink RX5 62 "DriftKin$Houses" "piece" "[I"]) ++ ((u_ws RX0 TX0 3) ++ ((u_ws RX3 TX3 7) ++ ((u_ws RX5 TX5 4) ++ ((wtX8_at) ++ ((wsV RX5 58 RX0 yX0_isOfNone wtX0_isOfNone) ++ ((wtX8_put) ++ [])))))))
theorem imX5_takeHome_own : ∀ w ∈ ([.fieldLink RX5 12 "DriftKin$Shore" "pieces" "LDriftKin$Pieces;", .fieldLink RX5 46 "DriftKin$Pieces" "place" "[I", .static yX8_at, .initialized RX8, .fieldLink RX5 21 "DriftKin$Shore" "houses" "LDriftKin$Houses;", .static yX8_put, .fieldLink RX5 62 "DriftKin$Houses" "piece" "[I"] : List Cond), w ∈ wtX5_takeHome := fun w h => List.mem_cons_of_mem _ (inl h)
theorem imX5_takeHome_u_X0 : ∀ w ∈ (u_ws RX0 TX0 3 : List Cond), w ∈ wtX5_takeHome := fun w h => List.mem_cons_of_mem _ (inr (inl h))
theorem imX5_takeHome_u_X3 : ∀ w ∈ (u_ws RX3 TX3 7 : List Cond), w ∈ wtX5_takeHome := fun w h => List.mem_cons_of_mem _ (inr (inr (inl h)))
theorem imX5_takeHome_u_X5 : ∀ w ∈ (u_ws RX5 TX5 4 : List Cond), w ∈ wtX5_takeHome := fun w h => List.mem_cons_of_mem _ (inr (inr (inr (inl h))))
theorem imX5_takeHome_c_X8_at : ∀ w ∈ (wtX8_at : List Cond), w ∈ wtX5_takeHome := fun w h => List.mem_cons_of_mem _ (inr (inr (inr (inr (inl h)))))
theorem imX5_takeHome_c_X0_isOfNone : ∀ w ∈ (wsV RX5 58 RX0 yX0_isOfNone wtX0_isOfNone : List Cond), w ∈ wtX5_takeHome := fun w h => List.mem_cons_of_mem _ (inr (inr (inr (inr (inr (inl h))))))
theorem imX5_takeHome_c_X8_put : ∀ w ∈ (wtX8_put : List Cond), w ∈ wtX5_takeHome := fun w h => List.mem_cons_of_mem _ (inr (inr (inr (inr (inr (inr (inl h)))))))
theorem gdX5_takeHome : ∀ w ∈ wtX5_takeHome, Gd w := gdc rfl (gda (gdl (by decide +kernel)) (gda (gdu _ _ _) (gda (gdu _ _ _) (gda (gdu _ _ _) (gda gdX8_at (gda (gda (gdl (by decide +kernel)) gdX0_isOfNone) (gda gdX8_put gdn)))))))
theorem gcX5_takeHome_X8_at : GoodIn wtX5_takeHome (wtX8_at) := fun w h => ⟨imX5_takeHome_c_X8_at w h, gdX8_at w h⟩
theorem gcX5_takeHome_X0_isOfNone : GoodIn wtX5_takeHome (wsV RX5 58 RX0 yX0_isOfNone wtX0_isOfNone) := fun w h => ⟨imX5_takeHome_c_X0_isOfNone w h, (gda (gdl (by decide +kernel)) gdX0_isOfNone) w h⟩
theorem gcX5_takeHome_X8_put : GoodIn wtX5_takeHome (wtX8_put) := fun w h => ⟨imX5_takeHome_c_X8_put w h, gdX8_put w h⟩
def fX5_takeHome (v_place : Nat → Int32) (v_piece : Nat → Int32) (x1 : Int32) (x2 : Int32) : Option (Int32 × (Nat → Int32) × (Nat → Int32)) :=
  (fX8_at 10 v_place x2).bind (fun r1 =>
    if r1 = (1 : Int32) then
      (fX0_isOfNone v_piece x1).bind (fun r3 =>
        if r3 = (0 : Int32) then
          some ((2 : Int32), v_place, v_piece)
        else
          (fX8_put 10 v_place x2 (2 : Int32)).bind (fun r5 =>
            (fX8_put 8 v_piece x1 x2).bind (fun r6 =>
              some ((0 : Int32), r5, r6))))
    else
      some ((1 : Int32), v_place, v_piece))
def wdX5_takeHome (cI cZ : ClassId) (q0 : Nat) (q1 : Nat) (q2 : Nat) (q3 : Nat) (q4 : Nat) (d5 : Nat) (d6 : Nat) (d7 : Nat) (d8 : Nat) (d9 : Nat) (d10 : Nat) (d11 : Nat) (d12 : Nat) (d13 : Nat)  (v_place : Nat → Int32) (v_piece : Nat → Int32) (v_year : Int32) : va_W := [(q0, .inr (5, [.ref q1, .ref q3, .ref d5, .int v_year])), (q1, .inr (3, [.ref d6, .ref d7, .ref d8, .ref d9, .ref d10, .ref q2, .ref d11])), (q2, .inl (cI, 10, .inl v_place)), (q3, .inr (0, [.ref q4, .ref d12, .ref d13])), (q4, .inl (cI, 8, .inl v_piece))]
abbrev rmX5_takeHome : Jvm.Room := { frames := 2, cells := 0, slots := 0, locals := 42 }
theorem hyX5_takeHome : yX5_takeHome.cls ≠ "java/lang/invoke/MethodHandle" ∧ yX5_takeHome.cls ≠ "java/lang/invoke/VarHandle" ∧ (parseMethodDescriptor yX5_takeHome.desc).map (fun d => d.parameters.length) = some 2 := by decide +kernel
set_option maxHeartbeats 4000000 in
set_option maxRecDepth 100000 in
theorem mX5_takeHome (l : Launch) (D : va_G) (cI cZ : ClassId) (q0 : Nat) (q1 : Nat) (q2 : Nat) (q3 : Nat) (q4 : Nat) (d5 : Nat) (d6 : Nat) (d7 : Nat) (d8 : Nat) (d9 : Nat) (d10 : Nat) (d11 : Nat) (d12 : Nat) (d13 : Nat) (v_place : Nat → Int32) (v_piece : Nat → Int32) (v_year : Int32) (x1 : Int32) (x2 : Int32) (z : Int32 × (Nat → Int32) × (Nat → Int32)) (hF : fX5_takeHome v_place v_piece x1 x2 = some z) : mp l yX5_takeHome wtX5_takeHome rmX5_takeHome D cI cZ [.ref q0, .int x1, .int x2] (wdX5_takeHome cI cZ q0 q1 q2 q3 q4 d5 d6 d7 d8 d9 d10 d11 d12 d13 v_place v_piece v_year) (some (.int z.1)) (wdX5_takeHome cI cZ q0 q1 q2 q3 q4 d5 d6 d7 d8 d9 d10 d11 d12 d13 z.2.1 z.2.2 v_year) := by
  refine mp_i (lv0 := [(0, .ref q0), (1, .int x1), (2, .int x2)]) cX5_takeHome 3 z.1 (by decide) rfl (Nat.le_of_ble_eq_true rfl) rfl (fun E h hend0 => ?_)
  have hend : ∀ (z' : Int32 × (Nat → Int32) × (Nat → Int32)), some z' = some z → ∀ (pc : Nat) (lv : List (Nat × Value)), decode cX5_takeHome pc = .ok (.ireturn, 1) → G l D E 3 0 0 (wdX5_takeHome cI cZ q0 q1 q2 q3 q4 d5 d6 d7 d8 d9 d10 d11 d12 d13 (z'.2.1) (z'.2.2) v_year) pc lv [.int z'.1] := fun z' e => by cases e; exact hend0
  clear hend0
  unfold fX5_takeHome at hF
  refine g_aload_n (np := 1) h 0 rfl rfl dX5_takeHome_0 rfl ?_
  refine g_get (np := 4) (T := TX5) h imX5_takeHome_u_X5 0 5 rfl rfl 0 (by decide) (imX5_takeHome_own _ (List.mem_of_getElem? (i := 0) rfl)) rfl dX5_takeHome_1 rfl ?_
  refine g_get (np := 7) (T := TX3) h imX5_takeHome_u_X3 1 3 rfl rfl 5 (by decide) (imX5_takeHome_own _ (List.mem_of_getElem? (i := 1) rfl)) rfl dX5_takeHome_4 rfl ?_
  refine g_iload_n (np := 8) h 2 rfl rfl dX5_takeHome_7 rfl ?_
  obtain ⟨r1, hr1, hF⟩ := Option.bind_eq_some_iff.mp hF
  refine g_callN (np := 11) (Wd' := (wdX5_takeHome cI cZ q0 q1 q2 q3 q4 d5 d6 d7 d8 d9 d10 d11 d12 d13 v_place v_piece v_year)) (As := [.ref q2, .int x2]) h (mX8_at l D cI cZ q2 10 v_place x2 r1 hr1) gcX5_takeHome_X8_at rfl ⟨rfl, rfl⟩ (List.mem_of_getElem? (i := 16) rfl) (imX5_takeHome_own _ (List.mem_of_getElem? (i := 3) rfl)) (imX5_takeHome_own _ (List.mem_of_getElem? (i := 2) rfl)) hyX8_at rfl rfl rfl rfl ⟨Nat.zero_le _, Nat.zero_le _⟩ [2] [0, 1, 3, 4] (N := 5) (by decide +kernel) rfl rfl rfl rfl rfl dX5_takeHome_8 rfl ?_
  refine g_iconst (np := 12) (v := (1 : Int32)) h (by decide) dX5_takeHome_11 rfl ?_
  refine g_icmp_eq h hF dX5_takeHome_12 (np := 15) rfl (tg := 17) rfl (fun c2 hF => ?_) (fun c2 hF => ?_)
  · refine g_aload_n (np := 18) h 0 rfl rfl dX5_takeHome_17 rfl ?_
    refine g_get (np := 21) (T := TX5) h imX5_takeHome_u_X5 0 5 rfl rfl 1 (by decide) (imX5_takeHome_own _ (List.mem_of_getElem? (i := 4) rfl)) rfl dX5_takeHome_18 rfl ?_
    refine g_iload_n (np := 22) h 1 rfl rfl dX5_takeHome_21 rfl ?_
    obtain ⟨r3, hr3, hF⟩ := Option.bind_eq_some_iff.mp hF
    refine g_callV (np := 25) (Wd' := (wdX5_takeHome cI cZ q0 q1 q2 q3 q4 d5 d6 d7 d8 d9 d10 d11 d12 d13 v_place v_piece v_year)) (As := [.int x1]) h (mX0_isOfNone l D cI cZ q3 q4 d12 d13 v_piece x1 r3 hr3) gcX5_takeHome_X0_isOfNone rfl ⟨rfl, rfl⟩ ⟨rfl, hyX0_isOfNone⟩ rfl 0 3 rfl rfl rfl rfl rfl rfl ⟨Nat.zero_le _, Nat.zero_le _⟩ [3, 4] [0, 1, 2] (N := 5) (by decide +kernel) rfl rfl rfl rfl rfl dX5_takeHome_22 rfl ?_
    refine g_if_ne h hF dX5_takeHome_25 (np := 28) rfl (tg := 30) rfl (fun c4 hF => ?_) (fun c4 hF => ?_)
    · refine g_aload_n (np := 31) h 0 rfl rfl dX5_takeHome_30 rfl ?_
      refine g_get (np := 34) (T := TX5) h imX5_takeHome_u_X5 0 5 rfl rfl 0 (by decide) (imX5_takeHome_own _ (List.mem_of_getElem? (i := 0) rfl)) rfl dX5_takeHome_31 rfl ?_
      refine g_get (np := 37) (T := TX3) h imX5_takeHome_u_X3 1 3 rfl rfl 5 (by decide) (imX5_takeHome_own _ (List.mem_of_getElem? (i := 1) rfl)) rfl dX5_takeHome_34 rfl ?_
      refine g_iload_n (np := 38) h 2 rfl rfl dX5_takeHome_37 rfl ?_
      refine g_iconst (np := 39) (v := (2 : Int32)) h (by decide) dX5_takeHome_38 rfl ?_
      obtain ⟨r5, hr5, hF⟩ := Option.bind_eq_some_iff.mp hF
      refine g_callN (np := 42) (Wd' := (wdX5_takeHome cI cZ q0 q1 q2 q3 q4 d5 d6 d7 d8 d9 d10 d11 d12 d13 r5 v_piece v_year)) (As := [.ref q2, .int x2, .int (2 : Int32)]) h (mX8_put l D cI cZ q2 10 v_place x2 (2 : Int32) r5 hr5) gcX5_takeHome_X8_put rfl ⟨rfl, rfl⟩ (List.mem_of_getElem? (i := 18) rfl) (imX5_takeHome_own _ (List.mem_of_getElem? (i := 3) rfl)) (imX5_takeHome_own _ (List.mem_of_getElem? (i := 5) rfl)) hyX8_put rfl rfl rfl rfl ⟨Nat.zero_le _, Nat.zero_le _⟩ [2] [0, 1, 3, 4] (N := 5) (by decide +kernel) rfl rfl rfl rfl rfl dX5_takeHome_39 rfl ?_
      refine g_aload_n (np := 43) h 0 rfl rfl dX5_takeHome_42 rfl ?_
      refine g_get (np := 46) (T := TX5) h imX5_takeHome_u_X5 0 5 rfl rfl 1 (by decide) (imX5_takeHome_own _ (List.mem_of_getElem? (i := 4) rfl)) rfl dX5_takeHome_43 rfl ?_
      refine g_get (np := 49) (T := TX0) h imX5_takeHome_u_X0 3 0 rfl rfl 0 (by decide) (imX5_takeHome_own _ (List.mem_of_getElem? (i := 6) rfl)) rfl dX5_takeHome_46 rfl ?_
      refine g_iload_n (np := 50) h 1 rfl rfl dX5_takeHome_49 rfl ?_
      refine g_iload_n (np := 51) h 2 rfl rfl dX5_takeHome_50 rfl ?_
      obtain ⟨r6, hr6, hF⟩ := Option.bind_eq_some_iff.mp hF
      refine g_callN (np := 54) (Wd' := (wdX5_takeHome cI cZ q0 q1 q2 q3 q4 d5 d6 d7 d8 d9 d10 d11 d12 d13 r5 r6 v_year)) (As := [.ref q4, .int x1, .int x2]) h (mX8_put l D cI cZ q4 8 v_piece x1 x2 r6 hr6) gcX5_takeHome_X8_put rfl ⟨rfl, rfl⟩ (List.mem_of_getElem? (i := 18) rfl) (imX5_takeHome_own _ (List.mem_of_getElem? (i := 3) rfl)) (imX5_takeHome_own _ (List.mem_of_getElem? (i := 5) rfl)) hyX8_put rfl rfl rfl rfl ⟨Nat.zero_le _, Nat.zero_le _⟩ [4] [0, 1, 2, 3] (N := 5) (by decide +kernel) rfl rfl rfl rfl rfl dX5_takeHome_51 rfl ?_
      refine g_iconst (np := 55) (v := (0 : Int32)) h (by decide) dX5_takeHome_54 rfl ?_
      exact hend _ hF _ _ dX5_takeHome_55
    · refine g_iconst (np := 29) (v := (2 : Int32)) h (by decide) dX5_takeHome_28 rfl ?_
      exact hend _ hF _ _ dX5_takeHome_29
  · refine g_iconst (np := 16) (v := (1 : Int32)) h (by decide) dX5_takeHome_15 rfl ?_
    exact hend _ hF _ _ dX5_takeHome_16
theorem dX5_wreckOf_0 : decode cX5_wreckOf 0 = .ok (.aload_n 0, 1) := by decide +kernel
theorem dX5_wreckOf_1 : decode cX5_wreckOf 1 = .ok (.getfield 12, 3) := by decide +kernel
theorem dX5_wreckOf_4 : decode cX5_wreckOf 4 = .ok (.getfield 78, 3) := by decide +kernel
theorem dX5_wreckOf_7 : decode cX5_wreckOf 7 = .ok (.aload_n 0, 1) := by decide +kernel
theorem dX5_wreckOf_8 : decode cX5_wreckOf 8 = .ok (.getfield 21, 3) := by decide +kernel
theorem dX5_wreckOf_11 : decode cX5_wreckOf 11 = .ok (.getfield 62, 3) := by decide +kernel
theorem dX5_wreckOf_14 : decode cX5_wreckOf 14 = .ok (.iload_n 1, 1) := by decide +kernel
theorem dX5_wreckOf_15 : decode cX5_wreckOf 15 = .ok (.invokestatic 50, 3) := by decide +kernel
theorem dX5_wreckOf_18 : decode cX5_wreckOf 18 = .ok (.invokestatic 50, 3) := by decide +kernel
theorem dX5_wreckOf_21 : decode cX5_wreckOf 21 = .ok (.ireturn, 1) := by decide +kernel
def wtX5_wreckOf : List Cond := .code yX5_wreckOf cX5_wreckOf 2 (some .int) :: (([.fieldLink RX5 12 "DriftKin$Shore" "pieces" "LDriftKin$Pieces;", .fieldLink RX5 78 "DriftKin$Pieces" "wreck" "[I", .fieldLink RX5 21 "DriftKin$Shore" "houses" "LDriftKin$Houses;", .fieldLink RX5 62 "DriftKin$Houses" "piece" "[I", .static yX8_at, .initialized RX8]) ++ ((u_ws RX0 TX0 3) ++ ((u_ws RX3 TX3 7) ++ ((u_ws RX5 TX5 4) ++ ((wtX8_at) ++ [])))))
theorem imX5_wreckOf_own : ∀ w ∈ ([.fieldLink RX5 12 "DriftKin$Shore" "pieces" "LDriftKin$Pieces;", .fieldLink RX5 78 "DriftKin$Pieces" "wreck" "[I", .fieldLink RX5 21 "DriftKin$Shore" "houses" "LDriftKin$Houses;", .fieldLink RX5 62 "DriftKin$Houses" "piece" "[I", .static yX8_at, .initialized RX8] : List Cond), w ∈ wtX5_wreckOf := fun w h => List.mem_cons_of_mem _ (inl h)
theorem imX5_wreckOf_u_X0 : ∀ w ∈ (u_ws RX0 TX0 3 : List Cond), w ∈ wtX5_wreckOf := fun w h => List.mem_cons_of_mem _ (inr (inl h))
theorem imX5_wreckOf_u_X3 : ∀ w ∈ (u_ws RX3 TX3 7 : List Cond), w ∈ wtX5_wreckOf := fun w h => List.mem_cons_of_mem _ (inr (inr (inl h)))
theorem imX5_wreckOf_u_X5 : ∀ w ∈ (u_ws RX5 TX5 4 : List Cond), w ∈ wtX5_wreckOf := fun w h => List.mem_cons_of_mem _ (inr (inr (inr (inl h))))
theorem imX5_wreckOf_c_X8_at : ∀ w ∈ (wtX8_at : List Cond), w ∈ wtX5_wreckOf := fun w h => List.mem_cons_of_mem _ (inr (inr (inr (inr (inl h)))))
theorem gdX5_wreckOf : ∀ w ∈ wtX5_wreckOf, Gd w := gdc rfl (gda (gdl (by decide +kernel)) (gda (gdu _ _ _) (gda (gdu _ _ _) (gda (gdu _ _ _) (gda gdX8_at gdn)))))
theorem gcX5_wreckOf_X8_at : GoodIn wtX5_wreckOf (wtX8_at) := fun w h => ⟨imX5_wreckOf_c_X8_at w h, gdX8_at w h⟩
def fX5_wreckOf (v_wreck : Nat → Int32) (v_piece : Nat → Int32) (x1 : Int32) : Option (Int32) :=
  (fX8_at 8 v_piece x1).bind (fun r1 =>
    (fX8_at 10 v_wreck r1).bind (fun r2 =>
      some r2))
def wdX5_wreckOf (cI cZ : ClassId) (q0 : Nat) (q1 : Nat) (q2 : Nat) (q3 : Nat) (q4 : Nat) (d5 : Nat) (d6 : Nat) (d7 : Nat) (d8 : Nat) (d9 : Nat) (d10 : Nat) (d11 : Nat) (d12 : Nat) (d13 : Nat)  (v_wreck : Nat → Int32) (v_piece : Nat → Int32) (v_year : Int32) : va_W := [(q0, .inr (5, [.ref q1, .ref q3, .ref d5, .int v_year])), (q1, .inr (3, [.ref q2, .ref d6, .ref d7, .ref d8, .ref d9, .ref d10, .ref d11])), (q2, .inl (cI, 10, .inl v_wreck)), (q3, .inr (0, [.ref q4, .ref d12, .ref d13])), (q4, .inl (cI, 8, .inl v_piece))]
abbrev rmX5_wreckOf : Jvm.Room := { frames := 1, cells := 0, slots := 0, locals := 21 }
theorem hyX5_wreckOf : yX5_wreckOf.cls ≠ "java/lang/invoke/MethodHandle" ∧ yX5_wreckOf.cls ≠ "java/lang/invoke/VarHandle" ∧ (parseMethodDescriptor yX5_wreckOf.desc).map (fun d => d.parameters.length) = some 1 := by decide +kernel
set_option maxHeartbeats 4000000 in
set_option maxRecDepth 100000 in
theorem mX5_wreckOf (l : Launch) (D : va_G) (cI cZ : ClassId) (q0 : Nat) (q1 : Nat) (q2 : Nat) (q3 : Nat) (q4 : Nat) (d5 : Nat) (d6 : Nat) (d7 : Nat) (d8 : Nat) (d9 : Nat) (d10 : Nat) (d11 : Nat) (d12 : Nat) (d13 : Nat) (v_wreck : Nat → Int32) (v_piece : Nat → Int32) (v_year : Int32) (x1 : Int32) (z : Int32) (hF : fX5_wreckOf v_wreck v_piece x1 = some z) : mp l yX5_wreckOf wtX5_wreckOf rmX5_wreckOf D cI cZ [.ref q0, .int x1] (wdX5_wreckOf cI cZ q0 q1 q2 q3 q4 d5 d6 d7 d8 d9 d10 d11 d12 d13 v_wreck v_piece v_year) (some (.int z)) (wdX5_wreckOf cI cZ q0 q1 q2 q3 q4 d5 d6 d7 d8 d9 d10 d11 d12 d13 v_wreck v_piece v_year) := by
  refine mp_i (lv0 := [(0, .ref q0), (1, .int x1)]) cX5_wreckOf 2 z (by decide) rfl (Nat.le_of_ble_eq_true rfl) rfl (fun E h hend0 => ?_)
  have hend : ∀ (z' : Int32), some z' = some z → ∀ (pc : Nat) (lv : List (Nat × Value)), decode cX5_wreckOf pc = .ok (.ireturn, 1) → G l D E 2 0 0 (wdX5_wreckOf cI cZ q0 q1 q2 q3 q4 d5 d6 d7 d8 d9 d10 d11 d12 d13 v_wreck v_piece v_year) pc lv [.int z'] := fun z' e => by cases e; exact hend0
  clear hend0
  unfold fX5_wreckOf at hF
  refine g_aload_n (np := 1) h 0 rfl rfl dX5_wreckOf_0 rfl ?_
  refine g_get (np := 4) (T := TX5) h imX5_wreckOf_u_X5 0 5 rfl rfl 0 (by decide) (imX5_wreckOf_own _ (List.mem_of_getElem? (i := 0) rfl)) rfl dX5_wreckOf_1 rfl ?_
  refine g_get (np := 7) (T := TX3) h imX5_wreckOf_u_X3 1 3 rfl rfl 0 (by decide) (imX5_wreckOf_own _ (List.mem_of_getElem? (i := 1) rfl)) rfl dX5_wreckOf_4 rfl ?_
  refine g_aload_n (np := 8) h 0 rfl rfl dX5_wreckOf_7 rfl ?_
  refine g_get (np := 11) (T := TX5) h imX5_wreckOf_u_X5 0 5 rfl rfl 1 (by decide) (imX5_wreckOf_own _ (List.mem_of_getElem? (i := 2) rfl)) rfl dX5_wreckOf_8 rfl ?_
  refine g_get (np := 14) (T := TX0) h imX5_wreckOf_u_X0 3 0 rfl rfl 0 (by decide) (imX5_wreckOf_own _ (List.mem_of_getElem? (i := 3) rfl)) rfl dX5_wreckOf_11 rfl ?_
  refine g_iload_n (np := 15) h 1 rfl rfl dX5_wreckOf_14 rfl ?_
  obtain ⟨r1, hr1, hF⟩ := Option.bind_eq_some_iff.mp hF
  refine g_callN (np := 18) (Wd' := (wdX5_wreckOf cI cZ q0 q1 q2 q3 q4 d5 d6 d7 d8 d9 d10 d11 d12 d13 v_wreck v_piece v_year)) (As := [.ref q4, .int x1]) h (mX8_at l D cI cZ q4 8 v_piece x1 r1 hr1) gcX5_wreckOf_X8_at rfl ⟨rfl, rfl⟩ (List.mem_of_getElem? (i := 16) rfl) (imX5_wreckOf_own _ (List.mem_of_getElem? (i := 5) rfl)) (imX5_wreckOf_own _ (List.mem_of_getElem? (i := 4) rfl)) hyX8_at rfl rfl rfl rfl ⟨Nat.zero_le _, Nat.zero_le _⟩ [4] [0, 1, 2, 3] (N := 5) (by decide +kernel) rfl rfl rfl rfl rfl dX5_wreckOf_15 rfl ?_
  obtain ⟨r2, hr2, hF⟩ := Option.bind_eq_some_iff.mp hF
  refine g_callN (np := 21) (Wd' := (wdX5_wreckOf cI cZ q0 q1 q2 q3 q4 d5 d6 d7 d8 d9 d10 d11 d12 d13 v_wreck v_piece v_year)) (As := [.ref q2, .int r1]) h (mX8_at l D cI cZ q2 10 v_wreck r1 r2 hr2) gcX5_wreckOf_X8_at rfl ⟨rfl, rfl⟩ (List.mem_of_getElem? (i := 16) rfl) (imX5_wreckOf_own _ (List.mem_of_getElem? (i := 5) rfl)) (imX5_wreckOf_own _ (List.mem_of_getElem? (i := 4) rfl)) hyX8_at rfl rfl rfl rfl ⟨Nat.zero_le _, Nat.zero_le _⟩ [2] [0, 1, 3, 4] (N := 5) (by decide +kernel) rfl rfl rfl rfl rfl dX5_wreckOf_18 rfl ?_
  exact hend _ hF _ _ dX5_wreckOf_21
theorem dX5_marry_0 : decode cX5_marry 0 = .ok (.aload_n 0, 1) := by decide +kernel
theorem dX5_marry_1 : decode cX5_marry 1 = .ok (.getfield 21, 3) := by decide +kernel
theorem dX5_marry_4 : decode cX5_marry 4 = .ok (.iload_n 1, 1) := by decide +kernel
theorem dX5_marry_5 : decode cX5_marry 5 = .ok (.invokevirtual 58, 3) := by decide +kernel
theorem dX5_marry_8 : decode cX5_marry 8 = .ok (.ifCond .ne 14, 3) := by decide +kernel
theorem dX5_marry_11 : decode cX5_marry 11 = .ok (.aload_n 0, 1) := by decide +kernel
theorem dX5_marry_12 : decode cX5_marry 12 = .ok (.getfield 21, 3) := by decide +kernel
theorem dX5_marry_15 : decode cX5_marry 15 = .ok (.iload_n 2, 1) := by decide +kernel
theorem dX5_marry_16 : decode cX5_marry 16 = .ok (.invokevirtual 58, 3) := by decide +kernel
theorem dX5_marry_19 : decode cX5_marry 19 = .ok (.ifCond .eq 5, 3) := by decide +kernel
theorem dX5_marry_22 : decode cX5_marry 22 = .ok (.iconst 2, 1) := by decide +kernel
theorem dX5_marry_23 : decode cX5_marry 23 = .ok (.ireturn, 1) := by decide +kernel
theorem dX5_marry_24 : decode cX5_marry 24 = .ok (.iload_n 1, 1) := by decide +kernel
theorem dX5_marry_25 : decode cX5_marry 25 = .ok (.iload_n 2, 1) := by decide +kernel
theorem dX5_marry_26 : decode cX5_marry 26 = .ok (.if_icmp .ne 5, 3) := by decide +kernel
theorem dX5_marry_29 : decode cX5_marry 29 = .ok (.iconst 3, 1) := by decide +kernel
theorem dX5_marry_30 : decode cX5_marry 30 = .ok (.ireturn, 1) := by decide +kernel
theorem dX5_marry_31 : decode cX5_marry 31 = .ok (.aload_n 0, 1) := by decide +kernel
theorem dX5_marry_32 : decode cX5_marry 32 = .ok (.getfield 21, 3) := by decide +kernel
theorem dX5_marry_35 : decode cX5_marry 35 = .ok (.iload_n 1, 1) := by decide +kernel
theorem dX5_marry_36 : decode cX5_marry 36 = .ok (.invokevirtual 65, 3) := by decide +kernel
theorem dX5_marry_39 : decode cX5_marry 39 = .ok (.ifCond .ne 14, 3) := by decide +kernel
theorem dX5_marry_42 : decode cX5_marry 42 = .ok (.aload_n 0, 1) := by decide +kernel
theorem dX5_marry_43 : decode cX5_marry 43 = .ok (.getfield 21, 3) := by decide +kernel
theorem dX5_marry_46 : decode cX5_marry 46 = .ok (.iload_n 2, 1) := by decide +kernel
theorem dX5_marry_47 : decode cX5_marry 47 = .ok (.invokevirtual 65, 3) := by decide +kernel
theorem dX5_marry_50 : decode cX5_marry 50 = .ok (.ifCond .eq 5, 3) := by decide +kernel
theorem dX5_marry_53 : decode cX5_marry 53 = .ok (.iconst 4, 1) := by decide +kernel
theorem dX5_marry_54 : decode cX5_marry 54 = .ok (.ireturn, 1) := by decide +kernel
theorem dX5_marry_55 : decode cX5_marry 55 = .ok (.aload_n 0, 1) := by decide +kernel
theorem dX5_marry_56 : decode cX5_marry 56 = .ok (.iload_n 1, 1) := by decide +kernel
theorem dX5_marry_57 : decode cX5_marry 57 = .ok (.invokevirtual 68, 3) := by decide +kernel
theorem dX5_marry_60 : decode cX5_marry 60 = .ok (.aload_n 0, 1) := by decide +kernel
theorem dX5_marry_61 : decode cX5_marry 61 = .ok (.iload_n 2, 1) := by decide +kernel
theorem dX5_marry_62 : decode cX5_marry 62 = .ok (.invokevirtual 68, 3) := by decide +kernel
theorem dX5_marry_65 : decode cX5_marry 65 = .ok (.if_icmp .ne 5, 3) := by decide +kernel
theorem dX5_marry_68 : decode cX5_marry 68 = .ok (.iconst 5, 1) := by decide +kernel
theorem dX5_marry_69 : decode cX5_marry 69 = .ok (.ireturn, 1) := by decide +kernel
theorem dX5_marry_70 : decode cX5_marry 70 = .ok (.aload_n 0, 1) := by decide +kernel
theorem dX5_marry_71 : decode cX5_marry 71 = .ok (.getfield 21, 3) := by decide +kernel
theorem dX5_marry_74 : decode cX5_marry 74 = .ok (.getfield 72, 3) := by decide +kernel
theorem dX5_marry_77 : decode cX5_marry 77 = .ok (.iload_n 1, 1) := by decide +kernel
theorem dX5_marry_78 : decode cX5_marry 78 = .ok (.iload_n 2, 1) := by decide +kernel
theorem dX5_marry_79 : decode cX5_marry 79 = .ok (.invokestatic 54, 3) := by decide +kernel
theorem dX5_marry_82 : decode cX5_marry 82 = .ok (.aload_n 0, 1) := by decide +kernel
theorem dX5_marry_83 : decode cX5_marry 83 = .ok (.getfield 21, 3) := by decide +kernel
theorem dX5_marry_86 : decode cX5_marry 86 = .ok (.getfield 72, 3) := by decide +kernel
theorem dX5_marry_89 : decode cX5_marry 89 = .ok (.iload_n 2, 1) := by decide +kernel
theorem dX5_marry_90 : decode cX5_marry 90 = .ok (.iload_n 1, 1) := by decide +kernel
theorem dX5_marry_91 : decode cX5_marry 91 = .ok (.invokestatic 54, 3) := by decide +kernel
theorem dX5_marry_94 : decode cX5_marry 94 = .ok (.iconst 0, 1) := by decide +kernel
theorem dX5_marry_95 : decode cX5_marry 95 = .ok (.ireturn, 1) := by decide +kernel
def wtX5_marry : List Cond := .code yX5_marry cX5_marry 3 (some .int) :: (([.fieldLink RX5 21 "DriftKin$Shore" "houses" "LDriftKin$Houses;", .fieldLink RX5 72 "DriftKin$Houses" "partner" "[I", .static yX8_put, .initialized RX8]) ++ ((u_ws RX0 TX0 3) ++ ((u_ws RX5 TX5 4) ++ ((wsV RX5 58 RX0 yX0_isOfNone wtX0_isOfNone) ++ ((wsV RX5 65 RX0 yX0_isWed wtX0_isWed) ++ ((wsV RX5 68 RX5 yX5_wreckOf wtX5_wreckOf) ++ ((wtX8_put) ++ [])))))))
theorem imX5_marry_own : ∀ w ∈ ([.fieldLink RX5 21 "DriftKin$Shore" "houses" "LDriftKin$Houses;", .fieldLink RX5 72 "DriftKin$Houses" "partner" "[I", .static yX8_put, .initialized RX8] : List Cond), w ∈ wtX5_marry := fun w h => List.mem_cons_of_mem _ (inl h)
theorem imX5_marry_u_X0 : ∀ w ∈ (u_ws RX0 TX0 3 : List Cond), w ∈ wtX5_marry := fun w h => List.mem_cons_of_mem _ (inr (inl h))
theorem imX5_marry_u_X5 : ∀ w ∈ (u_ws RX5 TX5 4 : List Cond), w ∈ wtX5_marry := fun w h => List.mem_cons_of_mem _ (inr (inr (inl h)))
theorem imX5_marry_c_X0_isOfNone : ∀ w ∈ (wsV RX5 58 RX0 yX0_isOfNone wtX0_isOfNone : List Cond), w ∈ wtX5_marry := fun w h => List.mem_cons_of_mem _ (inr (inr (inr (inl h))))
theorem imX5_marry_c_X0_isWed : ∀ w ∈ (wsV RX5 65 RX0 yX0_isWed wtX0_isWed : List Cond), w ∈ wtX5_marry := fun w h => List.mem_cons_of_mem _ (inr (inr (inr (inr (inl h)))))
theorem imX5_marry_c_X5_wreckOf : ∀ w ∈ (wsV RX5 68 RX5 yX5_wreckOf wtX5_wreckOf : List Cond), w ∈ wtX5_marry := fun w h => List.mem_cons_of_mem _ (inr (inr (inr (inr (inr (inl h))))))
theorem imX5_marry_c_X8_put : ∀ w ∈ (wtX8_put : List Cond), w ∈ wtX5_marry := fun w h => List.mem_cons_of_mem _ (inr (inr (inr (inr (inr (inr (inl h)))))))
theorem gdX5_marry : ∀ w ∈ wtX5_marry, Gd w := gdc rfl (gda (gdl (by decide +kernel)) (gda (gdu _ _ _) (gda (gdu _ _ _) (gda (gda (gdl (by decide +kernel)) gdX0_isOfNone) (gda (gda (gdl (by decide +kernel)) gdX0_isWed) (gda (gda (gdl (by decide +kernel)) gdX5_wreckOf) (gda gdX8_put gdn)))))))
theorem gcX5_marry_X0_isOfNone : GoodIn wtX5_marry (wsV RX5 58 RX0 yX0_isOfNone wtX0_isOfNone) := fun w h => ⟨imX5_marry_c_X0_isOfNone w h, (gda (gdl (by decide +kernel)) gdX0_isOfNone) w h⟩
theorem gcX5_marry_X0_isWed : GoodIn wtX5_marry (wsV RX5 65 RX0 yX0_isWed wtX0_isWed) := fun w h => ⟨imX5_marry_c_X0_isWed w h, (gda (gdl (by decide +kernel)) gdX0_isWed) w h⟩
theorem gcX5_marry_X5_wreckOf : GoodIn wtX5_marry (wsV RX5 68 RX5 yX5_wreckOf wtX5_wreckOf) := fun w h => ⟨imX5_marry_c_X5_wreckOf w h, (gda (gdl (by decide +kernel)) gdX5_wreckOf) w h⟩
theorem gcX5_marry_X8_put : GoodIn wtX5_marry (wtX8_put) := fun w h => ⟨imX5_marry_c_X8_put w h, gdX8_put w h⟩
def fX5_marry (v_wreck : Nat → Int32) (v_piece : Nat → Int32) (v_partner : Nat → Int32) (x1 : Int32) (x2 : Int32) : Option (Int32 × (Nat → Int32)) :=
  (fX0_isOfNone v_piece x1).bind (fun r1 =>
    if r1 = (0 : Int32) then
      (fX0_isOfNone v_piece x2).bind (fun r3 =>
        if r3 = (0 : Int32) then
          if x1 = x2 then
            some ((3 : Int32), v_partner)
          else
            (fX0_isWed v_partner x1).bind (fun r6 =>
              if r6 = (0 : Int32) then
                (fX0_isWed v_partner x2).bind (fun r8 =>
                  if r8 = (0 : Int32) then
                    (fX5_wreckOf v_wreck v_piece x1).bind (fun r10 =>
                      (fX5_wreckOf v_wreck v_piece x2).bind (fun r11 =>
                        if r10 = r11 then
                          some ((5 : Int32), v_partner)
                        else
                          (fX8_put 8 v_partner x1 x2).bind (fun r13 =>
                            (fX8_put 8 r13 x2 x1).bind (fun r14 =>
                              some ((0 : Int32), r14)))))
                  else
                    some ((4 : Int32), v_partner))
              else
                some ((4 : Int32), v_partner))
        else
          some ((2 : Int32), v_partner))
    else
      some ((2 : Int32), v_partner))
def wdX5_marry (cI cZ : ClassId) (q0 : Nat) (q1 : Nat) (q2 : Nat) (q3 : Nat) (q4 : Nat) (q5 : Nat) (d6 : Nat) (d7 : Nat) (d8 : Nat) (d9 : Nat) (d10 : Nat) (d11 : Nat) (d12 : Nat) (d13 : Nat)  (v_wreck : Nat → Int32) (v_piece : Nat → Int32) (v_partner : Nat → Int32) (v_year : Int32) : va_W := [(q0, .inr (5, [.ref q1, .ref q3, .ref d6, .int v_year])), (q1, .inr (3, [.ref q2, .ref d7, .ref d8, .ref d9, .ref d10, .ref d11, .ref d12])), (q2, .inl (cI, 10, .inl v_wreck)), (q3, .inr (0, [.ref q4, .ref q5, .ref d13])), (q4, .inl (cI, 8, .inl v_piece)), (q5, .inl (cI, 8, .inl v_partner))]
abbrev rmX5_marry : Jvm.Room := { frames := 2, cells := 0, slots := 0, locals := 42 }
theorem hyX5_marry : yX5_marry.cls ≠ "java/lang/invoke/MethodHandle" ∧ yX5_marry.cls ≠ "java/lang/invoke/VarHandle" ∧ (parseMethodDescriptor yX5_marry.desc).map (fun d => d.parameters.length) = some 2 := by decide +kernel
set_option maxHeartbeats 4000000 in
set_option maxRecDepth 100000 in
theorem mX5_marry (l : Launch) (D : va_G) (cI cZ : ClassId) (q0 : Nat) (q1 : Nat) (q2 : Nat) (q3 : Nat) (q4 : Nat) (q5 : Nat) (d6 : Nat) (d7 : Nat) (d8 : Nat) (d9 : Nat) (d10 : Nat) (d11 : Nat) (d12 : Nat) (d13 : Nat) (v_wreck : Nat → Int32) (v_piece : Nat → Int32) (v_partner : Nat → Int32) (v_year : Int32) (x1 : Int32) (x2 : Int32) (z : Int32 × (Nat → Int32)) (hF : fX5_marry v_wreck v_piece v_partner x1 x2 = some z) : mp l yX5_marry wtX5_marry rmX5_marry D cI cZ [.ref q0, .int x1, .int x2] (wdX5_marry cI cZ q0 q1 q2 q3 q4 q5 d6 d7 d8 d9 d10 d11 d12 d13 v_wreck v_piece v_partner v_year) (some (.int z.1)) (wdX5_marry cI cZ q0 q1 q2 q3 q4 q5 d6 d7 d8 d9 d10 d11 d12 d13 v_wreck v_piece z.2 v_year) := by
  refine mp_i (lv0 := [(0, .ref q0), (1, .int x1), (2, .int x2)]) cX5_marry 3 z.1 (by decide) rfl (Nat.le_of_ble_eq_true rfl) rfl (fun E h hend0 => ?_)
  have hend : ∀ (z' : Int32 × (Nat → Int32)), some z' = some z → ∀ (pc : Nat) (lv : List (Nat × Value)), decode cX5_marry pc = .ok (.ireturn, 1) → G l D E 3 0 0 (wdX5_marry cI cZ q0 q1 q2 q3 q4 q5 d6 d7 d8 d9 d10 d11 d12 d13 v_wreck v_piece (z'.2) v_year) pc lv [.int z'.1] := fun z' e => by cases e; exact hend0
  clear hend0
  unfold fX5_marry at hF
  refine g_aload_n (np := 1) h 0 rfl rfl dX5_marry_0 rfl ?_
  refine g_get (np := 4) (T := TX5) h imX5_marry_u_X5 0 5 rfl rfl 1 (by decide) (imX5_marry_own _ (List.mem_of_getElem? (i := 0) rfl)) rfl dX5_marry_1 rfl ?_
  refine g_iload_n (np := 5) h 1 rfl rfl dX5_marry_4 rfl ?_
  obtain ⟨r1, hr1, hF⟩ := Option.bind_eq_some_iff.mp hF
  refine g_callV (np := 8) (Wd' := (wdX5_marry cI cZ q0 q1 q2 q3 q4 q5 d6 d7 d8 d9 d10 d11 d12 d13 v_wreck v_piece v_partner v_year)) (As := [.int x1]) h (mX0_isOfNone l D cI cZ q3 q4 q5 d13 v_piece x1 r1 hr1) gcX5_marry_X0_isOfNone rfl ⟨rfl, rfl⟩ ⟨rfl, hyX0_isOfNone⟩ rfl 0 3 rfl rfl rfl rfl rfl rfl ⟨Nat.zero_le _, Nat.zero_le _⟩ [3, 4] [0, 1, 2, 5] (N := 6) (by decide +kernel) rfl rfl rfl rfl rfl dX5_marry_5 rfl ?_
  refine g_if_ne h hF dX5_marry_8 (np := 11) rfl (tg := 22) rfl (fun c2 hF => ?_) (fun c2 hF => ?_)
  · refine g_iconst (np := 23) (v := (2 : Int32)) h (by decide) dX5_marry_22 rfl ?_
    exact hend _ hF _ _ dX5_marry_23
  · refine g_aload_n (np := 12) h 0 rfl rfl dX5_marry_11 rfl ?_
    refine g_get (np := 15) (T := TX5) h imX5_marry_u_X5 0 5 rfl rfl 1 (by decide) (imX5_marry_own _ (List.mem_of_getElem? (i := 0) rfl)) rfl dX5_marry_12 rfl ?_
    refine g_iload_n (np := 16) h 2 rfl rfl dX5_marry_15 rfl ?_
    obtain ⟨r3, hr3, hF⟩ := Option.bind_eq_some_iff.mp hF
    refine g_callV (np := 19) (Wd' := (wdX5_marry cI cZ q0 q1 q2 q3 q4 q5 d6 d7 d8 d9 d10 d11 d12 d13 v_wreck v_piece v_partner v_year)) (As := [.int x2]) h (mX0_isOfNone l D cI cZ q3 q4 q5 d13 v_piece x2 r3 hr3) gcX5_marry_X0_isOfNone rfl ⟨rfl, rfl⟩ ⟨rfl, hyX0_isOfNone⟩ rfl 0 3 rfl rfl rfl rfl rfl rfl ⟨Nat.zero_le _, Nat.zero_le _⟩ [3, 4] [0, 1, 2, 5] (N := 6) (by decide +kernel) rfl rfl rfl rfl rfl dX5_marry_16 rfl ?_
    refine g_if_eq h hF dX5_marry_19 (np := 22) rfl (tg := 24) rfl (fun c4 hF => ?_) (fun c4 hF => ?_)
    · refine g_iload_n (np := 25) h 1 rfl rfl dX5_marry_24 rfl ?_
      refine g_iload_n (np := 26) h 2 rfl rfl dX5_marry_25 rfl ?_
      refine g_icmp_ne h hF dX5_marry_26 (np := 29) rfl (tg := 31) rfl (fun c5 hF => ?_) (fun c5 hF => ?_)
      · refine g_aload_n (np := 32) h 0 rfl rfl dX5_marry_31 rfl ?_
        refine g_get (np := 35) (T := TX5) h imX5_marry_u_X5 0 5 rfl rfl 1 (by decide) (imX5_marry_own _ (List.mem_of_getElem? (i := 0) rfl)) rfl dX5_marry_32 rfl ?_
        refine g_iload_n (np := 36) h 1 rfl rfl dX5_marry_35 rfl ?_
        obtain ⟨r6, hr6, hF⟩ := Option.bind_eq_some_iff.mp hF
        refine g_callV (np := 39) (Wd' := (wdX5_marry cI cZ q0 q1 q2 q3 q4 q5 d6 d7 d8 d9 d10 d11 d12 d13 v_wreck v_piece v_partner v_year)) (As := [.int x1]) h (mX0_isWed l D cI cZ q3 q5 q4 d13 v_partner x1 r6 hr6) gcX5_marry_X0_isWed rfl ⟨rfl, rfl⟩ ⟨rfl, hyX0_isWed⟩ rfl 0 3 rfl rfl rfl rfl rfl rfl ⟨Nat.zero_le _, Nat.zero_le _⟩ [3, 5] [0, 1, 2, 4] (N := 6) (by decide +kernel) rfl rfl rfl rfl rfl dX5_marry_36 rfl ?_
        refine g_if_ne h hF dX5_marry_39 (np := 42) rfl (tg := 53) rfl (fun c7 hF => ?_) (fun c7 hF => ?_)
        · refine g_iconst (np := 54) (v := (4 : Int32)) h (by decide) dX5_marry_53 rfl ?_
          exact hend _ hF _ _ dX5_marry_54
        · refine g_aload_n (np := 43) h 0 rfl rfl dX5_marry_42 rfl ?_
          refine g_get (np := 46) (T := TX5) h imX5_marry_u_X5 0 5 rfl rfl 1 (by decide) (imX5_marry_own _ (List.mem_of_getElem? (i := 0) rfl)) rfl dX5_marry_43 rfl ?_
          refine g_iload_n (np := 47) h 2 rfl rfl dX5_marry_46 rfl ?_
          obtain ⟨r8, hr8, hF⟩ := Option.bind_eq_some_iff.mp hF
          refine g_callV (np := 50) (Wd' := (wdX5_marry cI cZ q0 q1 q2 q3 q4 q5 d6 d7 d8 d9 d10 d11 d12 d13 v_wreck v_piece v_partner v_year)) (As := [.int x2]) h (mX0_isWed l D cI cZ q3 q5 q4 d13 v_partner x2 r8 hr8) gcX5_marry_X0_isWed rfl ⟨rfl, rfl⟩ ⟨rfl, hyX0_isWed⟩ rfl 0 3 rfl rfl rfl rfl rfl rfl ⟨Nat.zero_le _, Nat.zero_le _⟩ [3, 5] [0, 1, 2, 4] (N := 6) (by decide +kernel) rfl rfl rfl rfl rfl dX5_marry_47 rfl ?_
          refine g_if_eq h hF dX5_marry_50 (np := 53) rfl (tg := 55) rfl (fun c9 hF => ?_) (fun c9 hF => ?_)
          · refine g_aload_n (np := 56) h 0 rfl rfl dX5_marry_55 rfl ?_
            refine g_iload_n (np := 57) h 1 rfl rfl dX5_marry_56 rfl ?_
            obtain ⟨r10, hr10, hF⟩ := Option.bind_eq_some_iff.mp hF
            refine g_callV (np := 60) (Wd' := (wdX5_marry cI cZ q0 q1 q2 q3 q4 q5 d6 d7 d8 d9 d10 d11 d12 d13 v_wreck v_piece v_partner v_year)) (As := [.int x1]) h (mX5_wreckOf l D cI cZ q0 q1 q2 q3 q4 d6 d7 d8 d9 d10 d11 d12 q5 d13 v_wreck v_piece v_year x1 r10 hr10) gcX5_marry_X5_wreckOf rfl ⟨rfl, rfl⟩ ⟨rfl, hyX5_wreckOf⟩ rfl 5 0 rfl rfl rfl rfl rfl rfl ⟨Nat.zero_le _, Nat.zero_le _⟩ [0, 1, 2, 3, 4] [5] (N := 6) (by decide +kernel) rfl rfl rfl rfl rfl dX5_marry_57 rfl ?_
            refine g_aload_n (np := 61) h 0 rfl rfl dX5_marry_60 rfl ?_
            refine g_iload_n (np := 62) h 2 rfl rfl dX5_marry_61 rfl ?_
            obtain ⟨r11, hr11, hF⟩ := Option.bind_eq_some_iff.mp hF
            refine g_callV (np := 65) (Wd' := (wdX5_marry cI cZ q0 q1 q2 q3 q4 q5 d6 d7 d8 d9 d10 d11 d12 d13 v_wreck v_piece v_partner v_year)) (As := [.int x2]) h (mX5_wreckOf l D cI cZ q0 q1 q2 q3 q4 d6 d7 d8 d9 d10 d11 d12 q5 d13 v_wreck v_piece v_year x2 r11 hr11) gcX5_marry_X5_wreckOf rfl ⟨rfl, rfl⟩ ⟨rfl, hyX5_wreckOf⟩ rfl 5 0 rfl rfl rfl rfl rfl rfl ⟨Nat.zero_le _, Nat.zero_le _⟩ [0, 1, 2, 3, 4] [5] (N := 6) (by decide +kernel) rfl rfl rfl rfl rfl dX5_marry_62 rfl ?_
            refine g_icmp_ne h hF dX5_marry_65 (np := 68) rfl (tg := 70) rfl (fun c12 hF => ?_) (fun c12 hF => ?_)
            · refine g_aload_n (np := 71) h 0 rfl rfl dX5_marry_70 rfl ?_
              refine g_get (np := 74) (T := TX5) h imX5_marry_u_X5 0 5 rfl rfl 1 (by decide) (imX5_marry_own _ (List.mem_of_getElem? (i := 0) rfl)) rfl dX5_marry_71 rfl ?_
              refine g_get (np := 77) (T := TX0) h imX5_marry_u_X0 3 0 rfl rfl 1 (by decide) (imX5_marry_own _ (List.mem_of_getElem? (i := 1) rfl)) rfl dX5_marry_74 rfl ?_
              refine g_iload_n (np := 78) h 1 rfl rfl dX5_marry_77 rfl ?_
              refine g_iload_n (np := 79) h 2 rfl rfl dX5_marry_78 rfl ?_
              obtain ⟨r13, hr13, hF⟩ := Option.bind_eq_some_iff.mp hF
              refine g_callN (np := 82) (Wd' := (wdX5_marry cI cZ q0 q1 q2 q3 q4 q5 d6 d7 d8 d9 d10 d11 d12 d13 v_wreck v_piece r13 v_year)) (As := [.ref q5, .int x1, .int x2]) h (mX8_put l D cI cZ q5 8 v_partner x1 x2 r13 hr13) gcX5_marry_X8_put rfl ⟨rfl, rfl⟩ (List.mem_of_getElem? (i := 18) rfl) (imX5_marry_own _ (List.mem_of_getElem? (i := 3) rfl)) (imX5_marry_own _ (List.mem_of_getElem? (i := 2) rfl)) hyX8_put rfl rfl rfl rfl ⟨Nat.zero_le _, Nat.zero_le _⟩ [5] [0, 1, 2, 3, 4] (N := 6) (by decide +kernel) rfl rfl rfl rfl rfl dX5_marry_79 rfl ?_
              refine g_aload_n (np := 83) h 0 rfl rfl dX5_marry_82 rfl ?_
              refine g_get (np := 86) (T := TX5) h imX5_marry_u_X5 0 5 rfl rfl 1 (by decide) (imX5_marry_own _ (List.mem_of_getElem? (i := 0) rfl)) rfl dX5_marry_83 rfl ?_
              refine g_get (np := 89) (T := TX0) h imX5_marry_u_X0 3 0 rfl rfl 1 (by decide) (imX5_marry_own _ (List.mem_of_getElem? (i := 1) rfl)) rfl dX5_marry_86 rfl ?_
              refine g_iload_n (np := 90) h 2 rfl rfl dX5_marry_89 rfl ?_
              refine g_iload_n (np := 91) h 1 rfl rfl dX5_marry_90 rfl ?_
              obtain ⟨r14, hr14, hF⟩ := Option.bind_eq_some_iff.mp hF
              refine g_callN (np := 94) (Wd' := (wdX5_marry cI cZ q0 q1 q2 q3 q4 q5 d6 d7 d8 d9 d10 d11 d12 d13 v_wreck v_piece r14 v_year)) (As := [.ref q5, .int x2, .int x1]) h (mX8_put l D cI cZ q5 8 r13 x2 x1 r14 hr14) gcX5_marry_X8_put rfl ⟨rfl, rfl⟩ (List.mem_of_getElem? (i := 18) rfl) (imX5_marry_own _ (List.mem_of_getElem? (i := 3) rfl)) (imX5_marry_own _ (List.mem_of_getElem? (i := 2) rfl)) hyX8_put rfl rfl rfl rfl ⟨Nat.zero_le _, Nat.zero_le _⟩ [5] [0, 1, 2, 3, 4] (N := 6) (by decide +kernel) rfl rfl rfl rfl rfl dX5_marry_91 rfl ?_
              refine g_iconst (np := 95) (v := (0 : Int32)) h (by decide) dX5_marry_94 rfl ?_
              exact hend _ hF _ _ dX5_marry_95
            · refine g_iconst (np := 69) (v := (5 : Int32)) h (by decide) dX5_marry_68 rfl ?_
              exact hend _ hF _ _ dX5_marry_69
          · refine g_iconst (np := 54) (v := (4 : Int32)) h (by decide) dX5_marry_53 rfl ?_
            exact hend _ hF _ _ dX5_marry_54
      · refine g_iconst (np := 30) (v := (3 : Int32)) h (by decide) dX5_marry_29 rfl ?_
        exact hend _ hF _ _ dX5_marry_30
    · refine g_iconst (np := 23) (v := (2 : Int32)) h (by decide) dX5_marry_22 rfl ?_
      exact hend _ hF _ _ dX5_marry_23
theorem dX5_part_0 : decode cX5_part 0 = .ok (.aload_n 0, 1) := by decide +kernel
theorem dX5_part_1 : decode cX5_part 1 = .ok (.getfield 21, 3) := by decide +kernel
theorem dX5_part_4 : decode cX5_part 4 = .ok (.iload_n 1, 1) := by decide +kernel
theorem dX5_part_5 : decode cX5_part 5 = .ok (.invokevirtual 65, 3) := by decide +kernel
theorem dX5_part_8 : decode cX5_part 8 = .ok (.ifCond .ne 5, 3) := by decide +kernel
theorem dX5_part_11 : decode cX5_part 11 = .ok (.iconst 4, 1) := by decide +kernel
theorem dX5_part_12 : decode cX5_part 12 = .ok (.ireturn, 1) := by decide +kernel
theorem dX5_part_13 : decode cX5_part 13 = .ok (.aload_n 0, 1) := by decide +kernel
theorem dX5_part_14 : decode cX5_part 14 = .ok (.getfield 21, 3) := by decide +kernel
theorem dX5_part_17 : decode cX5_part 17 = .ok (.getfield 72, 3) := by decide +kernel
theorem dX5_part_20 : decode cX5_part 20 = .ok (.aload_n 0, 1) := by decide +kernel
theorem dX5_part_21 : decode cX5_part 21 = .ok (.getfield 21, 3) := by decide +kernel
theorem dX5_part_24 : decode cX5_part 24 = .ok (.getfield 72, 3) := by decide +kernel
theorem dX5_part_27 : decode cX5_part 27 = .ok (.iload_n 1, 1) := by decide +kernel
theorem dX5_part_28 : decode cX5_part 28 = .ok (.invokestatic 50, 3) := by decide +kernel
theorem dX5_part_31 : decode cX5_part 31 = .ok (.bipush (-6), 2) := by decide +kernel
theorem dX5_part_33 : decode cX5_part 33 = .ok (.invokestatic 54, 3) := by decide +kernel
theorem dX5_part_36 : decode cX5_part 36 = .ok (.aload_n 0, 1) := by decide +kernel
theorem dX5_part_37 : decode cX5_part 37 = .ok (.getfield 21, 3) := by decide +kernel
theorem dX5_part_40 : decode cX5_part 40 = .ok (.getfield 72, 3) := by decide +kernel
theorem dX5_part_43 : decode cX5_part 43 = .ok (.iload_n 1, 1) := by decide +kernel
theorem dX5_part_44 : decode cX5_part 44 = .ok (.bipush (-6), 2) := by decide +kernel
theorem dX5_part_46 : decode cX5_part 46 = .ok (.invokestatic 54, 3) := by decide +kernel
theorem dX5_part_49 : decode cX5_part 49 = .ok (.iconst 0, 1) := by decide +kernel
theorem dX5_part_50 : decode cX5_part 50 = .ok (.ireturn, 1) := by decide +kernel
def wtX5_part : List Cond := .code yX5_part cX5_part 2 (some .int) :: (([.fieldLink RX5 21 "DriftKin$Shore" "houses" "LDriftKin$Houses;", .fieldLink RX5 72 "DriftKin$Houses" "partner" "[I", .static yX8_at, .initialized RX8, .static yX8_put]) ++ ((u_ws RX0 TX0 3) ++ ((u_ws RX5 TX5 4) ++ ((wsV RX5 65 RX0 yX0_isWed wtX0_isWed) ++ ((wtX8_at) ++ ((wtX8_put) ++ []))))))
theorem imX5_part_own : ∀ w ∈ ([.fieldLink RX5 21 "DriftKin$Shore" "houses" "LDriftKin$Houses;", .fieldLink RX5 72 "DriftKin$Houses" "partner" "[I", .static yX8_at, .initialized RX8, .static yX8_put] : List Cond), w ∈ wtX5_part := fun w h => List.mem_cons_of_mem _ (inl h)
theorem imX5_part_u_X0 : ∀ w ∈ (u_ws RX0 TX0 3 : List Cond), w ∈ wtX5_part := fun w h => List.mem_cons_of_mem _ (inr (inl h))
theorem imX5_part_u_X5 : ∀ w ∈ (u_ws RX5 TX5 4 : List Cond), w ∈ wtX5_part := fun w h => List.mem_cons_of_mem _ (inr (inr (inl h)))
theorem imX5_part_c_X0_isWed : ∀ w ∈ (wsV RX5 65 RX0 yX0_isWed wtX0_isWed : List Cond), w ∈ wtX5_part := fun w h => List.mem_cons_of_mem _ (inr (inr (inr (inl h))))
theorem imX5_part_c_X8_at : ∀ w ∈ (wtX8_at : List Cond), w ∈ wtX5_part := fun w h => List.mem_cons_of_mem _ (inr (inr (inr (inr (inl h)))))
theorem imX5_part_c_X8_put : ∀ w ∈ (wtX8_put : List Cond), w ∈ wtX5_part := fun w h => List.mem_cons_of_mem _ (inr (inr (inr (inr (inr (inl h))))))
theorem gdX5_part : ∀ w ∈ wtX5_part, Gd w := gdc rfl (gda (gdl (by decide +kernel)) (gda (gdu _ _ _) (gda (gdu _ _ _) (gda (gda (gdl (by decide +kernel)) gdX0_isWed) (gda gdX8_at (gda gdX8_put gdn))))))
theorem gcX5_part_X0_isWed : GoodIn wtX5_part (wsV RX5 65 RX0 yX0_isWed wtX0_isWed) := fun w h => ⟨imX5_part_c_X0_isWed w h, (gda (gdl (by decide +kernel)) gdX0_isWed) w h⟩
theorem gcX5_part_X8_at : GoodIn wtX5_part (wtX8_at) := fun w h => ⟨imX5_part_c_X8_at w h, gdX8_at w h⟩
theorem gcX5_part_X8_put : GoodIn wtX5_part (wtX8_put) := fun w h => ⟨imX5_part_c_X8_put w h, gdX8_put w h⟩
def fX5_part (v_partner : Nat → Int32) (x1 : Int32) : Option (Int32 × (Nat → Int32)) :=
  (fX0_isWed v_partner x1).bind (fun r1 =>
    if r1 = (0 : Int32) then
      some ((4 : Int32), v_partner)
    else
      (fX8_at 8 v_partner x1).bind (fun r3 =>
        (fX8_put 8 v_partner r3 (-6 : Int32)).bind (fun r4 =>
          (fX8_put 8 r4 x1 (-6 : Int32)).bind (fun r5 =>
            some ((0 : Int32), r5)))))
def wdX5_part (cI cZ : ClassId) (q0 : Nat) (q1 : Nat) (q2 : Nat) (d3 : Nat) (d4 : Nat) (d5 : Nat) (d6 : Nat)  (v_partner : Nat → Int32) (v_year : Int32) : va_W := [(q0, .inr (5, [.ref d3, .ref q1, .ref d4, .int v_year])), (q1, .inr (0, [.ref d5, .ref q2, .ref d6])), (q2, .inl (cI, 8, .inl v_partner))]
abbrev rmX5_part : Jvm.Room := { frames := 2, cells := 0, slots := 0, locals := 42 }
theorem hyX5_part : yX5_part.cls ≠ "java/lang/invoke/MethodHandle" ∧ yX5_part.cls ≠ "java/lang/invoke/VarHandle" ∧ (parseMethodDescriptor yX5_part.desc).map (fun d => d.parameters.length) = some 1 := by decide +kernel
set_option maxHeartbeats 4000000 in
set_option maxRecDepth 100000 in
theorem mX5_part (l : Launch) (D : va_G) (cI cZ : ClassId) (q0 : Nat) (q1 : Nat) (q2 : Nat) (d3 : Nat) (d4 : Nat) (d5 : Nat) (d6 : Nat) (v_partner : Nat → Int32) (v_year : Int32) (x1 : Int32) (z : Int32 × (Nat → Int32)) (hF : fX5_part v_partner x1 = some z) : mp l yX5_part wtX5_part rmX5_part D cI cZ [.ref q0, .int x1] (wdX5_part cI cZ q0 q1 q2 d3 d4 d5 d6 v_partner v_year) (some (.int z.1)) (wdX5_part cI cZ q0 q1 q2 d3 d4 d5 d6 z.2 v_year) := by
  refine mp_i (lv0 := [(0, .ref q0), (1, .int x1)]) cX5_part 2 z.1 (by decide) rfl (Nat.le_of_ble_eq_true rfl) rfl (fun E h hend0 => ?_)
  have hend : ∀ (z' : Int32 × (Nat → Int32)), some z' = some z → ∀ (pc : Nat) (lv : List (Nat × Value)), decode cX5_part pc = .ok (.ireturn, 1) → G l D E 2 0 0 (wdX5_part cI cZ q0 q1 q2 d3 d4 d5 d6 (z'.2) v_year) pc lv [.int z'.1] := fun z' e => by cases e; exact hend0
  clear hend0
  unfold fX5_part at hF
  refine g_aload_n (np := 1) h 0 rfl rfl dX5_part_0 rfl ?_
  refine g_get (np := 4) (T := TX5) h imX5_part_u_X5 0 5 rfl rfl 1 (by decide) (imX5_part_own _ (List.mem_of_getElem? (i := 0) rfl)) rfl dX5_part_1 rfl ?_
  refine g_iload_n (np := 5) h 1 rfl rfl dX5_part_4 rfl ?_
  obtain ⟨r1, hr1, hF⟩ := Option.bind_eq_some_iff.mp hF
  refine g_callV (np := 8) (Wd' := (wdX5_part cI cZ q0 q1 q2 d3 d4 d5 d6 v_partner v_year)) (As := [.int x1]) h (mX0_isWed l D cI cZ q1 q2 d5 d6 v_partner x1 r1 hr1) gcX5_part_X0_isWed rfl ⟨rfl, rfl⟩ ⟨rfl, hyX0_isWed⟩ rfl 0 1 rfl rfl rfl rfl rfl rfl ⟨Nat.zero_le _, Nat.zero_le _⟩ [1, 2] [0] (N := 3) (by decide +kernel) rfl rfl rfl rfl rfl dX5_part_5 rfl ?_
  refine g_if_ne h hF dX5_part_8 (np := 11) rfl (tg := 13) rfl (fun c2 hF => ?_) (fun c2 hF => ?_)
  · refine g_aload_n (np := 14) h 0 rfl rfl dX5_part_13 rfl ?_
    refine g_get (np := 17) (T := TX5) h imX5_part_u_X5 0 5 rfl rfl 1 (by decide) (imX5_part_own _ (List.mem_of_getElem? (i := 0) rfl)) rfl dX5_part_14 rfl ?_
    refine g_get (np := 20) (T := TX0) h imX5_part_u_X0 1 0 rfl rfl 1 (by decide) (imX5_part_own _ (List.mem_of_getElem? (i := 1) rfl)) rfl dX5_part_17 rfl ?_
    refine g_aload_n (np := 21) h 0 rfl rfl dX5_part_20 rfl ?_
    refine g_get (np := 24) (T := TX5) h imX5_part_u_X5 0 5 rfl rfl 1 (by decide) (imX5_part_own _ (List.mem_of_getElem? (i := 0) rfl)) rfl dX5_part_21 rfl ?_
    refine g_get (np := 27) (T := TX0) h imX5_part_u_X0 1 0 rfl rfl 1 (by decide) (imX5_part_own _ (List.mem_of_getElem? (i := 1) rfl)) rfl dX5_part_24 rfl ?_
    refine g_iload_n (np := 28) h 1 rfl rfl dX5_part_27 rfl ?_
    obtain ⟨r3, hr3, hF⟩ := Option.bind_eq_some_iff.mp hF
    refine g_callN (np := 31) (Wd' := (wdX5_part cI cZ q0 q1 q2 d3 d4 d5 d6 v_partner v_year)) (As := [.ref q2, .int x1]) h (mX8_at l D cI cZ q2 8 v_partner x1 r3 hr3) gcX5_part_X8_at rfl ⟨rfl, rfl⟩ (List.mem_of_getElem? (i := 16) rfl) (imX5_part_own _ (List.mem_of_getElem? (i := 3) rfl)) (imX5_part_own _ (List.mem_of_getElem? (i := 2) rfl)) hyX8_at rfl rfl rfl rfl ⟨Nat.zero_le _, Nat.zero_le _⟩ [2] [0, 1] (N := 3) (by decide +kernel) rfl rfl rfl rfl rfl dX5_part_28 rfl ?_
    refine g_bipush (np := 33) (v := (-6 : Int32)) h (by decide) dX5_part_31 rfl ?_
    obtain ⟨r4, hr4, hF⟩ := Option.bind_eq_some_iff.mp hF
    refine g_callN (np := 36) (Wd' := (wdX5_part cI cZ q0 q1 q2 d3 d4 d5 d6 r4 v_year)) (As := [.ref q2, .int r3, .int (-6 : Int32)]) h (mX8_put l D cI cZ q2 8 v_partner r3 (-6 : Int32) r4 hr4) gcX5_part_X8_put rfl ⟨rfl, rfl⟩ (List.mem_of_getElem? (i := 18) rfl) (imX5_part_own _ (List.mem_of_getElem? (i := 3) rfl)) (imX5_part_own _ (List.mem_of_getElem? (i := 4) rfl)) hyX8_put rfl rfl rfl rfl ⟨Nat.zero_le _, Nat.zero_le _⟩ [2] [0, 1] (N := 3) (by decide +kernel) rfl rfl rfl rfl rfl dX5_part_33 rfl ?_
    refine g_aload_n (np := 37) h 0 rfl rfl dX5_part_36 rfl ?_
    refine g_get (np := 40) (T := TX5) h imX5_part_u_X5 0 5 rfl rfl 1 (by decide) (imX5_part_own _ (List.mem_of_getElem? (i := 0) rfl)) rfl dX5_part_37 rfl ?_
    refine g_get (np := 43) (T := TX0) h imX5_part_u_X0 1 0 rfl rfl 1 (by decide) (imX5_part_own _ (List.mem_of_getElem? (i := 1) rfl)) rfl dX5_part_40 rfl ?_
    refine g_iload_n (np := 44) h 1 rfl rfl dX5_part_43 rfl ?_
    refine g_bipush (np := 46) (v := (-6 : Int32)) h (by decide) dX5_part_44 rfl ?_
    obtain ⟨r5, hr5, hF⟩ := Option.bind_eq_some_iff.mp hF
    refine g_callN (np := 49) (Wd' := (wdX5_part cI cZ q0 q1 q2 d3 d4 d5 d6 r5 v_year)) (As := [.ref q2, .int x1, .int (-6 : Int32)]) h (mX8_put l D cI cZ q2 8 r4 x1 (-6 : Int32) r5 hr5) gcX5_part_X8_put rfl ⟨rfl, rfl⟩ (List.mem_of_getElem? (i := 18) rfl) (imX5_part_own _ (List.mem_of_getElem? (i := 3) rfl)) (imX5_part_own _ (List.mem_of_getElem? (i := 4) rfl)) hyX8_put rfl rfl rfl rfl ⟨Nat.zero_le _, Nat.zero_le _⟩ [2] [0, 1] (N := 3) (by decide +kernel) rfl rfl rfl rfl rfl dX5_part_46 rfl ?_
    refine g_iconst (np := 50) (v := (0 : Int32)) h (by decide) dX5_part_49 rfl ?_
    exact hend _ hF _ _ dX5_part_50
  · refine g_iconst (np := 12) (v := (4 : Int32)) h (by decide) dX5_part_11 rfl ?_
    exact hend _ hF _ _ dX5_part_12
theorem dX5_burn_0 : decode cX5_burn 0 = .ok (.aload_n 0, 1) := by decide +kernel
theorem dX5_burn_1 : decode cX5_burn 1 = .ok (.getfield 21, 3) := by decide +kernel
theorem dX5_burn_4 : decode cX5_burn 4 = .ok (.iload_n 1, 1) := by decide +kernel
theorem dX5_burn_5 : decode cX5_burn 5 = .ok (.invokevirtual 58, 3) := by decide +kernel
theorem dX5_burn_8 : decode cX5_burn 8 = .ok (.ifCond .eq 5, 3) := by decide +kernel
theorem dX5_burn_11 : decode cX5_burn 11 = .ok (.iconst 2, 1) := by decide +kernel
theorem dX5_burn_12 : decode cX5_burn 12 = .ok (.ireturn, 1) := by decide +kernel
theorem dX5_burn_13 : decode cX5_burn 13 = .ok (.aload_n 0, 1) := by decide +kernel
theorem dX5_burn_14 : decode cX5_burn 14 = .ok (.getfield 12, 3) := by decide +kernel
theorem dX5_burn_17 : decode cX5_burn 17 = .ok (.getfield 46, 3) := by decide +kernel
theorem dX5_burn_20 : decode cX5_burn 20 = .ok (.aload_n 0, 1) := by decide +kernel
theorem dX5_burn_21 : decode cX5_burn 21 = .ok (.getfield 21, 3) := by decide +kernel
theorem dX5_burn_24 : decode cX5_burn 24 = .ok (.getfield 62, 3) := by decide +kernel
theorem dX5_burn_27 : decode cX5_burn 27 = .ok (.iload_n 1, 1) := by decide +kernel
theorem dX5_burn_28 : decode cX5_burn 28 = .ok (.invokestatic 50, 3) := by decide +kernel
theorem dX5_burn_31 : decode cX5_burn 31 = .ok (.iconst 3, 1) := by decide +kernel
theorem dX5_burn_32 : decode cX5_burn 32 = .ok (.invokestatic 54, 3) := by decide +kernel
theorem dX5_burn_35 : decode cX5_burn 35 = .ok (.aload_n 0, 1) := by decide +kernel
theorem dX5_burn_36 : decode cX5_burn 36 = .ok (.getfield 21, 3) := by decide +kernel
theorem dX5_burn_39 : decode cX5_burn 39 = .ok (.getfield 62, 3) := by decide +kernel
theorem dX5_burn_42 : decode cX5_burn 42 = .ok (.iload_n 1, 1) := by decide +kernel
theorem dX5_burn_43 : decode cX5_burn 43 = .ok (.bipush (-6), 2) := by decide +kernel
theorem dX5_burn_45 : decode cX5_burn 45 = .ok (.invokestatic 54, 3) := by decide +kernel
theorem dX5_burn_48 : decode cX5_burn 48 = .ok (.iconst 0, 1) := by decide +kernel
theorem dX5_burn_49 : decode cX5_burn 49 = .ok (.ireturn, 1) := by decide +kernel
def wtX5_burn : List Cond := .code yX5_burn cX5_burn 2 (some .int) :: (([.fieldLink RX5 21 "DriftKin$Shore" "houses" "LDriftKin$Houses;", .fieldLink RX5 12 "DriftKin$Shore" "pieces" "LDriftKin$Pieces;", .fieldLink RX5 46 "DriftKin$Pieces" "place" "[I", .fieldLink RX5 62 "DriftKin$Houses" "piece" "[I", .static yX8_at, .initialized RX8, .static yX8_put]) ++ ((u_ws RX0 TX0 3) ++ ((u_ws RX3 TX3 7) ++ ((u_ws RX5 TX5 4) ++ ((wsV RX5 58 RX0 yX0_isOfNone wtX0_isOfNone) ++ ((wtX8_at) ++ ((wtX8_put) ++ [])))))))
theorem imX5_burn_own : ∀ w ∈ ([.fieldLink RX5 21 "DriftKin$Shore" "houses" "LDriftKin$Houses;", .fieldLink RX5 12 "DriftKin$Shore" "pieces" "LDriftKin$Pieces;", .fieldLink RX5 46 "DriftKin$Pieces" "place" "[I", .fieldLink RX5 62 "DriftKin$Houses" "piece" "[I", .static yX8_at, .initialized RX8, .static yX8_put] : List Cond), w ∈ wtX5_burn := fun w h => List.mem_cons_of_mem _ (inl h)
theorem imX5_burn_u_X0 : ∀ w ∈ (u_ws RX0 TX0 3 : List Cond), w ∈ wtX5_burn := fun w h => List.mem_cons_of_mem _ (inr (inl h))
theorem imX5_burn_u_X3 : ∀ w ∈ (u_ws RX3 TX3 7 : List Cond), w ∈ wtX5_burn := fun w h => List.mem_cons_of_mem _ (inr (inr (inl h)))
theorem imX5_burn_u_X5 : ∀ w ∈ (u_ws RX5 TX5 4 : List Cond), w ∈ wtX5_burn := fun w h => List.mem_cons_of_mem _ (inr (inr (inr (inl h))))
theorem imX5_burn_c_X0_isOfNone : ∀ w ∈ (wsV RX5 58 RX0 yX0_isOfNone wtX0_isOfNone : List Cond), w ∈ wtX5_burn := fun w h => List.mem_cons_of_mem _ (inr (inr (inr (inr (inl h)))))
theorem imX5_burn_c_X8_at : ∀ w ∈ (wtX8_at : List Cond), w ∈ wtX5_burn := fun w h => List.mem_cons_of_mem _ (inr (inr (inr (inr (inr (inl h))))))
theorem imX5_burn_c_X8_put : ∀ w ∈ (wtX8_put : List Cond), w ∈ wtX5_burn := fun w h => List.mem_cons_of_mem _ (inr (inr (inr (inr (inr (inr (inl h)))))))
theorem gdX5_burn : ∀ w ∈ wtX5_burn, Gd w := gdc rfl (gda (gdl (by decide +kernel)) (gda (gdu _ _ _) (gda (gdu _ _ _) (gda (gdu _ _ _) (gda (gda (gdl (by decide +kernel)) gdX0_isOfNone) (gda gdX8_at (gda gdX8_put gdn)))))))
theorem gcX5_burn_X0_isOfNone : GoodIn wtX5_burn (wsV RX5 58 RX0 yX0_isOfNone wtX0_isOfNone) := fun w h => ⟨imX5_burn_c_X0_isOfNone w h, (gda (gdl (by decide +kernel)) gdX0_isOfNone) w h⟩
theorem gcX5_burn_X8_at : GoodIn wtX5_burn (wtX8_at) := fun w h => ⟨imX5_burn_c_X8_at w h, gdX8_at w h⟩
theorem gcX5_burn_X8_put : GoodIn wtX5_burn (wtX8_put) := fun w h => ⟨imX5_burn_c_X8_put w h, gdX8_put w h⟩
def fX5_burn (v_place : Nat → Int32) (v_piece : Nat → Int32) (x1 : Int32) : Option (Int32 × (Nat → Int32) × (Nat → Int32)) :=
  (fX0_isOfNone v_piece x1).bind (fun r1 =>
    if r1 = (0 : Int32) then
      (fX8_at 8 v_piece x1).bind (fun r3 =>
        (fX8_put 10 v_place r3 (3 : Int32)).bind (fun r4 =>
          (fX8_put 8 v_piece x1 (-6 : Int32)).bind (fun r5 =>
            some ((0 : Int32), r4, r5))))
    else
      some ((2 : Int32), v_place, v_piece))
def wdX5_burn (cI cZ : ClassId) (q0 : Nat) (q1 : Nat) (q2 : Nat) (q3 : Nat) (q4 : Nat) (d5 : Nat) (d6 : Nat) (d7 : Nat) (d8 : Nat) (d9 : Nat) (d10 : Nat) (d11 : Nat) (d12 : Nat) (d13 : Nat)  (v_place : Nat → Int32) (v_piece : Nat → Int32) (v_year : Int32) : va_W := [(q0, .inr (5, [.ref q1, .ref q3, .ref d5, .int v_year])), (q1, .inr (3, [.ref d6, .ref d7, .ref d8, .ref d9, .ref d10, .ref q2, .ref d11])), (q2, .inl (cI, 10, .inl v_place)), (q3, .inr (0, [.ref q4, .ref d12, .ref d13])), (q4, .inl (cI, 8, .inl v_piece))]
abbrev rmX5_burn : Jvm.Room := { frames := 2, cells := 0, slots := 0, locals := 42 }
theorem hyX5_burn : yX5_burn.cls ≠ "java/lang/invoke/MethodHandle" ∧ yX5_burn.cls ≠ "java/lang/invoke/VarHandle" ∧ (parseMethodDescriptor yX5_burn.desc).map (fun d => d.parameters.length) = some 1 := by decide +kernel
set_option maxHeartbeats 4000000 in
set_option maxRecDepth 100000 in
theorem mX5_burn (l : Launch) (D : va_G) (cI cZ : ClassId) (q0 : Nat) (q1 : Nat) (q2 : Nat) (q3 : Nat) (q4 : Nat) (d5 : Nat) (d6 : Nat) (d7 : Nat) (d8 : Nat) (d9 : Nat) (d10 : Nat) (d11 : Nat) (d12 : Nat) (d13 : Nat) (v_place : Nat → Int32) (v_piece : Nat → Int32) (v_year : Int32) (x1 : Int32) (z : Int32 × (Nat → Int32) × (Nat → Int32)) (hF : fX5_burn v_place v_piece x1 = some z) : mp l yX5_burn wtX5_burn rmX5_burn D cI cZ [.ref q0, .int x1] (wdX5_burn cI cZ q0 q1 q2 q3 q4 d5 d6 d7 d8 d9 d10 d11 d12 d13 v_place v_piece v_year) (some (.int z.1)) (wdX5_burn cI cZ q0 q1 q2 q3 q4 d5 d6 d7 d8 d9 d10 d11 d12 d13 z.2.1 z.2.2 v_year) := by
  refine mp_i (lv0 := [(0, .ref q0), (1, .int x1)]) cX5_burn 2 z.1 (by decide) rfl (Nat.le_of_ble_eq_true rfl) rfl (fun E h hend0 => ?_)
  have hend : ∀ (z' : Int32 × (Nat → Int32) × (Nat → Int32)), some z' = some z → ∀ (pc : Nat) (lv : List (Nat × Value)), decode cX5_burn pc = .ok (.ireturn, 1) → G l D E 2 0 0 (wdX5_burn cI cZ q0 q1 q2 q3 q4 d5 d6 d7 d8 d9 d10 d11 d12 d13 (z'.2.1) (z'.2.2) v_year) pc lv [.int z'.1] := fun z' e => by cases e; exact hend0
  clear hend0
  unfold fX5_burn at hF
  refine g_aload_n (np := 1) h 0 rfl rfl dX5_burn_0 rfl ?_
  refine g_get (np := 4) (T := TX5) h imX5_burn_u_X5 0 5 rfl rfl 1 (by decide) (imX5_burn_own _ (List.mem_of_getElem? (i := 0) rfl)) rfl dX5_burn_1 rfl ?_
  refine g_iload_n (np := 5) h 1 rfl rfl dX5_burn_4 rfl ?_
  obtain ⟨r1, hr1, hF⟩ := Option.bind_eq_some_iff.mp hF
  refine g_callV (np := 8) (Wd' := (wdX5_burn cI cZ q0 q1 q2 q3 q4 d5 d6 d7 d8 d9 d10 d11 d12 d13 v_place v_piece v_year)) (As := [.int x1]) h (mX0_isOfNone l D cI cZ q3 q4 d12 d13 v_piece x1 r1 hr1) gcX5_burn_X0_isOfNone rfl ⟨rfl, rfl⟩ ⟨rfl, hyX0_isOfNone⟩ rfl 0 3 rfl rfl rfl rfl rfl rfl ⟨Nat.zero_le _, Nat.zero_le _⟩ [3, 4] [0, 1, 2] (N := 5) (by decide +kernel) rfl rfl rfl rfl rfl dX5_burn_5 rfl ?_
  refine g_if_eq h hF dX5_burn_8 (np := 11) rfl (tg := 13) rfl (fun c2 hF => ?_) (fun c2 hF => ?_)
  · refine g_aload_n (np := 14) h 0 rfl rfl dX5_burn_13 rfl ?_
    refine g_get (np := 17) (T := TX5) h imX5_burn_u_X5 0 5 rfl rfl 0 (by decide) (imX5_burn_own _ (List.mem_of_getElem? (i := 1) rfl)) rfl dX5_burn_14 rfl ?_
    refine g_get (np := 20) (T := TX3) h imX5_burn_u_X3 1 3 rfl rfl 5 (by decide) (imX5_burn_own _ (List.mem_of_getElem? (i := 2) rfl)) rfl dX5_burn_17 rfl ?_
    refine g_aload_n (np := 21) h 0 rfl rfl dX5_burn_20 rfl ?_
    refine g_get (np := 24) (T := TX5) h imX5_burn_u_X5 0 5 rfl rfl 1 (by decide) (imX5_burn_own _ (List.mem_of_getElem? (i := 0) rfl)) rfl dX5_burn_21 rfl ?_
    refine g_get (np := 27) (T := TX0) h imX5_burn_u_X0 3 0 rfl rfl 0 (by decide) (imX5_burn_own _ (List.mem_of_getElem? (i := 3) rfl)) rfl dX5_burn_24 rfl ?_
    refine g_iload_n (np := 28) h 1 rfl rfl dX5_burn_27 rfl ?_
    obtain ⟨r3, hr3, hF⟩ := Option.bind_eq_some_iff.mp hF
    refine g_callN (np := 31) (Wd' := (wdX5_burn cI cZ q0 q1 q2 q3 q4 d5 d6 d7 d8 d9 d10 d11 d12 d13 v_place v_piece v_year)) (As := [.ref q4, .int x1]) h (mX8_at l D cI cZ q4 8 v_piece x1 r3 hr3) gcX5_burn_X8_at rfl ⟨rfl, rfl⟩ (List.mem_of_getElem? (i := 16) rfl) (imX5_burn_own _ (List.mem_of_getElem? (i := 5) rfl)) (imX5_burn_own _ (List.mem_of_getElem? (i := 4) rfl)) hyX8_at rfl rfl rfl rfl ⟨Nat.zero_le _, Nat.zero_le _⟩ [4] [0, 1, 2, 3] (N := 5) (by decide +kernel) rfl rfl rfl rfl rfl dX5_burn_28 rfl ?_
    refine g_iconst (np := 32) (v := (3 : Int32)) h (by decide) dX5_burn_31 rfl ?_
    obtain ⟨r4, hr4, hF⟩ := Option.bind_eq_some_iff.mp hF
    refine g_callN (np := 35) (Wd' := (wdX5_burn cI cZ q0 q1 q2 q3 q4 d5 d6 d7 d8 d9 d10 d11 d12 d13 r4 v_piece v_year)) (As := [.ref q2, .int r3, .int (3 : Int32)]) h (mX8_put l D cI cZ q2 10 v_place r3 (3 : Int32) r4 hr4) gcX5_burn_X8_put rfl ⟨rfl, rfl⟩ (List.mem_of_getElem? (i := 18) rfl) (imX5_burn_own _ (List.mem_of_getElem? (i := 5) rfl)) (imX5_burn_own _ (List.mem_of_getElem? (i := 6) rfl)) hyX8_put rfl rfl rfl rfl ⟨Nat.zero_le _, Nat.zero_le _⟩ [2] [0, 1, 3, 4] (N := 5) (by decide +kernel) rfl rfl rfl rfl rfl dX5_burn_32 rfl ?_
    refine g_aload_n (np := 36) h 0 rfl rfl dX5_burn_35 rfl ?_
    refine g_get (np := 39) (T := TX5) h imX5_burn_u_X5 0 5 rfl rfl 1 (by decide) (imX5_burn_own _ (List.mem_of_getElem? (i := 0) rfl)) rfl dX5_burn_36 rfl ?_
    refine g_get (np := 42) (T := TX0) h imX5_burn_u_X0 3 0 rfl rfl 0 (by decide) (imX5_burn_own _ (List.mem_of_getElem? (i := 3) rfl)) rfl dX5_burn_39 rfl ?_
    refine g_iload_n (np := 43) h 1 rfl rfl dX5_burn_42 rfl ?_
    refine g_bipush (np := 45) (v := (-6 : Int32)) h (by decide) dX5_burn_43 rfl ?_
    obtain ⟨r5, hr5, hF⟩ := Option.bind_eq_some_iff.mp hF
    refine g_callN (np := 48) (Wd' := (wdX5_burn cI cZ q0 q1 q2 q3 q4 d5 d6 d7 d8 d9 d10 d11 d12 d13 r4 r5 v_year)) (As := [.ref q4, .int x1, .int (-6 : Int32)]) h (mX8_put l D cI cZ q4 8 v_piece x1 (-6 : Int32) r5 hr5) gcX5_burn_X8_put rfl ⟨rfl, rfl⟩ (List.mem_of_getElem? (i := 18) rfl) (imX5_burn_own _ (List.mem_of_getElem? (i := 5) rfl)) (imX5_burn_own _ (List.mem_of_getElem? (i := 6) rfl)) hyX8_put rfl rfl rfl rfl ⟨Nat.zero_le _, Nat.zero_le _⟩ [4] [0, 1, 2, 3] (N := 5) (by decide +kernel) rfl rfl rfl rfl rfl dX5_burn_45 rfl ?_
    refine g_iconst (np := 49) (v := (0 : Int32)) h (by decide) dX5_burn_48 rfl ?_
    exact hend _ hF _ _ dX5_burn_49
  · refine g_iconst (np := 12) (v := (2 : Int32)) h (by decide) dX5_burn_11 rfl ?_
    exact hend _ hF _ _ dX5_burn_12
theorem dX5_passYear_0 : decode cX5_passYear 0 = .ok (.aload_n 0, 1) := by decide +kernel
theorem dX5_passYear_1 : decode cX5_passYear 1 = .ok (.getfield 32, 3) := by decide +kernel
theorem dX5_passYear_4 : decode cX5_passYear 4 = .ok (.bipush 99, 2) := by decide +kernel
theorem dX5_passYear_6 : decode cX5_passYear 6 = .ok (.if_icmp .lt 6, 3) := by decide +kernel
theorem dX5_passYear_9 : decode cX5_passYear 9 = .ok (.bipush 6, 2) := by decide +kernel
theorem dX5_passYear_11 : decode cX5_passYear 11 = .ok (.ireturn, 1) := by decide +kernel
theorem dX5_passYear_12 : decode cX5_passYear 12 = .ok (.aload_n 0, 1) := by decide +kernel
theorem dX5_passYear_13 : decode cX5_passYear 13 = .ok (.dup, 1) := by decide +kernel
theorem dX5_passYear_14 : decode cX5_passYear 14 = .ok (.getfield 32, 3) := by decide +kernel
theorem dX5_passYear_17 : decode cX5_passYear 17 = .ok (.iconst 1, 1) := by decide +kernel
theorem dX5_passYear_18 : decode cX5_passYear 18 = .ok (.iadd, 1) := by decide +kernel
theorem dX5_passYear_19 : decode cX5_passYear 19 = .ok (.putfield 32, 3) := by decide +kernel
theorem dX5_passYear_22 : decode cX5_passYear 22 = .ok (.iconst 0, 1) := by decide +kernel
theorem dX5_passYear_23 : decode cX5_passYear 23 = .ok (.istore_n 1, 1) := by decide +kernel
theorem dX5_passYear_24 : decode cX5_passYear 24 = .ok (.iload_n 1, 1) := by decide +kernel
theorem dX5_passYear_25 : decode cX5_passYear 25 = .ok (.bipush 8, 2) := by decide +kernel
theorem dX5_passYear_27 : decode cX5_passYear 27 = .ok (.if_icmp .ge 52, 3) := by decide +kernel
theorem dX5_passYear_30 : decode cX5_passYear 30 = .ok (.aload_n 0, 1) := by decide +kernel
theorem dX5_passYear_31 : decode cX5_passYear 31 = .ok (.getfield 21, 3) := by decide +kernel
theorem dX5_passYear_34 : decode cX5_passYear 34 = .ok (.getfield 75, 3) := by decide +kernel
theorem dX5_passYear_37 : decode cX5_passYear 37 = .ok (.iload_n 1, 1) := by decide +kernel
theorem dX5_passYear_38 : decode cX5_passYear 38 = .ok (.invokestatic 50, 3) := by decide +kernel
theorem dX5_passYear_41 : decode cX5_passYear 41 = .ok (.iconst 1, 1) := by decide +kernel
theorem dX5_passYear_42 : decode cX5_passYear 42 = .ok (.iadd, 1) := by decide +kernel
theorem dX5_passYear_43 : decode cX5_passYear 43 = .ok (.istore_n 2, 1) := by decide +kernel
theorem dX5_passYear_44 : decode cX5_passYear 44 = .ok (.aload_n 0, 1) := by decide +kernel
theorem dX5_passYear_45 : decode cX5_passYear 45 = .ok (.getfield 21, 3) := by decide +kernel
theorem dX5_passYear_48 : decode cX5_passYear 48 = .ok (.iload_n 1, 1) := by decide +kernel
theorem dX5_passYear_49 : decode cX5_passYear 49 = .ok (.invokevirtual 65, 3) := by decide +kernel
theorem dX5_passYear_52 : decode cX5_passYear 52 = .ok (.ifCond .eq 21, 3) := by decide +kernel
theorem dX5_passYear_55 : decode cX5_passYear 55 = .ok (.iload_n 2, 1) := by decide +kernel
theorem dX5_passYear_56 : decode cX5_passYear 56 = .ok (.bipush 99, 2) := by decide +kernel
theorem dX5_passYear_58 : decode cX5_passYear 58 = .ok (.if_icmp .gt 15, 3) := by decide +kernel
theorem dX5_passYear_61 : decode cX5_passYear 61 = .ok (.aload_n 0, 1) := by decide +kernel
theorem dX5_passYear_62 : decode cX5_passYear 62 = .ok (.getfield 21, 3) := by decide +kernel
theorem dX5_passYear_65 : decode cX5_passYear 65 = .ok (.getfield 75, 3) := by decide +kernel
theorem dX5_passYear_68 : decode cX5_passYear 68 = .ok (.iload_n 1, 1) := by decide +kernel
theorem dX5_passYear_69 : decode cX5_passYear 69 = .ok (.iload_n 2, 1) := by decide +kernel
theorem dX5_passYear_70 : decode cX5_passYear 70 = .ok (.invokestatic 54, 3) := by decide +kernel
theorem dX5_passYear_73 : decode cX5_passYear 73 = .ok (.iinc 1 1, 3) := by decide +kernel
theorem dX5_passYear_76 : decode cX5_passYear 76 = .ok (.goto (-52), 3) := by decide +kernel
theorem dX5_passYear_79 : decode cX5_passYear 79 = .ok (.iconst 0, 1) := by decide +kernel
theorem dX5_passYear_80 : decode cX5_passYear 80 = .ok (.ireturn, 1) := by decide +kernel
def wtX5_passYear : List Cond := .code yX5_passYear cX5_passYear 3 (some .int) :: (([.fieldLink RX5 32 "DriftKin$Shore" "year" "I", .fieldLink RX5 21 "DriftKin$Shore" "houses" "LDriftKin$Houses;", .fieldLink RX5 75 "DriftKin$Houses" "children" "[I", .static yX8_at, .initialized RX8, .static yX8_put]) ++ ((u_ws RX0 TX0 3) ++ ((u_ws RX5 TX5 4) ++ ((wtX8_at) ++ ((wsV RX5 65 RX0 yX0_isWed wtX0_isWed) ++ ((wtX8_put) ++ []))))))
theorem imX5_passYear_own : ∀ w ∈ ([.fieldLink RX5 32 "DriftKin$Shore" "year" "I", .fieldLink RX5 21 "DriftKin$Shore" "houses" "LDriftKin$Houses;", .fieldLink RX5 75 "DriftKin$Houses" "children" "[I", .static yX8_at, .initialized RX8, .static yX8_put] : List Cond), w ∈ wtX5_passYear := fun w h => List.mem_cons_of_mem _ (inl h)
theorem imX5_passYear_u_X0 : ∀ w ∈ (u_ws RX0 TX0 3 : List Cond), w ∈ wtX5_passYear := fun w h => List.mem_cons_of_mem _ (inr (inl h))
theorem imX5_passYear_u_X5 : ∀ w ∈ (u_ws RX5 TX5 4 : List Cond), w ∈ wtX5_passYear := fun w h => List.mem_cons_of_mem _ (inr (inr (inl h)))
theorem imX5_passYear_c_X8_at : ∀ w ∈ (wtX8_at : List Cond), w ∈ wtX5_passYear := fun w h => List.mem_cons_of_mem _ (inr (inr (inr (inl h))))
theorem imX5_passYear_c_X0_isWed : ∀ w ∈ (wsV RX5 65 RX0 yX0_isWed wtX0_isWed : List Cond), w ∈ wtX5_passYear := fun w h => List.mem_cons_of_mem _ (inr (inr (inr (inr (inl h)))))
theorem imX5_passYear_c_X8_put : ∀ w ∈ (wtX8_put : List Cond), w ∈ wtX5_passYear := fun w h => List.mem_cons_of_mem _ (inr (inr (inr (inr (inr (inl h))))))
theorem gdX5_passYear : ∀ w ∈ wtX5_passYear, Gd w := gdc rfl (gda (gdl (by decide +kernel)) (gda (gdu _ _ _) (gda (gdu _ _ _) (gda gdX8_at (gda (gda (gdl (by decide +kernel)) gdX0_isWed) (gda gdX8_put gdn))))))
theorem gcX5_passYear_X8_at : GoodIn wtX5_passYear (wtX8_at) := fun w h => ⟨imX5_passYear_c_X8_at w h, gdX8_at w h⟩
theorem gcX5_passYear_X0_isWed : GoodIn wtX5_passYear (wsV RX5 65 RX0 yX0_isWed wtX0_isWed) := fun w h => ⟨imX5_passYear_c_X0_isWed w h, (gda (gdl (by decide +kernel)) gdX0_isWed) w h⟩
theorem gcX5_passYear_X8_put : GoodIn wtX5_passYear (wtX8_put) := fun w h => ⟨imX5_passYear_c_X8_put w h, gdX8_put w h⟩
def fX5_passYear_24 (v_year : Int32) (v_partner : Nat → Int32) : Nat → (Nat → Int32) → Int32 → Option (Int32 × Int32 × (Nat → Int32))
  | 0, _, _ => none
  | n + 1, v_children, x1 =>
    if (8 : Int32) ≤ x1 then
      some ((0 : Int32), v_year, v_children)
    else
      (fX8_at 8 v_children x1).bind (fun r1002 =>
        (fX0_isWed v_partner x1).bind (fun r1003 =>
          if r1003 = (0 : Int32) then
            fX5_passYear_24 v_year v_partner n v_children (x1 + (1 : Int32))
          else
            if (99 : Int32) < (r1002 + (1 : Int32)) then
              fX5_passYear_24 v_year v_partner n v_children (x1 + (1 : Int32))
            else
              (fX8_put 8 v_children x1 (r1002 + (1 : Int32))).bind (fun r1006 =>
                fX5_passYear_24 v_year v_partner n r1006 (x1 + (1 : Int32)))))
def fX5_passYear (v_year : Int32) (v_partner : Nat → Int32) (v_children : Nat → Int32) : Option (Int32 × Int32 × (Nat → Int32)) :=
  if v_year < (99 : Int32) then
    fX5_passYear_24 (v_year + (1 : Int32)) v_partner 2000 v_children (0 : Int32)
  else
    some ((6 : Int32), v_year, v_children)
def wdX5_passYear (cI cZ : ClassId) (q0 : Nat) (q1 : Nat) (q2 : Nat) (q3 : Nat) (d4 : Nat) (d5 : Nat) (d6 : Nat)  (v_year : Int32) (v_partner : Nat → Int32) (v_children : Nat → Int32) : va_W := [(q0, .inr (5, [.ref d4, .ref q1, .ref d5, .int v_year])), (q1, .inr (0, [.ref d6, .ref q2, .ref q3])), (q2, .inl (cI, 8, .inl v_partner)), (q3, .inl (cI, 8, .inl v_children))]
abbrev rmX5_passYear : Jvm.Room := { frames := 2, cells := 0, slots := 0, locals := 42 }
theorem hyX5_passYear : yX5_passYear.cls ≠ "java/lang/invoke/MethodHandle" ∧ yX5_passYear.cls ≠ "java/lang/invoke/VarHandle" ∧ (parseMethodDescriptor yX5_passYear.desc).map (fun d => d.parameters.length) = some 0 := by decide +kernel
set_option maxHeartbeats 4000000 in
set_option maxRecDepth 100000 in
theorem mX5_passYear (l : Launch) (D : va_G) (cI cZ : ClassId) (q0 : Nat) (q1 : Nat) (q2 : Nat) (q3 : Nat) (d4 : Nat) (d5 : Nat) (d6 : Nat) (v_year : Int32) (v_partner : Nat → Int32) (v_children : Nat → Int32) (z : Int32 × Int32 × (Nat → Int32)) (hF : fX5_passYear v_year v_partner v_children = some z) : mp l yX5_passYear wtX5_passYear rmX5_passYear D cI cZ [.ref q0] (wdX5_passYear cI cZ q0 q1 q2 q3 d4 d5 d6 v_year v_partner v_children) (some (.int z.1)) (wdX5_passYear cI cZ q0 q1 q2 q3 d4 d5 d6 z.2.1 v_partner z.2.2) := by
  refine mp_i (lv0 := [(0, .ref q0)]) cX5_passYear 3 z.1 (by decide) rfl (Nat.le_of_ble_eq_true rfl) rfl (fun E h hend0 => ?_)
  have hend : ∀ (z' : Int32 × Int32 × (Nat → Int32)), some z' = some z → ∀ (pc : Nat) (lv : List (Nat × Value)), decode cX5_passYear pc = .ok (.ireturn, 1) → G l D E 3 0 0 (wdX5_passYear cI cZ q0 q1 q2 q3 d4 d5 d6 (z'.2.1) v_partner (z'.2.2)) pc lv [.int z'.1] := fun z' e => by cases e; exact hend0
  clear hend0
  have hL24 : ∀ (n24 : Nat) (v_year : Int32) (v_children : Nat → Int32) (x1 : Int32), fX5_passYear_24 v_year v_partner n24 v_children x1 = some z → G l D E 3 0 0 (wdX5_passYear cI cZ q0 q1 q2 q3 d4 d5 d6 v_year v_partner v_children) 24 [(0, .ref q0), (1, .int x1)] [] := by
    intro n24
    induction n24 with
    | zero =>
      intro v_year v_children x1 hF
      rw [fX5_passYear_24] at hF
      cases hF
    | succ n24 ih24 =>
      intro v_year v_children x1 hF
      rw [fX5_passYear_24] at hF
      refine g_iload_n (np := 25) h 1 rfl rfl dX5_passYear_24 rfl ?_
      refine g_bipush (np := 27) (v := (8 : Int32)) h (by decide) dX5_passYear_25 rfl ?_
      refine g_icmp_ge h hF dX5_passYear_27 (np := 30) rfl (tg := 79) rfl (fun c1001 hF => ?_) (fun c1001 hF => ?_)
      · refine g_iconst (np := 80) (v := (0 : Int32)) h (by decide) dX5_passYear_79 rfl ?_
        exact hend _ hF _ _ dX5_passYear_80
      · refine g_aload_n (np := 31) h 0 rfl rfl dX5_passYear_30 rfl ?_
        refine g_get (np := 34) (T := TX5) h imX5_passYear_u_X5 0 5 rfl rfl 1 (by decide) (imX5_passYear_own _ (List.mem_of_getElem? (i := 1) rfl)) rfl dX5_passYear_31 rfl ?_
        refine g_get (np := 37) (T := TX0) h imX5_passYear_u_X0 1 0 rfl rfl 2 (by decide) (imX5_passYear_own _ (List.mem_of_getElem? (i := 2) rfl)) rfl dX5_passYear_34 rfl ?_
        refine g_iload_n (np := 38) h 1 rfl rfl dX5_passYear_37 rfl ?_
        obtain ⟨r1002, hr1002, hF⟩ := Option.bind_eq_some_iff.mp hF
        refine g_callN (np := 41) (Wd' := (wdX5_passYear cI cZ q0 q1 q2 q3 d4 d5 d6 v_year v_partner v_children)) (As := [.ref q3, .int x1]) h (mX8_at l D cI cZ q3 8 v_children x1 r1002 hr1002) gcX5_passYear_X8_at rfl ⟨rfl, rfl⟩ (List.mem_of_getElem? (i := 16) rfl) (imX5_passYear_own _ (List.mem_of_getElem? (i := 4) rfl)) (imX5_passYear_own _ (List.mem_of_getElem? (i := 3) rfl)) hyX8_at rfl rfl rfl rfl ⟨Nat.zero_le _, Nat.zero_le _⟩ [3] [0, 1, 2] (N := 4) (by decide +kernel) rfl rfl rfl rfl rfl dX5_passYear_38 rfl ?_
        refine g_iconst (np := 42) (v := (1 : Int32)) h (by decide) dX5_passYear_41 rfl ?_
        refine g_iadd (np := 43) h dX5_passYear_42 rfl ?_
        refine g_istore_n (np := 44) (lv' := [(2, .int (r1002 + (1 : Int32))), (0, .ref q0), (1, .int x1)]) h rfl (by decide) rfl dX5_passYear_43 rfl ?_
        refine g_aload_n (np := 45) h 1 rfl rfl dX5_passYear_44 rfl ?_
        refine g_get (np := 48) (T := TX5) h imX5_passYear_u_X5 0 5 rfl rfl 1 (by decide) (imX5_passYear_own _ (List.mem_of_getElem? (i := 1) rfl)) rfl dX5_passYear_45 rfl ?_
        refine g_iload_n (np := 49) h 2 rfl rfl dX5_passYear_48 rfl ?_
        obtain ⟨r1003, hr1003, hF⟩ := Option.bind_eq_some_iff.mp hF
        refine g_callV (np := 52) (Wd' := (wdX5_passYear cI cZ q0 q1 q2 q3 d4 d5 d6 v_year v_partner v_children)) (As := [.int x1]) h (mX0_isWed l D cI cZ q1 q2 d6 q3 v_partner x1 r1003 hr1003) gcX5_passYear_X0_isWed rfl ⟨rfl, rfl⟩ ⟨rfl, hyX0_isWed⟩ rfl 0 1 rfl rfl rfl rfl rfl rfl ⟨Nat.zero_le _, Nat.zero_le _⟩ [1, 2] [0, 3] (N := 4) (by decide +kernel) rfl rfl rfl rfl rfl dX5_passYear_49 rfl ?_
        refine g_if_eq h hF dX5_passYear_52 (np := 55) rfl (tg := 73) rfl (fun c1004 hF => ?_) (fun c1004 hF => ?_)
        · refine g_iinc (np := 76) (v := (x1 + (1 : Int32))) (lv' := [(1, .int (x1 + (1 : Int32))), (2, .int (r1002 + (1 : Int32))), (0, .ref q0)]) h 2 rfl rfl (by decide) rfl dX5_passYear_73 rfl ?_
          refine g_goto h dX5_passYear_76 (np := 24) rfl ?_
          refine g_lv [2, 0] rfl ?_
          exact ih24 v_year v_children (x1 + (1 : Int32)) hF
        · refine g_iload_n (np := 56) h 0 rfl rfl dX5_passYear_55 rfl ?_
          refine g_bipush (np := 58) (v := (99 : Int32)) h (by decide) dX5_passYear_56 rfl ?_
          refine g_icmp_gt h hF dX5_passYear_58 (np := 61) rfl (tg := 73) rfl (fun c1005 hF => ?_) (fun c1005 hF => ?_)
          · refine g_iinc (np := 76) (v := (x1 + (1 : Int32))) (lv' := [(1, .int (x1 + (1 : Int32))), (2, .int (r1002 + (1 : Int32))), (0, .ref q0)]) h 2 rfl rfl (by decide) rfl dX5_passYear_73 rfl ?_
            refine g_goto h dX5_passYear_76 (np := 24) rfl ?_
            refine g_lv [2, 0] rfl ?_
            exact ih24 v_year v_children (x1 + (1 : Int32)) hF
          · refine g_aload_n (np := 62) h 1 rfl rfl dX5_passYear_61 rfl ?_
            refine g_get (np := 65) (T := TX5) h imX5_passYear_u_X5 0 5 rfl rfl 1 (by decide) (imX5_passYear_own _ (List.mem_of_getElem? (i := 1) rfl)) rfl dX5_passYear_62 rfl ?_
            refine g_get (np := 68) (T := TX0) h imX5_passYear_u_X0 1 0 rfl rfl 2 (by decide) (imX5_passYear_own _ (List.mem_of_getElem? (i := 2) rfl)) rfl dX5_passYear_65 rfl ?_
            refine g_iload_n (np := 69) h 2 rfl rfl dX5_passYear_68 rfl ?_
            refine g_iload_n (np := 70) h 0 rfl rfl dX5_passYear_69 rfl ?_
            obtain ⟨r1006, hr1006, hF⟩ := Option.bind_eq_some_iff.mp hF
            refine g_callN (np := 73) (Wd' := (wdX5_passYear cI cZ q0 q1 q2 q3 d4 d5 d6 v_year v_partner r1006)) (As := [.ref q3, .int x1, .int (r1002 + (1 : Int32))]) h (mX8_put l D cI cZ q3 8 v_children x1 (r1002 + (1 : Int32)) r1006 hr1006) gcX5_passYear_X8_put rfl ⟨rfl, rfl⟩ (List.mem_of_getElem? (i := 18) rfl) (imX5_passYear_own _ (List.mem_of_getElem? (i := 4) rfl)) (imX5_passYear_own _ (List.mem_of_getElem? (i := 5) rfl)) hyX8_put rfl rfl rfl rfl ⟨Nat.zero_le _, Nat.zero_le _⟩ [3] [0, 1, 2] (N := 4) (by decide +kernel) rfl rfl rfl rfl rfl dX5_passYear_70 rfl ?_
            refine g_iinc (np := 76) (v := (x1 + (1 : Int32))) (lv' := [(1, .int (x1 + (1 : Int32))), (2, .int (r1002 + (1 : Int32))), (0, .ref q0)]) h 2 rfl rfl (by decide) rfl dX5_passYear_73 rfl ?_
            refine g_goto h dX5_passYear_76 (np := 24) rfl ?_
            refine g_lv [2, 0] rfl ?_
            exact ih24 v_year r1006 (x1 + (1 : Int32)) hF
  unfold fX5_passYear at hF
  refine g_aload_n (np := 1) h 0 rfl rfl dX5_passYear_0 rfl ?_
  refine g_get (np := 4) (T := TX5) h imX5_passYear_u_X5 0 5 rfl rfl 3 (by decide) (imX5_passYear_own _ (List.mem_of_getElem? (i := 0) rfl)) rfl dX5_passYear_1 rfl ?_
  refine g_bipush (np := 6) (v := (99 : Int32)) h (by decide) dX5_passYear_4 rfl ?_
  refine g_icmp_lt h hF dX5_passYear_6 (np := 9) rfl (tg := 12) rfl (fun c1 hF => ?_) (fun c1 hF => ?_)
  · refine g_aload_n (np := 13) h 0 rfl rfl dX5_passYear_12 rfl ?_
    refine g_dup (np := 14) h rfl dX5_passYear_13 rfl ?_
    refine g_get (np := 17) (T := TX5) h imX5_passYear_u_X5 0 5 rfl rfl 3 (by decide) (imX5_passYear_own _ (List.mem_of_getElem? (i := 0) rfl)) rfl dX5_passYear_14 rfl ?_
    refine g_iconst (np := 18) (v := (1 : Int32)) h (by decide) dX5_passYear_17 rfl ?_
    refine g_iadd (np := 19) h dX5_passYear_18 rfl ?_
    refine g_put (np := 22) (T := TX5) (Wd' := (wdX5_passYear cI cZ q0 q1 q2 q3 d4 d5 d6 (v_year + (1 : Int32)) v_partner v_children)) h imX5_passYear_u_X5 tyX5_ok nmX5 0 5 rfl rfl 3 (by decide) (imX5_passYear_own _ (List.mem_of_getElem? (i := 0) rfl)) rfl rfl rfl (Nat.le_of_ble_eq_true rfl) rfl dX5_passYear_19 rfl ?_
    refine g_iconst (np := 23) (v := (0 : Int32)) h (by decide) dX5_passYear_22 rfl ?_
    refine g_istore_n (np := 24) (lv' := [(1, .int (0 : Int32)), (0, .ref q0)]) h rfl (by decide) rfl dX5_passYear_23 rfl ?_
    refine g_lv [1, 0] rfl ?_
    exact hL24 _ (v_year + (1 : Int32)) v_children (0 : Int32) hF
  · refine g_bipush (np := 11) (v := (6 : Int32)) h (by decide) dX5_passYear_9 rfl ?_
    exact hend _ hF _ _ dX5_passYear_11
theorem dX5_isFree_0 : decode cX5_isFree 0 = .ok (.aload_n 0, 1) := by decide +kernel
theorem dX5_isFree_1 : decode cX5_isFree 1 = .ok (.getfield 21, 3) := by decide +kernel
theorem dX5_isFree_4 : decode cX5_isFree 4 = .ok (.iload_n 1, 1) := by decide +kernel
theorem dX5_isFree_5 : decode cX5_isFree 5 = .ok (.invokevirtual 58, 3) := by decide +kernel
theorem dX5_isFree_8 : decode cX5_isFree 8 = .ok (.ifCond .ne 18, 3) := by decide +kernel
theorem dX5_isFree_11 : decode cX5_isFree 11 = .ok (.aload_n 0, 1) := by decide +kernel
theorem dX5_isFree_12 : decode cX5_isFree 12 = .ok (.getfield 21, 3) := by decide +kernel
theorem dX5_isFree_15 : decode cX5_isFree 15 = .ok (.iload_n 1, 1) := by decide +kernel
theorem dX5_isFree_16 : decode cX5_isFree 16 = .ok (.invokevirtual 65, 3) := by decide +kernel
theorem dX5_isFree_19 : decode cX5_isFree 19 = .ok (.ifCond .ne 7, 3) := by decide +kernel
theorem dX5_isFree_22 : decode cX5_isFree 22 = .ok (.iconst 1, 1) := by decide +kernel
theorem dX5_isFree_23 : decode cX5_isFree 23 = .ok (.goto 4, 3) := by decide +kernel
theorem dX5_isFree_26 : decode cX5_isFree 26 = .ok (.iconst 0, 1) := by decide +kernel
theorem dX5_isFree_27 : decode cX5_isFree 27 = .ok (.ireturn, 1) := by decide +kernel
def wtX5_isFree : List Cond := .code yX5_isFree cX5_isFree 2 (some .boolean) :: (([.fieldLink RX5 21 "DriftKin$Shore" "houses" "LDriftKin$Houses;"]) ++ ((u_ws RX5 TX5 4) ++ ((wsV RX5 58 RX0 yX0_isOfNone wtX0_isOfNone) ++ ((wsV RX5 65 RX0 yX0_isWed wtX0_isWed) ++ []))))
theorem imX5_isFree_own : ∀ w ∈ ([.fieldLink RX5 21 "DriftKin$Shore" "houses" "LDriftKin$Houses;"] : List Cond), w ∈ wtX5_isFree := fun w h => List.mem_cons_of_mem _ (inl h)
theorem imX5_isFree_u_X5 : ∀ w ∈ (u_ws RX5 TX5 4 : List Cond), w ∈ wtX5_isFree := fun w h => List.mem_cons_of_mem _ (inr (inl h))
theorem imX5_isFree_c_X0_isOfNone : ∀ w ∈ (wsV RX5 58 RX0 yX0_isOfNone wtX0_isOfNone : List Cond), w ∈ wtX5_isFree := fun w h => List.mem_cons_of_mem _ (inr (inr (inl h)))
theorem imX5_isFree_c_X0_isWed : ∀ w ∈ (wsV RX5 65 RX0 yX0_isWed wtX0_isWed : List Cond), w ∈ wtX5_isFree := fun w h => List.mem_cons_of_mem _ (inr (inr (inr (inl h))))
theorem gdX5_isFree : ∀ w ∈ wtX5_isFree, Gd w := gdc rfl (gda (gdl (by decide +kernel)) (gda (gdu _ _ _) (gda (gda (gdl (by decide +kernel)) gdX0_isOfNone) (gda (gda (gdl (by decide +kernel)) gdX0_isWed) gdn))))
theorem gcX5_isFree_X0_isOfNone : GoodIn wtX5_isFree (wsV RX5 58 RX0 yX0_isOfNone wtX0_isOfNone) := fun w h => ⟨imX5_isFree_c_X0_isOfNone w h, (gda (gdl (by decide +kernel)) gdX0_isOfNone) w h⟩
theorem gcX5_isFree_X0_isWed : GoodIn wtX5_isFree (wsV RX5 65 RX0 yX0_isWed wtX0_isWed) := fun w h => ⟨imX5_isFree_c_X0_isWed w h, (gda (gdl (by decide +kernel)) gdX0_isWed) w h⟩
def fX5_isFree (v_piece : Nat → Int32) (v_partner : Nat → Int32) (x1 : Int32) : Option (Int32) :=
  (fX0_isOfNone v_piece x1).bind (fun r1 =>
    if r1 = (0 : Int32) then
      (fX0_isWed v_partner x1).bind (fun r3 =>
        if r3 = (0 : Int32) then
          some (1 : Int32)
        else
          some (0 : Int32))
    else
      some (0 : Int32))
def wdX5_isFree (cI cZ : ClassId) (q0 : Nat) (q1 : Nat) (q2 : Nat) (q3 : Nat) (d4 : Nat) (d5 : Nat) (d6 : Nat)  (v_piece : Nat → Int32) (v_partner : Nat → Int32) (v_year : Int32) : va_W := [(q0, .inr (5, [.ref d4, .ref q1, .ref d5, .int v_year])), (q1, .inr (0, [.ref q2, .ref q3, .ref d6])), (q2, .inl (cI, 8, .inl v_piece)), (q3, .inl (cI, 8, .inl v_partner))]
abbrev rmX5_isFree : Jvm.Room := { frames := 2, cells := 0, slots := 0, locals := 42 }
theorem hyX5_isFree : yX5_isFree.cls ≠ "java/lang/invoke/MethodHandle" ∧ yX5_isFree.cls ≠ "java/lang/invoke/VarHandle" ∧ (parseMethodDescriptor yX5_isFree.desc).map (fun d => d.parameters.length) = some 1 := by decide +kernel
set_option maxHeartbeats 4000000 in
set_option maxRecDepth 100000 in
theorem mX5_isFree (l : Launch) (D : va_G) (cI cZ : ClassId) (q0 : Nat) (q1 : Nat) (q2 : Nat) (q3 : Nat) (d4 : Nat) (d5 : Nat) (d6 : Nat) (v_piece : Nat → Int32) (v_partner : Nat → Int32) (v_year : Int32) (x1 : Int32) (z : Int32) (hF : fX5_isFree v_piece v_partner x1 = some z) : mp l yX5_isFree wtX5_isFree rmX5_isFree D cI cZ [.ref q0, .int x1] (wdX5_isFree cI cZ q0 q1 q2 q3 d4 d5 d6 v_piece v_partner v_year) (some (.int z)) (wdX5_isFree cI cZ q0 q1 q2 q3 d4 d5 d6 v_piece v_partner v_year) := by
  refine mp_z (lv0 := [(0, .ref q0), (1, .int x1)]) cX5_isFree 2 z (by decide) rfl (Nat.le_of_ble_eq_true rfl) rfl (fun E h hend0 => ?_)
  have hend : ∀ (z' : Int32), some z' = some z → ∀ (pc : Nat) (lv : List (Nat × Value)), z' = z' &&& 1 → decode cX5_isFree pc = .ok (.ireturn, 1) → G l D E 2 0 0 (wdX5_isFree cI cZ q0 q1 q2 q3 d4 d5 d6 v_piece v_partner v_year) pc lv [.int z'] := fun z' e => by cases e; exact hend0
  clear hend0
  unfold fX5_isFree at hF
  refine g_aload_n (np := 1) h 0 rfl rfl dX5_isFree_0 rfl ?_
  refine g_get (np := 4) (T := TX5) h imX5_isFree_u_X5 0 5 rfl rfl 1 (by decide) (imX5_isFree_own _ (List.mem_of_getElem? (i := 0) rfl)) rfl dX5_isFree_1 rfl ?_
  refine g_iload_n (np := 5) h 1 rfl rfl dX5_isFree_4 rfl ?_
  obtain ⟨r1, hr1, hF⟩ := Option.bind_eq_some_iff.mp hF
  refine g_callV (np := 8) (Wd' := (wdX5_isFree cI cZ q0 q1 q2 q3 d4 d5 d6 v_piece v_partner v_year)) (As := [.int x1]) h (mX0_isOfNone l D cI cZ q1 q2 q3 d6 v_piece x1 r1 hr1) gcX5_isFree_X0_isOfNone rfl ⟨rfl, rfl⟩ ⟨rfl, hyX0_isOfNone⟩ rfl 0 1 rfl rfl rfl rfl rfl rfl ⟨Nat.zero_le _, Nat.zero_le _⟩ [1, 2] [0, 3] (N := 4) (by decide +kernel) rfl rfl rfl rfl rfl dX5_isFree_5 rfl ?_
  refine g_if_ne h hF dX5_isFree_8 (np := 11) rfl (tg := 26) rfl (fun c2 hF => ?_) (fun c2 hF => ?_)
  · refine g_iconst (np := 27) (v := (0 : Int32)) h (by decide) dX5_isFree_26 rfl ?_
    exact hend _ hF _ _ zb0 dX5_isFree_27
  · refine g_aload_n (np := 12) h 0 rfl rfl dX5_isFree_11 rfl ?_
    refine g_get (np := 15) (T := TX5) h imX5_isFree_u_X5 0 5 rfl rfl 1 (by decide) (imX5_isFree_own _ (List.mem_of_getElem? (i := 0) rfl)) rfl dX5_isFree_12 rfl ?_
    refine g_iload_n (np := 16) h 1 rfl rfl dX5_isFree_15 rfl ?_
    obtain ⟨r3, hr3, hF⟩ := Option.bind_eq_some_iff.mp hF
    refine g_callV (np := 19) (Wd' := (wdX5_isFree cI cZ q0 q1 q2 q3 d4 d5 d6 v_piece v_partner v_year)) (As := [.int x1]) h (mX0_isWed l D cI cZ q1 q3 q2 d6 v_partner x1 r3 hr3) gcX5_isFree_X0_isWed rfl ⟨rfl, rfl⟩ ⟨rfl, hyX0_isWed⟩ rfl 0 1 rfl rfl rfl rfl rfl rfl ⟨Nat.zero_le _, Nat.zero_le _⟩ [1, 3] [0, 2] (N := 4) (by decide +kernel) rfl rfl rfl rfl rfl dX5_isFree_16 rfl ?_
    refine g_if_ne h hF dX5_isFree_19 (np := 22) rfl (tg := 26) rfl (fun c4 hF => ?_) (fun c4 hF => ?_)
    · refine g_iconst (np := 27) (v := (0 : Int32)) h (by decide) dX5_isFree_26 rfl ?_
      exact hend _ hF _ _ zb0 dX5_isFree_27
    · refine g_iconst (np := 23) (v := (1 : Int32)) h (by decide) dX5_isFree_22 rfl ?_
      refine g_goto h dX5_isFree_23 (np := 27) rfl ?_
      exact hend _ hF _ _ zb1 dX5_isFree_27
theorem dX5_mightWed_0 : decode cX5_mightWed 0 = .ok (.aload_n 0, 1) := by decide +kernel
theorem dX5_mightWed_1 : decode cX5_mightWed 1 = .ok (.iload_n 1, 1) := by decide +kernel
theorem dX5_mightWed_2 : decode cX5_mightWed 2 = .ok (.invokevirtual 81, 3) := by decide +kernel
theorem dX5_mightWed_5 : decode cX5_mightWed 5 = .ok (.ifCond .eq 28, 3) := by decide +kernel
theorem dX5_mightWed_8 : decode cX5_mightWed 8 = .ok (.aload_n 0, 1) := by decide +kernel
theorem dX5_mightWed_9 : decode cX5_mightWed 9 = .ok (.iload_n 2, 1) := by decide +kernel
theorem dX5_mightWed_10 : decode cX5_mightWed 10 = .ok (.invokevirtual 81, 3) := by decide +kernel
theorem dX5_mightWed_13 : decode cX5_mightWed 13 = .ok (.ifCond .eq 20, 3) := by decide +kernel
theorem dX5_mightWed_16 : decode cX5_mightWed 16 = .ok (.aload_n 0, 1) := by decide +kernel
theorem dX5_mightWed_17 : decode cX5_mightWed 17 = .ok (.iload_n 1, 1) := by decide +kernel
theorem dX5_mightWed_18 : decode cX5_mightWed 18 = .ok (.invokevirtual 68, 3) := by decide +kernel
theorem dX5_mightWed_21 : decode cX5_mightWed 21 = .ok (.aload_n 0, 1) := by decide +kernel
theorem dX5_mightWed_22 : decode cX5_mightWed 22 = .ok (.iload_n 2, 1) := by decide +kernel
theorem dX5_mightWed_23 : decode cX5_mightWed 23 = .ok (.invokevirtual 68, 3) := by decide +kernel
theorem dX5_mightWed_26 : decode cX5_mightWed 26 = .ok (.if_icmp .eq 7, 3) := by decide +kernel
theorem dX5_mightWed_29 : decode cX5_mightWed 29 = .ok (.iconst 1, 1) := by decide +kernel
theorem dX5_mightWed_30 : decode cX5_mightWed 30 = .ok (.goto 4, 3) := by decide +kernel
theorem dX5_mightWed_33 : decode cX5_mightWed 33 = .ok (.iconst 0, 1) := by decide +kernel
theorem dX5_mightWed_34 : decode cX5_mightWed 34 = .ok (.ireturn, 1) := by decide +kernel
def wtX5_mightWed : List Cond := .code yX5_mightWed cX5_mightWed 3 (some .boolean) :: (([]) ++ ((wsV RX5 81 RX5 yX5_isFree wtX5_isFree) ++ ((wsV RX5 68 RX5 yX5_wreckOf wtX5_wreckOf) ++ [])))
theorem imX5_mightWed_own : ∀ w ∈ ([] : List Cond), w ∈ wtX5_mightWed := fun w h => List.mem_cons_of_mem _ (inl h)
theorem imX5_mightWed_c_X5_isFree : ∀ w ∈ (wsV RX5 81 RX5 yX5_isFree wtX5_isFree : List Cond), w ∈ wtX5_mightWed := fun w h => List.mem_cons_of_mem _ (inr (inl h))
theorem imX5_mightWed_c_X5_wreckOf : ∀ w ∈ (wsV RX5 68 RX5 yX5_wreckOf wtX5_wreckOf : List Cond), w ∈ wtX5_mightWed := fun w h => List.mem_cons_of_mem _ (inr (inr (inl h)))
theorem gdX5_mightWed : ∀ w ∈ wtX5_mightWed, Gd w := gdc rfl (gda (gdl (by decide +kernel)) (gda (gda (gdl (by decide +kernel)) gdX5_isFree) (gda (gda (gdl (by decide +kernel)) gdX5_wreckOf) gdn)))
theorem gcX5_mightWed_X5_isFree : GoodIn wtX5_mightWed (wsV RX5 81 RX5 yX5_isFree wtX5_isFree) := fun w h => ⟨imX5_mightWed_c_X5_isFree w h, (gda (gdl (by decide +kernel)) gdX5_isFree) w h⟩
theorem gcX5_mightWed_X5_wreckOf : GoodIn wtX5_mightWed (wsV RX5 68 RX5 yX5_wreckOf wtX5_wreckOf) := fun w h => ⟨imX5_mightWed_c_X5_wreckOf w h, (gda (gdl (by decide +kernel)) gdX5_wreckOf) w h⟩
def fX5_mightWed (v_wreck : Nat → Int32) (v_piece : Nat → Int32) (v_partner : Nat → Int32) (x1 : Int32) (x2 : Int32) : Option (Int32) :=
  (fX5_isFree v_piece v_partner x1).bind (fun r1 =>
    if r1 = (0 : Int32) then
      some (0 : Int32)
    else
      (fX5_isFree v_piece v_partner x2).bind (fun r3 =>
        if r3 = (0 : Int32) then
          some (0 : Int32)
        else
          (fX5_wreckOf v_wreck v_piece x1).bind (fun r5 =>
            (fX5_wreckOf v_wreck v_piece x2).bind (fun r6 =>
              if r5 = r6 then
                some (0 : Int32)
              else
                some (1 : Int32)))))
def wdX5_mightWed (cI cZ : ClassId) (q0 : Nat) (q1 : Nat) (q2 : Nat) (q3 : Nat) (q4 : Nat) (q5 : Nat) (d6 : Nat) (d7 : Nat) (d8 : Nat) (d9 : Nat) (d10 : Nat) (d11 : Nat) (d12 : Nat) (d13 : Nat)  (v_wreck : Nat → Int32) (v_piece : Nat → Int32) (v_partner : Nat → Int32) (v_year : Int32) : va_W := [(q0, .inr (5, [.ref q1, .ref q3, .ref d6, .int v_year])), (q1, .inr (3, [.ref q2, .ref d7, .ref d8, .ref d9, .ref d10, .ref d11, .ref d12])), (q2, .inl (cI, 10, .inl v_wreck)), (q3, .inr (0, [.ref q4, .ref q5, .ref d13])), (q4, .inl (cI, 8, .inl v_piece)), (q5, .inl (cI, 8, .inl v_partner))]
abbrev rmX5_mightWed : Jvm.Room := { frames := 3, cells := 0, slots := 0, locals := 63 }
theorem hyX5_mightWed : yX5_mightWed.cls ≠ "java/lang/invoke/MethodHandle" ∧ yX5_mightWed.cls ≠ "java/lang/invoke/VarHandle" ∧ (parseMethodDescriptor yX5_mightWed.desc).map (fun d => d.parameters.length) = some 2 := by decide +kernel
set_option maxHeartbeats 4000000 in
set_option maxRecDepth 100000 in
theorem mX5_mightWed (l : Launch) (D : va_G) (cI cZ : ClassId) (q0 : Nat) (q1 : Nat) (q2 : Nat) (q3 : Nat) (q4 : Nat) (q5 : Nat) (d6 : Nat) (d7 : Nat) (d8 : Nat) (d9 : Nat) (d10 : Nat) (d11 : Nat) (d12 : Nat) (d13 : Nat) (v_wreck : Nat → Int32) (v_piece : Nat → Int32) (v_partner : Nat → Int32) (v_year : Int32) (x1 : Int32) (x2 : Int32) (z : Int32) (hF : fX5_mightWed v_wreck v_piece v_partner x1 x2 = some z) : mp l yX5_mightWed wtX5_mightWed rmX5_mightWed D cI cZ [.ref q0, .int x1, .int x2] (wdX5_mightWed cI cZ q0 q1 q2 q3 q4 q5 d6 d7 d8 d9 d10 d11 d12 d13 v_wreck v_piece v_partner v_year) (some (.int z)) (wdX5_mightWed cI cZ q0 q1 q2 q3 q4 q5 d6 d7 d8 d9 d10 d11 d12 d13 v_wreck v_piece v_partner v_year) := by
  refine mp_z (lv0 := [(0, .ref q0), (1, .int x1), (2, .int x2)]) cX5_mightWed 3 z (by decide) rfl (Nat.le_of_ble_eq_true rfl) rfl (fun E h hend0 => ?_)
  have hend : ∀ (z' : Int32), some z' = some z → ∀ (pc : Nat) (lv : List (Nat × Value)), z' = z' &&& 1 → decode cX5_mightWed pc = .ok (.ireturn, 1) → G l D E 3 0 0 (wdX5_mightWed cI cZ q0 q1 q2 q3 q4 q5 d6 d7 d8 d9 d10 d11 d12 d13 v_wreck v_piece v_partner v_year) pc lv [.int z'] := fun z' e => by cases e; exact hend0
  clear hend0
  unfold fX5_mightWed at hF
  refine g_aload_n (np := 1) h 0 rfl rfl dX5_mightWed_0 rfl ?_
  refine g_iload_n (np := 2) h 1 rfl rfl dX5_mightWed_1 rfl ?_
  obtain ⟨r1, hr1, hF⟩ := Option.bind_eq_some_iff.mp hF
  refine g_callV (np := 5) (Wd' := (wdX5_mightWed cI cZ q0 q1 q2 q3 q4 q5 d6 d7 d8 d9 d10 d11 d12 d13 v_wreck v_piece v_partner v_year)) (As := [.int x1]) h (mX5_isFree l D cI cZ q0 q3 q4 q5 q1 d6 d13 v_piece v_partner v_year x1 r1 hr1) gcX5_mightWed_X5_isFree rfl ⟨rfl, rfl⟩ ⟨rfl, hyX5_isFree⟩ rfl 5 0 rfl rfl rfl rfl rfl rfl ⟨Nat.zero_le _, Nat.zero_le _⟩ [0, 3, 4, 5] [1, 2] (N := 6) (by decide +kernel) rfl rfl rfl rfl rfl dX5_mightWed_2 rfl ?_
  refine g_if_eq h hF dX5_mightWed_5 (np := 8) rfl (tg := 33) rfl (fun c2 hF => ?_) (fun c2 hF => ?_)
  · refine g_iconst (np := 34) (v := (0 : Int32)) h (by decide) dX5_mightWed_33 rfl ?_
    exact hend _ hF _ _ zb0 dX5_mightWed_34
  · refine g_aload_n (np := 9) h 0 rfl rfl dX5_mightWed_8 rfl ?_
    refine g_iload_n (np := 10) h 2 rfl rfl dX5_mightWed_9 rfl ?_
    obtain ⟨r3, hr3, hF⟩ := Option.bind_eq_some_iff.mp hF
    refine g_callV (np := 13) (Wd' := (wdX5_mightWed cI cZ q0 q1 q2 q3 q4 q5 d6 d7 d8 d9 d10 d11 d12 d13 v_wreck v_piece v_partner v_year)) (As := [.int x2]) h (mX5_isFree l D cI cZ q0 q3 q4 q5 q1 d6 d13 v_piece v_partner v_year x2 r3 hr3) gcX5_mightWed_X5_isFree rfl ⟨rfl, rfl⟩ ⟨rfl, hyX5_isFree⟩ rfl 5 0 rfl rfl rfl rfl rfl rfl ⟨Nat.zero_le _, Nat.zero_le _⟩ [0, 3, 4, 5] [1, 2] (N := 6) (by decide +kernel) rfl rfl rfl rfl rfl dX5_mightWed_10 rfl ?_
    refine g_if_eq h hF dX5_mightWed_13 (np := 16) rfl (tg := 33) rfl (fun c4 hF => ?_) (fun c4 hF => ?_)
    · refine g_iconst (np := 34) (v := (0 : Int32)) h (by decide) dX5_mightWed_33 rfl ?_
      exact hend _ hF _ _ zb0 dX5_mightWed_34
    · refine g_aload_n (np := 17) h 0 rfl rfl dX5_mightWed_16 rfl ?_
      refine g_iload_n (np := 18) h 1 rfl rfl dX5_mightWed_17 rfl ?_
      obtain ⟨r5, hr5, hF⟩ := Option.bind_eq_some_iff.mp hF
      refine g_callV (np := 21) (Wd' := (wdX5_mightWed cI cZ q0 q1 q2 q3 q4 q5 d6 d7 d8 d9 d10 d11 d12 d13 v_wreck v_piece v_partner v_year)) (As := [.int x1]) h (mX5_wreckOf l D cI cZ q0 q1 q2 q3 q4 d6 d7 d8 d9 d10 d11 d12 q5 d13 v_wreck v_piece v_year x1 r5 hr5) gcX5_mightWed_X5_wreckOf rfl ⟨rfl, rfl⟩ ⟨rfl, hyX5_wreckOf⟩ rfl 5 0 rfl rfl rfl rfl rfl rfl ⟨Nat.zero_le _, Nat.zero_le _⟩ [0, 1, 2, 3, 4] [5] (N := 6) (by decide +kernel) rfl rfl rfl rfl rfl dX5_mightWed_18 rfl ?_
      refine g_aload_n (np := 22) h 0 rfl rfl dX5_mightWed_21 rfl ?_
      refine g_iload_n (np := 23) h 2 rfl rfl dX5_mightWed_22 rfl ?_
      obtain ⟨r6, hr6, hF⟩ := Option.bind_eq_some_iff.mp hF
      refine g_callV (np := 26) (Wd' := (wdX5_mightWed cI cZ q0 q1 q2 q3 q4 q5 d6 d7 d8 d9 d10 d11 d12 d13 v_wreck v_piece v_partner v_year)) (As := [.int x2]) h (mX5_wreckOf l D cI cZ q0 q1 q2 q3 q4 d6 d7 d8 d9 d10 d11 d12 q5 d13 v_wreck v_piece v_year x2 r6 hr6) gcX5_mightWed_X5_wreckOf rfl ⟨rfl, rfl⟩ ⟨rfl, hyX5_wreckOf⟩ rfl 5 0 rfl rfl rfl rfl rfl rfl ⟨Nat.zero_le _, Nat.zero_le _⟩ [0, 1, 2, 3, 4] [5] (N := 6) (by decide +kernel) rfl rfl rfl rfl rfl dX5_mightWed_23 rfl ?_
      refine g_icmp_eq h hF dX5_mightWed_26 (np := 29) rfl (tg := 33) rfl (fun c7 hF => ?_) (fun c7 hF => ?_)
      · refine g_iconst (np := 34) (v := (0 : Int32)) h (by decide) dX5_mightWed_33 rfl ?_
        exact hend _ hF _ _ zb0 dX5_mightWed_34
      · refine g_iconst (np := 30) (v := (1 : Int32)) h (by decide) dX5_mightWed_29 rfl ?_
        refine g_goto h dX5_mightWed_30 (np := 34) rfl ?_
        exact hend _ hF _ _ zb1 dX5_mightWed_34
