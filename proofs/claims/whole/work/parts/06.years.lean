theorem dX7_begin_0 : decode cX7_begin 0 = .ok (.aload_n 0, 1) := by decide +kernel
theorem dX7_begin_1 : decode cX7_begin 1 = .ok (.getfield 12, 3) := by decide +kernel
theorem dX7_begin_4 : decode cX7_begin 4 = .ok (.aload_n 1, 1) := by decide +kernel
theorem dX7_begin_5 : decode cX7_begin 5 = .ok (.invokevirtual 28, 3) := by decide +kernel
theorem dX7_begin_8 : decode cX7_begin 8 = .ok (.aload_n 0, 1) := by decide +kernel
theorem dX7_begin_9 : decode cX7_begin 9 = .ok (.iconst 0, 1) := by decide +kernel
theorem dX7_begin_10 : decode cX7_begin 10 = .ok (.putfield 18, 3) := by decide +kernel
theorem dX7_begin_13 : decode cX7_begin 13 = .ok (.aload_n 0, 1) := by decide +kernel
theorem dX7_begin_14 : decode cX7_begin 14 = .ok (.iconst 0, 1) := by decide +kernel
theorem dX7_begin_15 : decode cX7_begin 15 = .ok (.putfield 22, 3) := by decide +kernel
theorem dX7_begin_18 : decode cX7_begin 18 = .ok (.aload_n 0, 1) := by decide +kernel
theorem dX7_begin_19 : decode cX7_begin 19 = .ok (.iconst 0, 1) := by decide +kernel
theorem dX7_begin_20 : decode cX7_begin 20 = .ok (.putfield 25, 3) := by decide +kernel
theorem dX7_begin_23 : decode cX7_begin 23 = .ok (.return_, 1) := by decide +kernel
def wtX7_begin : List Cond := .code yX7_begin cX7_begin 2 none :: (([.fieldLink RX7 12 "DriftKin$Years" "end" "LDriftKin$Shore;", .fieldLink RX7 18 "DriftKin$Years" "acts" "I", .fieldLink RX7 22 "DriftKin$Years" "why" "I", .fieldLink RX7 25 "DriftKin$Years" "weddings" "I"]) ++ ((u_ws RX7 TX7 4) ++ ((wsV RX7 28 RX5 yX5_become wtX5_become) ++ [])))
theorem imX7_begin_own : ∀ w ∈ ([.fieldLink RX7 12 "DriftKin$Years" "end" "LDriftKin$Shore;", .fieldLink RX7 18 "DriftKin$Years" "acts" "I", .fieldLink RX7 22 "DriftKin$Years" "why" "I", .fieldLink RX7 25 "DriftKin$Years" "weddings" "I"] : List Cond), w ∈ wtX7_begin := fun w h => List.mem_cons_of_mem _ (inl h)
theorem imX7_begin_u_X7 : ∀ w ∈ (u_ws RX7 TX7 4 : List Cond), w ∈ wtX7_begin := fun w h => List.mem_cons_of_mem _ (inr (inl h))
theorem imX7_begin_c_X5_become : ∀ w ∈ (wsV RX7 28 RX5 yX5_become wtX5_become : List Cond), w ∈ wtX7_begin := fun w h => List.mem_cons_of_mem _ (inr (inr (inl h)))
theorem gdX7_begin : ∀ w ∈ wtX7_begin, Gd w := gdc rfl (gda (gdl (by decide +kernel)) (gda (gdu _ _ _) (gda (gda (gdl (by decide +kernel)) gdX5_become) gdn)))
theorem gcX7_begin_X5_become : GoodIn wtX7_begin (wsV RX7 28 RX5 yX5_become wtX5_become) := fun w h => ⟨imX7_begin_c_X5_become w h, (gda (gdl (by decide +kernel)) gdX5_become) w h⟩
def fX7_begin (v_acts : Int32) (v_why : Int32) (v_weddings : Int32) (v_year : Int32) (v_wreck : Nat → Int32) (v_wood : Nat → Int32) (v_length : Nat → Int32) (v_left : Nat → Int32) (v_right : Nat → Int32) (v_place : Nat → Int32) (v_rings : Nat → Int32) (v_piece : Nat → Int32) (v_partner : Nat → Int32) (v_children : Nat → Int32) (v_count : Int32) (v_house : Nat → Int32) (v_reach : Nat → Int32) (v_sounded : Nat → Int32) (v_year2 : Int32) (v_wreck2 : Nat → Int32) (v_wood2 : Nat → Int32) (v_length2 : Nat → Int32) (v_left2 : Nat → Int32) (v_right2 : Nat → Int32) (v_place2 : Nat → Int32) (v_rings2 : Nat → Int32) (v_piece2 : Nat → Int32) (v_partner2 : Nat → Int32) (v_children2 : Nat → Int32) (v_count2 : Int32) (v_house2 : Nat → Int32) (v_reach2 : Nat → Int32) (v_sounded2 : Nat → Int32) : Option (Int32 × Int32 × Int32 × Int32 × (Nat → Int32) × (Nat → Int32) × (Nat → Int32) × (Nat → Int32) × (Nat → Int32) × (Nat → Int32) × (Nat → Int32) × (Nat → Int32) × (Nat → Int32) × (Nat → Int32) × Int32 × (Nat → Int32) × (Nat → Int32) × (Nat → Int32)) :=
  (fX5_become v_year v_wreck v_wood v_length v_left v_right v_place v_rings v_piece v_partner v_children v_count v_house v_reach v_sounded v_year2 v_wreck2 v_wood2 v_length2 v_left2 v_right2 v_place2 v_rings2 v_piece2 v_partner2 v_children2 v_count2 v_house2 v_reach2 v_sounded2).bind (fun r1 =>
    some ((0 : Int32), (0 : Int32), (0 : Int32), r1.1, r1.2.1, r1.2.2.1, r1.2.2.2.1, r1.2.2.2.2.1, r1.2.2.2.2.2.1, r1.2.2.2.2.2.2.1, r1.2.2.2.2.2.2.2.1, r1.2.2.2.2.2.2.2.2.1, r1.2.2.2.2.2.2.2.2.2.1, r1.2.2.2.2.2.2.2.2.2.2.1, r1.2.2.2.2.2.2.2.2.2.2.2.1, r1.2.2.2.2.2.2.2.2.2.2.2.2.1, r1.2.2.2.2.2.2.2.2.2.2.2.2.2.1, r1.2.2.2.2.2.2.2.2.2.2.2.2.2.2))
def wdX7_begin (cI cZ : ClassId) (q0 : Nat) (q1 : Nat) (q2 : Nat) (q3 : Nat) (q4 : Nat) (q5 : Nat) (q6 : Nat) (q7 : Nat) (q8 : Nat) (q9 : Nat) (q10 : Nat) (q11 : Nat) (q12 : Nat) (q13 : Nat) (q14 : Nat) (q15 : Nat) (q16 : Nat) (q17 : Nat) (q18 : Nat) (q19 : Nat) (q20 : Nat) (q21 : Nat) (q22 : Nat) (q23 : Nat) (q24 : Nat) (q25 : Nat) (q26 : Nat) (q27 : Nat) (q28 : Nat) (q29 : Nat) (q30 : Nat) (q31 : Nat) (q32 : Nat) (q33 : Nat) (q34 : Nat)  (v_acts : Int32) (v_why : Int32) (v_weddings : Int32) (v_year : Int32) (v_wreck : Nat → Int32) (v_wood : Nat → Int32) (v_length : Nat → Int32) (v_left : Nat → Int32) (v_right : Nat → Int32) (v_place : Nat → Int32) (v_rings : Nat → Int32) (v_piece : Nat → Int32) (v_partner : Nat → Int32) (v_children : Nat → Int32) (v_count : Int32) (v_house : Nat → Int32) (v_reach : Nat → Int32) (v_sounded : Nat → Int32) (v_year2 : Int32) (v_wreck2 : Nat → Int32) (v_wood2 : Nat → Int32) (v_length2 : Nat → Int32) (v_left2 : Nat → Int32) (v_right2 : Nat → Int32) (v_place2 : Nat → Int32) (v_rings2 : Nat → Int32) (v_piece2 : Nat → Int32) (v_partner2 : Nat → Int32) (v_children2 : Nat → Int32) (v_count2 : Int32) (v_house2 : Nat → Int32) (v_reach2 : Nat → Int32) (v_sounded2 : Nat → Int32) : va_W := [(q0, .inr (7, [.ref q1, .int v_acts, .int v_why, .int v_weddings])), (q1, .inr (5, [.ref q2, .ref q10, .ref q14, .int v_year])), (q2, .inr (3, [.ref q3, .ref q4, .ref q5, .ref q6, .ref q7, .ref q8, .ref q9])), (q3, .inl (cI, 10, .inl v_wreck)), (q4, .inl (cI, 10, .inl v_wood)), (q5, .inl (cI, 10, .inl v_length)), (q6, .inl (cI, 10, .inl v_left)), (q7, .inl (cI, 10, .inl v_right)), (q8, .inl (cI, 10, .inl v_place)), (q9, .inl (cI, 10, .inl v_rings)), (q10, .inr (0, [.ref q11, .ref q12, .ref q13])), (q11, .inl (cI, 8, .inl v_piece)), (q12, .inl (cI, 8, .inl v_partner)), (q13, .inl (cI, 8, .inl v_children)), (q14, .inr (6, [.ref q15, .ref q16, .ref q17, .int v_count])), (q15, .inl (cI, 8, .inl v_house)), (q16, .inl (cI, 8, .inl v_reach)), (q17, .inl (cI, 8, .inl v_sounded)), (q18, .inr (5, [.ref q19, .ref q27, .ref q31, .int v_year2])), (q19, .inr (3, [.ref q20, .ref q21, .ref q22, .ref q23, .ref q24, .ref q25, .ref q26])), (q20, .inl (cI, 10, .inl v_wreck2)), (q21, .inl (cI, 10, .inl v_wood2)), (q22, .inl (cI, 10, .inl v_length2)), (q23, .inl (cI, 10, .inl v_left2)), (q24, .inl (cI, 10, .inl v_right2)), (q25, .inl (cI, 10, .inl v_place2)), (q26, .inl (cI, 10, .inl v_rings2)), (q27, .inr (0, [.ref q28, .ref q29, .ref q30])), (q28, .inl (cI, 8, .inl v_piece2)), (q29, .inl (cI, 8, .inl v_partner2)), (q30, .inl (cI, 8, .inl v_children2)), (q31, .inr (6, [.ref q32, .ref q33, .ref q34, .int v_count2])), (q32, .inl (cI, 8, .inl v_house2)), (q33, .inl (cI, 8, .inl v_reach2)), (q34, .inl (cI, 8, .inl v_sounded2))]
abbrev rmX7_begin : Jvm.Room := { frames := 3, cells := 0, slots := 0, locals := 64 }
theorem hyX7_begin : yX7_begin.cls ≠ "java/lang/invoke/MethodHandle" ∧ yX7_begin.cls ≠ "java/lang/invoke/VarHandle" ∧ (parseMethodDescriptor yX7_begin.desc).map (fun d => d.parameters.length) = some 1 := by decide +kernel
set_option maxHeartbeats 4000000 in
set_option maxRecDepth 100000 in
theorem mX7_begin (l : Launch) (D : va_G) (cI cZ : ClassId) (q0 : Nat) (q1 : Nat) (q2 : Nat) (q3 : Nat) (q4 : Nat) (q5 : Nat) (q6 : Nat) (q7 : Nat) (q8 : Nat) (q9 : Nat) (q10 : Nat) (q11 : Nat) (q12 : Nat) (q13 : Nat) (q14 : Nat) (q15 : Nat) (q16 : Nat) (q17 : Nat) (q18 : Nat) (q19 : Nat) (q20 : Nat) (q21 : Nat) (q22 : Nat) (q23 : Nat) (q24 : Nat) (q25 : Nat) (q26 : Nat) (q27 : Nat) (q28 : Nat) (q29 : Nat) (q30 : Nat) (q31 : Nat) (q32 : Nat) (q33 : Nat) (q34 : Nat) (v_acts : Int32) (v_why : Int32) (v_weddings : Int32) (v_year : Int32) (v_wreck : Nat → Int32) (v_wood : Nat → Int32) (v_length : Nat → Int32) (v_left : Nat → Int32) (v_right : Nat → Int32) (v_place : Nat → Int32) (v_rings : Nat → Int32) (v_piece : Nat → Int32) (v_partner : Nat → Int32) (v_children : Nat → Int32) (v_count : Int32) (v_house : Nat → Int32) (v_reach : Nat → Int32) (v_sounded : Nat → Int32) (v_year2 : Int32) (v_wreck2 : Nat → Int32) (v_wood2 : Nat → Int32) (v_length2 : Nat → Int32) (v_left2 : Nat → Int32) (v_right2 : Nat → Int32) (v_place2 : Nat → Int32) (v_rings2 : Nat → Int32) (v_piece2 : Nat → Int32) (v_partner2 : Nat → Int32) (v_children2 : Nat → Int32) (v_count2 : Int32) (v_house2 : Nat → Int32) (v_reach2 : Nat → Int32) (v_sounded2 : Nat → Int32) (z : Int32 × Int32 × Int32 × Int32 × (Nat → Int32) × (Nat → Int32) × (Nat → Int32) × (Nat → Int32) × (Nat → Int32) × (Nat → Int32) × (Nat → Int32) × (Nat → Int32) × (Nat → Int32) × (Nat → Int32) × Int32 × (Nat → Int32) × (Nat → Int32) × (Nat → Int32)) (hF : fX7_begin v_acts v_why v_weddings v_year v_wreck v_wood v_length v_left v_right v_place v_rings v_piece v_partner v_children v_count v_house v_reach v_sounded v_year2 v_wreck2 v_wood2 v_length2 v_left2 v_right2 v_place2 v_rings2 v_piece2 v_partner2 v_children2 v_count2 v_house2 v_reach2 v_sounded2 = some z) : mp l yX7_begin wtX7_begin rmX7_begin D cI cZ [.ref q0, .ref q18] (wdX7_begin cI cZ q0 q1 q2 q3 q4 q5 q6 q7 q8 q9 q10 q11 q12 q13 q14 q15 q16 q17 q18 q19 q20 q21 q22 q23 q24 q25 q26 q27 q28 q29 q30 q31 q32 q33 q34 v_acts v_why v_weddings v_year v_wreck v_wood v_length v_left v_right v_place v_rings v_piece v_partner v_children v_count v_house v_reach v_sounded v_year2 v_wreck2 v_wood2 v_length2 v_left2 v_right2 v_place2 v_rings2 v_piece2 v_partner2 v_children2 v_count2 v_house2 v_reach2 v_sounded2) none (wdX7_begin cI cZ q0 q1 q2 q3 q4 q5 q6 q7 q8 q9 q10 q11 q12 q13 q14 q15 q16 q17 q18 q19 q20 q21 q22 q23 q24 q25 q26 q27 q28 q29 q30 q31 q32 q33 q34 z.1 z.2.1 z.2.2.1 z.2.2.2.1 z.2.2.2.2.1 z.2.2.2.2.2.1 z.2.2.2.2.2.2.1 z.2.2.2.2.2.2.2.1 z.2.2.2.2.2.2.2.2.1 z.2.2.2.2.2.2.2.2.2.1 z.2.2.2.2.2.2.2.2.2.2.1 z.2.2.2.2.2.2.2.2.2.2.2.1 z.2.2.2.2.2.2.2.2.2.2.2.2.1 z.2.2.2.2.2.2.2.2.2.2.2.2.2.1 z.2.2.2.2.2.2.2.2.2.2.2.2.2.2.1 z.2.2.2.2.2.2.2.2.2.2.2.2.2.2.2.1 z.2.2.2.2.2.2.2.2.2.2.2.2.2.2.2.2.1 z.2.2.2.2.2.2.2.2.2.2.2.2.2.2.2.2.2 v_year2 v_wreck2 v_wood2 v_length2 v_left2 v_right2 v_place2 v_rings2 v_piece2 v_partner2 v_children2 v_count2 v_house2 v_reach2 v_sounded2) := by
  refine mp_v (lv0 := [(0, .ref q0), (1, .ref q18)]) cX7_begin 2 (by decide) rfl (Nat.le_of_ble_eq_true rfl) rfl (fun E h hend0 => ?_)
  have hend : ∀ (z' : Int32 × Int32 × Int32 × Int32 × (Nat → Int32) × (Nat → Int32) × (Nat → Int32) × (Nat → Int32) × (Nat → Int32) × (Nat → Int32) × (Nat → Int32) × (Nat → Int32) × (Nat → Int32) × (Nat → Int32) × Int32 × (Nat → Int32) × (Nat → Int32) × (Nat → Int32)), some z' = some z → ∀ (pc : Nat) (lv : List (Nat × Value)), decode cX7_begin pc = .ok (.return_, 1) → G l D E 2 0 0 (wdX7_begin cI cZ q0 q1 q2 q3 q4 q5 q6 q7 q8 q9 q10 q11 q12 q13 q14 q15 q16 q17 q18 q19 q20 q21 q22 q23 q24 q25 q26 q27 q28 q29 q30 q31 q32 q33 q34 (z'.1) (z'.2.1) (z'.2.2.1) (z'.2.2.2.1) (z'.2.2.2.2.1) (z'.2.2.2.2.2.1) (z'.2.2.2.2.2.2.1) (z'.2.2.2.2.2.2.2.1) (z'.2.2.2.2.2.2.2.2.1) (z'.2.2.2.2.2.2.2.2.2.1) (z'.2.2.2.2.2.2.2.2.2.2.1) (z'.2.2.2.2.2.2.2.2.2.2.2.1) (z'.2.2.2.2.2.2.2.2.2.2.2.2.1) (z'.2.2.2.2.2.2.2.2.2.2.2.2.2.1) (z'.2.2.2.2.2.2.2.2.2.2.2.2.2.2.1) (z'.2.2.2.2.2.2.2.2.2.2.2.2.2.2.2.1) (z'.2.2.2.2.2.2.2.2.2.2.2.2.2.2.2.2.1) (z'.2.2.2.2.2.2.2.2.2.2.2.2.2.2.2.2.2) v_year2 v_wreck2 v_wood2 v_length2 v_left2 v_right2 v_place2 v_rings2 v_piece2 v_partner2 v_children2 v_count2 v_house2 v_reach2 v_sounded2) pc lv [] := fun z' e => by cases e; exact hend0
  clear hend0
  unfold fX7_begin at hF
  refine g_aload_n (np := 1) h 0 rfl rfl dX7_begin_0 rfl ?_
  refine g_get (np := 4) (T := TX7) h imX7_begin_u_X7 0 7 rfl rfl 0 (by decide) (imX7_begin_own _ (List.mem_of_getElem? (i := 0) rfl)) rfl dX7_begin_1 rfl ?_
  refine g_aload_n (np := 5) h 1 rfl rfl dX7_begin_4 rfl ?_
  obtain ⟨r1, hr1, hF⟩ := Option.bind_eq_some_iff.mp hF
  refine g_callV (np := 8) (Wd' := (wdX7_begin cI cZ q0 q1 q2 q3 q4 q5 q6 q7 q8 q9 q10 q11 q12 q13 q14 q15 q16 q17 q18 q19 q20 q21 q22 q23 q24 q25 q26 q27 q28 q29 q30 q31 q32 q33 q34 v_acts v_why v_weddings r1.1 r1.2.1 r1.2.2.1 r1.2.2.2.1 r1.2.2.2.2.1 r1.2.2.2.2.2.1 r1.2.2.2.2.2.2.1 r1.2.2.2.2.2.2.2.1 r1.2.2.2.2.2.2.2.2.1 r1.2.2.2.2.2.2.2.2.2.1 r1.2.2.2.2.2.2.2.2.2.2.1 r1.2.2.2.2.2.2.2.2.2.2.2.1 r1.2.2.2.2.2.2.2.2.2.2.2.2.1 r1.2.2.2.2.2.2.2.2.2.2.2.2.2.1 r1.2.2.2.2.2.2.2.2.2.2.2.2.2.2 v_year2 v_wreck2 v_wood2 v_length2 v_left2 v_right2 v_place2 v_rings2 v_piece2 v_partner2 v_children2 v_count2 v_house2 v_reach2 v_sounded2)) (As := [.ref q18]) h (mX5_become l D cI cZ q1 q2 q3 q4 q5 q6 q7 q8 q9 q10 q11 q12 q13 q14 q15 q16 q17 q18 q19 q20 q21 q22 q23 q24 q25 q26 q27 q28 q29 q30 q31 q32 q33 q34 v_year v_wreck v_wood v_length v_left v_right v_place v_rings v_piece v_partner v_children v_count v_house v_reach v_sounded v_year2 v_wreck2 v_wood2 v_length2 v_left2 v_right2 v_place2 v_rings2 v_piece2 v_partner2 v_children2 v_count2 v_house2 v_reach2 v_sounded2 r1 hr1) gcX7_begin_X5_become rfl ⟨rfl, rfl⟩ ⟨rfl, hyX5_become⟩ rfl 5 1 rfl rfl rfl rfl rfl rfl ⟨Nat.zero_le _, Nat.zero_le _⟩ [1, 2, 3, 4, 5, 6, 7, 8, 9, 10, 11, 12, 13, 14, 15, 16, 17, 18, 19, 20, 21, 22, 23, 24, 25, 26, 27, 28, 29, 30, 31, 32, 33, 34] [0] (N := 35) (by decide +kernel) rfl rfl rfl rfl rfl dX7_begin_5 rfl ?_
  refine g_aload_n (np := 9) h 0 rfl rfl dX7_begin_8 rfl ?_
  refine g_iconst (np := 10) (v := (0 : Int32)) h (by decide) dX7_begin_9 rfl ?_
  refine g_put (np := 13) (T := TX7) (Wd' := (wdX7_begin cI cZ q0 q1 q2 q3 q4 q5 q6 q7 q8 q9 q10 q11 q12 q13 q14 q15 q16 q17 q18 q19 q20 q21 q22 q23 q24 q25 q26 q27 q28 q29 q30 q31 q32 q33 q34 (0 : Int32) v_why v_weddings r1.1 r1.2.1 r1.2.2.1 r1.2.2.2.1 r1.2.2.2.2.1 r1.2.2.2.2.2.1 r1.2.2.2.2.2.2.1 r1.2.2.2.2.2.2.2.1 r1.2.2.2.2.2.2.2.2.1 r1.2.2.2.2.2.2.2.2.2.1 r1.2.2.2.2.2.2.2.2.2.2.1 r1.2.2.2.2.2.2.2.2.2.2.2.1 r1.2.2.2.2.2.2.2.2.2.2.2.2.1 r1.2.2.2.2.2.2.2.2.2.2.2.2.2.1 r1.2.2.2.2.2.2.2.2.2.2.2.2.2.2 v_year2 v_wreck2 v_wood2 v_length2 v_left2 v_right2 v_place2 v_rings2 v_piece2 v_partner2 v_children2 v_count2 v_house2 v_reach2 v_sounded2)) h imX7_begin_u_X7 tyX7_ok nmX7 0 7 rfl rfl 1 (by decide) (imX7_begin_own _ (List.mem_of_getElem? (i := 1) rfl)) rfl rfl rfl (Nat.le_of_ble_eq_true rfl) rfl dX7_begin_10 rfl ?_
  refine g_aload_n (np := 14) h 0 rfl rfl dX7_begin_13 rfl ?_
  refine g_iconst (np := 15) (v := (0 : Int32)) h (by decide) dX7_begin_14 rfl ?_
  refine g_put (np := 18) (T := TX7) (Wd' := (wdX7_begin cI cZ q0 q1 q2 q3 q4 q5 q6 q7 q8 q9 q10 q11 q12 q13 q14 q15 q16 q17 q18 q19 q20 q21 q22 q23 q24 q25 q26 q27 q28 q29 q30 q31 q32 q33 q34 (0 : Int32) (0 : Int32) v_weddings r1.1 r1.2.1 r1.2.2.1 r1.2.2.2.1 r1.2.2.2.2.1 r1.2.2.2.2.2.1 r1.2.2.2.2.2.2.1 r1.2.2.2.2.2.2.2.1 r1.2.2.2.2.2.2.2.2.1 r1.2.2.2.2.2.2.2.2.2.1 r1.2.2.2.2.2.2.2.2.2.2.1 r1.2.2.2.2.2.2.2.2.2.2.2.1 r1.2.2.2.2.2.2.2.2.2.2.2.2.1 r1.2.2.2.2.2.2.2.2.2.2.2.2.2.1 r1.2.2.2.2.2.2.2.2.2.2.2.2.2.2 v_year2 v_wreck2 v_wood2 v_length2 v_left2 v_right2 v_place2 v_rings2 v_piece2 v_partner2 v_children2 v_count2 v_house2 v_reach2 v_sounded2)) h imX7_begin_u_X7 tyX7_ok nmX7 0 7 rfl rfl 2 (by decide) (imX7_begin_own _ (List.mem_of_getElem? (i := 2) rfl)) rfl rfl rfl (Nat.le_of_ble_eq_true rfl) rfl dX7_begin_15 rfl ?_
  refine g_aload_n (np := 19) h 0 rfl rfl dX7_begin_18 rfl ?_
  refine g_iconst (np := 20) (v := (0 : Int32)) h (by decide) dX7_begin_19 rfl ?_
  refine g_put (np := 23) (T := TX7) (Wd' := (wdX7_begin cI cZ q0 q1 q2 q3 q4 q5 q6 q7 q8 q9 q10 q11 q12 q13 q14 q15 q16 q17 q18 q19 q20 q21 q22 q23 q24 q25 q26 q27 q28 q29 q30 q31 q32 q33 q34 (0 : Int32) (0 : Int32) (0 : Int32) r1.1 r1.2.1 r1.2.2.1 r1.2.2.2.1 r1.2.2.2.2.1 r1.2.2.2.2.2.1 r1.2.2.2.2.2.2.1 r1.2.2.2.2.2.2.2.1 r1.2.2.2.2.2.2.2.2.1 r1.2.2.2.2.2.2.2.2.2.1 r1.2.2.2.2.2.2.2.2.2.2.1 r1.2.2.2.2.2.2.2.2.2.2.2.1 r1.2.2.2.2.2.2.2.2.2.2.2.2.1 r1.2.2.2.2.2.2.2.2.2.2.2.2.2.1 r1.2.2.2.2.2.2.2.2.2.2.2.2.2.2 v_year2 v_wreck2 v_wood2 v_length2 v_left2 v_right2 v_place2 v_rings2 v_piece2 v_partner2 v_children2 v_count2 v_house2 v_reach2 v_sounded2)) h imX7_begin_u_X7 tyX7_ok nmX7 0 7 rfl rfl 3 (by decide) (imX7_begin_own _ (List.mem_of_getElem? (i := 3) rfl)) rfl rfl rfl (Nat.le_of_ble_eq_true rfl) rfl dX7_begin_20 rfl ?_
  exact hend _ hF _ _ dX7_begin_23
theorem dX7_homeAct_0 : decode cX7_homeAct 0 = .ok (.iload_n 2, 1) := by decide +kernel
theorem dX7_homeAct_1 : decode cX7_homeAct 1 = .ok (.bipush 45, 2) := by decide +kernel
theorem dX7_homeAct_3 : decode cX7_homeAct 3 = .ok (.if_icmp .ne 12, 3) := by decide +kernel
theorem dX7_homeAct_6 : decode cX7_homeAct 6 = .ok (.aload_n 0, 1) := by decide +kernel
theorem dX7_homeAct_7 : decode cX7_homeAct 7 = .ok (.getfield 12, 3) := by decide +kernel
theorem dX7_homeAct_10 : decode cX7_homeAct 10 = .ok (.iload_n 1, 1) := by decide +kernel
theorem dX7_homeAct_11 : decode cX7_homeAct 11 = .ok (.invokevirtual 67, 3) := by decide +kernel
theorem dX7_homeAct_14 : decode cX7_homeAct 14 = .ok (.ireturn, 1) := by decide +kernel
theorem dX7_homeAct_15 : decode cX7_homeAct 15 = .ok (.iload_n 2, 1) := by decide +kernel
theorem dX7_homeAct_16 : decode cX7_homeAct 16 = .ok (.bipush 42, 2) := by decide +kernel
theorem dX7_homeAct_18 : decode cX7_homeAct 18 = .ok (.if_icmp .ne 14, 3) := by decide +kernel
theorem dX7_homeAct_21 : decode cX7_homeAct 21 = .ok (.aload_n 0, 1) := by decide +kernel
theorem dX7_homeAct_22 : decode cX7_homeAct 22 = .ok (.getfield 12, 3) := by decide +kernel
theorem dX7_homeAct_25 : decode cX7_homeAct 25 = .ok (.iload_n 1, 1) := by decide +kernel
theorem dX7_homeAct_26 : decode cX7_homeAct 26 = .ok (.invokevirtual 70, 3) := by decide +kernel
theorem dX7_homeAct_29 : decode cX7_homeAct 29 = .ok (.goto 15, 3) := by decide +kernel
theorem dX7_homeAct_32 : decode cX7_homeAct 32 = .ok (.aload_n 0, 1) := by decide +kernel
theorem dX7_homeAct_33 : decode cX7_homeAct 33 = .ok (.getfield 12, 3) := by decide +kernel
theorem dX7_homeAct_36 : decode cX7_homeAct 36 = .ok (.iload_n 1, 1) := by decide +kernel
theorem dX7_homeAct_37 : decode cX7_homeAct 37 = .ok (.iload_n 2, 1) := by decide +kernel
theorem dX7_homeAct_38 : decode cX7_homeAct 38 = .ok (.bipush 48, 2) := by decide +kernel
theorem dX7_homeAct_40 : decode cX7_homeAct 40 = .ok (.isub, 1) := by decide +kernel
theorem dX7_homeAct_41 : decode cX7_homeAct 41 = .ok (.invokevirtual 73, 3) := by decide +kernel
theorem dX7_homeAct_44 : decode cX7_homeAct 44 = .ok (.ireturn, 1) := by decide +kernel
def wtX7_homeAct : List Cond := .code yX7_homeAct cX7_homeAct 3 (some .int) :: (([.fieldLink RX7 12 "DriftKin$Years" "end" "LDriftKin$Shore;"]) ++ ((u_ws RX7 TX7 4) ++ ((wsV RX7 67 RX5 yX5_part wtX5_part) ++ ((wsV RX7 70 RX5 yX5_burn wtX5_burn) ++ ((wsV RX7 73 RX5 yX5_takeHome wtX5_takeHome) ++ [])))))
theorem imX7_homeAct_own : ∀ w ∈ ([.fieldLink RX7 12 "DriftKin$Years" "end" "LDriftKin$Shore;"] : List Cond), w ∈ wtX7_homeAct := fun w h => List.mem_cons_of_mem _ (inl h)
theorem imX7_homeAct_u_X7 : ∀ w ∈ (u_ws RX7 TX7 4 : List Cond), w ∈ wtX7_homeAct := fun w h => List.mem_cons_of_mem _ (inr (inl h))
theorem imX7_homeAct_c_X5_part : ∀ w ∈ (wsV RX7 67 RX5 yX5_part wtX5_part : List Cond), w ∈ wtX7_homeAct := fun w h => List.mem_cons_of_mem _ (inr (inr (inl h)))
theorem imX7_homeAct_c_X5_burn : ∀ w ∈ (wsV RX7 70 RX5 yX5_burn wtX5_burn : List Cond), w ∈ wtX7_homeAct := fun w h => List.mem_cons_of_mem _ (inr (inr (inr (inl h))))
theorem imX7_homeAct_c_X5_takeHome : ∀ w ∈ (wsV RX7 73 RX5 yX5_takeHome wtX5_takeHome : List Cond), w ∈ wtX7_homeAct := fun w h => List.mem_cons_of_mem _ (inr (inr (inr (inr (inl h)))))
theorem gdX7_homeAct : ∀ w ∈ wtX7_homeAct, Gd w := gdc rfl (gda (gdl (by decide +kernel)) (gda (gdu _ _ _) (gda (gda (gdl (by decide +kernel)) gdX5_part) (gda (gda (gdl (by decide +kernel)) gdX5_burn) (gda (gda (gdl (by decide +kernel)) gdX5_takeHome) gdn)))))
theorem gcX7_homeAct_X5_part : GoodIn wtX7_homeAct (wsV RX7 67 RX5 yX5_part wtX5_part) := fun w h => ⟨imX7_homeAct_c_X5_part w h, (gda (gdl (by decide +kernel)) gdX5_part) w h⟩
theorem gcX7_homeAct_X5_burn : GoodIn wtX7_homeAct (wsV RX7 70 RX5 yX5_burn wtX5_burn) := fun w h => ⟨imX7_homeAct_c_X5_burn w h, (gda (gdl (by decide +kernel)) gdX5_burn) w h⟩
theorem gcX7_homeAct_X5_takeHome : GoodIn wtX7_homeAct (wsV RX7 73 RX5 yX5_takeHome wtX5_takeHome) := fun w h => ⟨imX7_homeAct_c_X5_takeHome w h, (gda (gdl (by decide +kernel)) gdX5_takeHome) w h⟩
def fX7_homeAct (v_place : Nat → Int32) (v_piece : Nat → Int32) (v_partner : Nat → Int32) (x1 : Int32) (x2 : Int32) : Option (Int32 × (Nat → Int32) × (Nat → Int32) × (Nat → Int32)) :=
  if x2 = (45 : Int32) then
    (fX5_part v_partner x1).bind (fun r5 =>
      some (r5.1, v_place, v_piece, r5.2))
  else
    if x2 = (42 : Int32) then
      (fX5_burn v_place v_piece x1).bind (fun r4 =>
        some (r4.1, r4.2.1, r4.2.2, v_partner))
    else
      (fX5_takeHome v_place v_piece x1 (x2 - (48 : Int32))).bind (fun r3 =>
        some (r3.1, r3.2.1, r3.2.2, v_partner))
def wdX7_homeAct (cI cZ : ClassId) (q0 : Nat) (q1 : Nat) (q2 : Nat) (q3 : Nat) (q4 : Nat) (q5 : Nat) (q6 : Nat) (d7 : Nat) (d8 : Nat) (d9 : Nat) (d10 : Nat) (d11 : Nat) (d12 : Nat) (d13 : Nat) (d14 : Nat)  (v_place : Nat → Int32) (v_piece : Nat → Int32) (v_partner : Nat → Int32) (v_acts : Int32) (v_why : Int32) (v_weddings : Int32) (v_year : Int32) : va_W := [(q0, .inr (7, [.ref q1, .int v_acts, .int v_why, .int v_weddings])), (q1, .inr (5, [.ref q2, .ref q4, .ref d7, .int v_year])), (q2, .inr (3, [.ref d8, .ref d9, .ref d10, .ref d11, .ref d12, .ref q3, .ref d13])), (q3, .inl (cI, 10, .inl v_place)), (q4, .inr (0, [.ref q5, .ref q6, .ref d14])), (q5, .inl (cI, 8, .inl v_piece)), (q6, .inl (cI, 8, .inl v_partner))]
abbrev rmX7_homeAct : Jvm.Room := { frames := 3, cells := 0, slots := 0, locals := 64 }
theorem hyX7_homeAct : yX7_homeAct.cls ≠ "java/lang/invoke/MethodHandle" ∧ yX7_homeAct.cls ≠ "java/lang/invoke/VarHandle" ∧ (parseMethodDescriptor yX7_homeAct.desc).map (fun d => d.parameters.length) = some 2 := by decide +kernel
set_option maxHeartbeats 4000000 in
set_option maxRecDepth 100000 in
theorem mX7_homeAct (l : Launch) (D : va_G) (cI cZ : ClassId) (q0 : Nat) (q1 : Nat) (q2 : Nat) (q3 : Nat) (q4 : Nat) (q5 : Nat) (q6 : Nat) (d7 : Nat) (d8 : Nat) (d9 : Nat) (d10 : Nat) (d11 : Nat) (d12 : Nat) (d13 : Nat) (d14 : Nat) (v_place : Nat → Int32) (v_piece : Nat → Int32) (v_partner : Nat → Int32) (v_acts : Int32) (v_why : Int32) (v_weddings : Int32) (v_year : Int32) (x1 : Int32) (x2 : Int32) (z : Int32 × (Nat → Int32) × (Nat → Int32) × (Nat → Int32)) (hF : fX7_homeAct v_place v_piece v_partner x1 x2 = some z) : mp l yX7_homeAct wtX7_homeAct rmX7_homeAct D cI cZ [.ref q0, .int x1, .int x2] (wdX7_homeAct cI cZ q0 q1 q2 q3 q4 q5 q6 d7 d8 d9 d10 d11 d12 d13 d14 v_place v_piece v_partner v_acts v_why v_weddings v_year) (some (.int z.1)) (wdX7_homeAct cI cZ q0 q1 q2 q3 q4 q5 q6 d7 d8 d9 d10 d11 d12 d13 d14 z.2.1 z.2.2.1 z.2.2.2 v_acts v_why v_weddings v_year) := by
  refine mp_i (lv0 := [(0, .ref q0), (1, .int x1), (2, .int x2)]) cX7_homeAct 3 z.1 (by decide) rfl (Nat.le_of_ble_eq_true rfl) rfl (fun E h hend0 => ?_)
  have hend : ∀ (z' : Int32 × (Nat → Int32) × (Nat → Int32) × (Nat → Int32)), some z' = some z → ∀ (pc : Nat) (lv : List (Nat × Value)), decode cX7_homeAct pc = .ok (.ireturn, 1) → G l D E 3 0 0 (wdX7_homeAct cI cZ q0 q1 q2 q3 q4 q5 q6 d7 d8 d9 d10 d11 d12 d13 d14 (z'.2.1) (z'.2.2.1) (z'.2.2.2) v_acts v_why v_weddings v_year) pc lv [.int z'.1] := fun z' e => by cases e; exact hend0
  clear hend0
  unfold fX7_homeAct at hF
  refine g_iload_n (np := 1) h 2 rfl rfl dX7_homeAct_0 rfl ?_
  refine g_bipush (np := 3) (v := (45 : Int32)) h (by decide) dX7_homeAct_1 rfl ?_
  refine g_icmp_ne h hF dX7_homeAct_3 (np := 6) rfl (tg := 15) rfl (fun c1 hF => ?_) (fun c1 hF => ?_)
  · refine g_iload_n (np := 16) h 2 rfl rfl dX7_homeAct_15 rfl ?_
    refine g_bipush (np := 18) (v := (42 : Int32)) h (by decide) dX7_homeAct_16 rfl ?_
    refine g_icmp_ne h hF dX7_homeAct_18 (np := 21) rfl (tg := 32) rfl (fun c2 hF => ?_) (fun c2 hF => ?_)
    · refine g_aload_n (np := 33) h 0 rfl rfl dX7_homeAct_32 rfl ?_
      refine g_get (np := 36) (T := TX7) h imX7_homeAct_u_X7 0 7 rfl rfl 0 (by decide) (imX7_homeAct_own _ (List.mem_of_getElem? (i := 0) rfl)) rfl dX7_homeAct_33 rfl ?_
      refine g_iload_n (np := 37) h 1 rfl rfl dX7_homeAct_36 rfl ?_
      refine g_iload_n (np := 38) h 2 rfl rfl dX7_homeAct_37 rfl ?_
      refine g_bipush (np := 40) (v := (48 : Int32)) h (by decide) dX7_homeAct_38 rfl ?_
      refine g_isub (np := 41) h dX7_homeAct_40 rfl ?_
      obtain ⟨r3, hr3, hF⟩ := Option.bind_eq_some_iff.mp hF
      refine g_callV (np := 44) (Wd' := (wdX7_homeAct cI cZ q0 q1 q2 q3 q4 q5 q6 d7 d8 d9 d10 d11 d12 d13 d14 r3.2.1 r3.2.2 v_partner v_acts v_why v_weddings v_year)) (As := [.int x1, .int (x2 - (48 : Int32))]) h (mX5_takeHome l D cI cZ q1 q2 q3 q4 q5 d7 d8 d9 d10 d11 d12 d13 q6 d14 v_place v_piece v_year x1 (x2 - (48 : Int32)) r3 hr3) gcX7_homeAct_X5_takeHome rfl ⟨rfl, rfl⟩ ⟨rfl, hyX5_takeHome⟩ rfl 5 1 rfl rfl rfl rfl rfl rfl ⟨Nat.zero_le _, Nat.zero_le _⟩ [1, 2, 3, 4, 5] [0, 6] (N := 7) (by decide +kernel) rfl rfl rfl rfl rfl dX7_homeAct_41 rfl ?_
      exact hend _ hF _ _ dX7_homeAct_44
    · refine g_aload_n (np := 22) h 0 rfl rfl dX7_homeAct_21 rfl ?_
      refine g_get (np := 25) (T := TX7) h imX7_homeAct_u_X7 0 7 rfl rfl 0 (by decide) (imX7_homeAct_own _ (List.mem_of_getElem? (i := 0) rfl)) rfl dX7_homeAct_22 rfl ?_
      refine g_iload_n (np := 26) h 1 rfl rfl dX7_homeAct_25 rfl ?_
      obtain ⟨r4, hr4, hF⟩ := Option.bind_eq_some_iff.mp hF
      refine g_callV (np := 29) (Wd' := (wdX7_homeAct cI cZ q0 q1 q2 q3 q4 q5 q6 d7 d8 d9 d10 d11 d12 d13 d14 r4.2.1 r4.2.2 v_partner v_acts v_why v_weddings v_year)) (As := [.int x1]) h (mX5_burn l D cI cZ q1 q2 q3 q4 q5 d7 d8 d9 d10 d11 d12 d13 q6 d14 v_place v_piece v_year x1 r4 hr4) gcX7_homeAct_X5_burn rfl ⟨rfl, rfl⟩ ⟨rfl, hyX5_burn⟩ rfl 5 1 rfl rfl rfl rfl rfl rfl ⟨Nat.zero_le _, Nat.zero_le _⟩ [1, 2, 3, 4, 5] [0, 6] (N := 7) (by decide +kernel) rfl rfl rfl rfl rfl dX7_homeAct_26 rfl ?_
      refine g_goto h dX7_homeAct_29 (np := 44) rfl ?_
      exact hend _ hF _ _ dX7_homeAct_44
  · refine g_aload_n (np := 7) h 0 rfl rfl dX7_homeAct_6 rfl ?_
    refine g_get (np := 10) (T := TX7) h imX7_homeAct_u_X7 0 7 rfl rfl 0 (by decide) (imX7_homeAct_own _ (List.mem_of_getElem? (i := 0) rfl)) rfl dX7_homeAct_7 rfl ?_
    refine g_iload_n (np := 11) h 1 rfl rfl dX7_homeAct_10 rfl ?_
    obtain ⟨r5, hr5, hF⟩ := Option.bind_eq_some_iff.mp hF
    refine g_callV (np := 14) (Wd' := (wdX7_homeAct cI cZ q0 q1 q2 q3 q4 q5 q6 d7 d8 d9 d10 d11 d12 d13 d14 v_place v_piece r5.2 v_acts v_why v_weddings v_year)) (As := [.int x1]) h (mX5_part l D cI cZ q1 q4 q6 q2 d7 q5 d14 v_partner v_year x1 r5 hr5) gcX7_homeAct_X5_part rfl ⟨rfl, rfl⟩ ⟨rfl, hyX5_part⟩ rfl 5 1 rfl rfl rfl rfl rfl rfl ⟨Nat.zero_le _, Nat.zero_le _⟩ [1, 4, 6] [0, 2, 3, 5] (N := 7) (by decide +kernel) rfl rfl rfl rfl rfl dX7_homeAct_11 rfl ?_
    exact hend _ hF _ _ dX7_homeAct_14
theorem dX7_wed_0 : decode cX7_wed 0 = .ok (.aload_n 0, 1) := by decide +kernel
theorem dX7_wed_1 : decode cX7_wed 1 = .ok (.getfield 12, 3) := by decide +kernel
theorem dX7_wed_4 : decode cX7_wed 4 = .ok (.iload_n 1, 1) := by decide +kernel
theorem dX7_wed_5 : decode cX7_wed 5 = .ok (.iload_n 2, 1) := by decide +kernel
theorem dX7_wed_6 : decode cX7_wed 6 = .ok (.invokevirtual 76, 3) := by decide +kernel
theorem dX7_wed_9 : decode cX7_wed 9 = .ok (.istore_n 3, 1) := by decide +kernel
theorem dX7_wed_10 : decode cX7_wed 10 = .ok (.iload_n 3, 1) := by decide +kernel
theorem dX7_wed_11 : decode cX7_wed 11 = .ok (.ifCond .ne 13, 3) := by decide +kernel
theorem dX7_wed_14 : decode cX7_wed 14 = .ok (.aload_n 0, 1) := by decide +kernel
theorem dX7_wed_15 : decode cX7_wed 15 = .ok (.dup, 1) := by decide +kernel
theorem dX7_wed_16 : decode cX7_wed 16 = .ok (.getfield 25, 3) := by decide +kernel
theorem dX7_wed_19 : decode cX7_wed 19 = .ok (.iconst 1, 1) := by decide +kernel
theorem dX7_wed_20 : decode cX7_wed 20 = .ok (.iadd, 1) := by decide +kernel
theorem dX7_wed_21 : decode cX7_wed 21 = .ok (.putfield 25, 3) := by decide +kernel
theorem dX7_wed_24 : decode cX7_wed 24 = .ok (.iload_n 3, 1) := by decide +kernel
theorem dX7_wed_25 : decode cX7_wed 25 = .ok (.ireturn, 1) := by decide +kernel
def wtX7_wed : List Cond := .code yX7_wed cX7_wed 4 (some .int) :: (([.fieldLink RX7 12 "DriftKin$Years" "end" "LDriftKin$Shore;", .fieldLink RX7 25 "DriftKin$Years" "weddings" "I"]) ++ ((u_ws RX7 TX7 4) ++ ((wsV RX7 76 RX5 yX5_marry wtX5_marry) ++ [])))
theorem imX7_wed_own : ∀ w ∈ ([.fieldLink RX7 12 "DriftKin$Years" "end" "LDriftKin$Shore;", .fieldLink RX7 25 "DriftKin$Years" "weddings" "I"] : List Cond), w ∈ wtX7_wed := fun w h => List.mem_cons_of_mem _ (inl h)
theorem imX7_wed_u_X7 : ∀ w ∈ (u_ws RX7 TX7 4 : List Cond), w ∈ wtX7_wed := fun w h => List.mem_cons_of_mem _ (inr (inl h))
theorem imX7_wed_c_X5_marry : ∀ w ∈ (wsV RX7 76 RX5 yX5_marry wtX5_marry : List Cond), w ∈ wtX7_wed := fun w h => List.mem_cons_of_mem _ (inr (inr (inl h)))
theorem gdX7_wed : ∀ w ∈ wtX7_wed, Gd w := gdc rfl (gda (gdl (by decide +kernel)) (gda (gdu _ _ _) (gda (gda (gdl (by decide +kernel)) gdX5_marry) gdn)))
theorem gcX7_wed_X5_marry : GoodIn wtX7_wed (wsV RX7 76 RX5 yX5_marry wtX5_marry) := fun w h => ⟨imX7_wed_c_X5_marry w h, (gda (gdl (by decide +kernel)) gdX5_marry) w h⟩
def fX7_wed (v_weddings : Int32) (v_wreck : Nat → Int32) (v_piece : Nat → Int32) (v_partner : Nat → Int32) (x1 : Int32) (x2 : Int32) : Option (Int32 × Int32 × (Nat → Int32)) :=
  (fX5_marry v_wreck v_piece v_partner x1 x2).bind (fun r1 =>
    if r1.1 = (0 : Int32) then
      some (r1.1, (v_weddings + (1 : Int32)), r1.2)
    else
      some (r1.1, v_weddings, r1.2))
def wdX7_wed (cI cZ : ClassId) (q0 : Nat) (q1 : Nat) (q2 : Nat) (q3 : Nat) (q4 : Nat) (q5 : Nat) (q6 : Nat) (d7 : Nat) (d8 : Nat) (d9 : Nat) (d10 : Nat) (d11 : Nat) (d12 : Nat) (d13 : Nat) (d14 : Nat)  (v_weddings : Int32) (v_wreck : Nat → Int32) (v_piece : Nat → Int32) (v_partner : Nat → Int32) (v_acts : Int32) (v_why : Int32) (v_year : Int32) : va_W := [(q0, .inr (7, [.ref q1, .int v_acts, .int v_why, .int v_weddings])), (q1, .inr (5, [.ref q2, .ref q4, .ref d7, .int v_year])), (q2, .inr (3, [.ref q3, .ref d8, .ref d9, .ref d10, .ref d11, .ref d12, .ref d13])), (q3, .inl (cI, 10, .inl v_wreck)), (q4, .inr (0, [.ref q5, .ref q6, .ref d14])), (q5, .inl (cI, 8, .inl v_piece)), (q6, .inl (cI, 8, .inl v_partner))]
abbrev rmX7_wed : Jvm.Room := { frames := 3, cells := 0, slots := 0, locals := 64 }
theorem hyX7_wed : yX7_wed.cls ≠ "java/lang/invoke/MethodHandle" ∧ yX7_wed.cls ≠ "java/lang/invoke/VarHandle" ∧ (parseMethodDescriptor yX7_wed.desc).map (fun d => d.parameters.length) = some 2 := by decide +kernel
set_option maxHeartbeats 4000000 in
set_option maxRecDepth 100000 in
theorem mX7_wed (l : Launch) (D : va_G) (cI cZ : ClassId) (q0 : Nat) (q1 : Nat) (q2 : Nat) (q3 : Nat) (q4 : Nat) (q5 : Nat) (q6 : Nat) (d7 : Nat) (d8 : Nat) (d9 : Nat) (d10 : Nat) (d11 : Nat) (d12 : Nat) (d13 : Nat) (d14 : Nat) (v_weddings : Int32) (v_wreck : Nat → Int32) (v_piece : Nat → Int32) (v_partner : Nat → Int32) (v_acts : Int32) (v_why : Int32) (v_year : Int32) (x1 : Int32) (x2 : Int32) (z : Int32 × Int32 × (Nat → Int32)) (hF : fX7_wed v_weddings v_wreck v_piece v_partner x1 x2 = some z) : mp l yX7_wed wtX7_wed rmX7_wed D cI cZ [.ref q0, .int x1, .int x2] (wdX7_wed cI cZ q0 q1 q2 q3 q4 q5 q6 d7 d8 d9 d10 d11 d12 d13 d14 v_weddings v_wreck v_piece v_partner v_acts v_why v_year) (some (.int z.1)) (wdX7_wed cI cZ q0 q1 q2 q3 q4 q5 q6 d7 d8 d9 d10 d11 d12 d13 d14 z.2.1 v_wreck v_piece z.2.2 v_acts v_why v_year) := by
  refine mp_i (lv0 := [(0, .ref q0), (1, .int x1), (2, .int x2)]) cX7_wed 4 z.1 (by decide) rfl (Nat.le_of_ble_eq_true rfl) rfl (fun E h hend0 => ?_)
  have hend : ∀ (z' : Int32 × Int32 × (Nat → Int32)), some z' = some z → ∀ (pc : Nat) (lv : List (Nat × Value)), decode cX7_wed pc = .ok (.ireturn, 1) → G l D E 4 0 0 (wdX7_wed cI cZ q0 q1 q2 q3 q4 q5 q6 d7 d8 d9 d10 d11 d12 d13 d14 (z'.2.1) v_wreck v_piece (z'.2.2) v_acts v_why v_year) pc lv [.int z'.1] := fun z' e => by cases e; exact hend0
  clear hend0
  unfold fX7_wed at hF
  refine g_aload_n (np := 1) h 0 rfl rfl dX7_wed_0 rfl ?_
  refine g_get (np := 4) (T := TX7) h imX7_wed_u_X7 0 7 rfl rfl 0 (by decide) (imX7_wed_own _ (List.mem_of_getElem? (i := 0) rfl)) rfl dX7_wed_1 rfl ?_
  refine g_iload_n (np := 5) h 1 rfl rfl dX7_wed_4 rfl ?_
  refine g_iload_n (np := 6) h 2 rfl rfl dX7_wed_5 rfl ?_
  obtain ⟨r1, hr1, hF⟩ := Option.bind_eq_some_iff.mp hF
  refine g_callV (np := 9) (Wd' := (wdX7_wed cI cZ q0 q1 q2 q3 q4 q5 q6 d7 d8 d9 d10 d11 d12 d13 d14 v_weddings v_wreck v_piece r1.2 v_acts v_why v_year)) (As := [.int x1, .int x2]) h (mX5_marry l D cI cZ q1 q2 q3 q4 q5 q6 d7 d8 d9 d10 d11 d12 d13 d14 v_wreck v_piece v_partner v_year x1 x2 r1 hr1) gcX7_wed_X5_marry rfl ⟨rfl, rfl⟩ ⟨rfl, hyX5_marry⟩ rfl 5 1 rfl rfl rfl rfl rfl rfl ⟨Nat.zero_le _, Nat.zero_le _⟩ [1, 2, 3, 4, 5, 6] [0] (N := 7) (by decide +kernel) rfl rfl rfl rfl rfl dX7_wed_6 rfl ?_
  refine g_istore_n (np := 10) (lv' := [(3, .int r1.1), (0, .ref q0), (1, .int x1), (2, .int x2)]) h rfl (by decide) rfl dX7_wed_9 rfl ?_
  refine g_iload_n (np := 11) h 0 rfl rfl dX7_wed_10 rfl ?_
  refine g_if_ne h hF dX7_wed_11 (np := 14) rfl (tg := 24) rfl (fun c2 hF => ?_) (fun c2 hF => ?_)
  · refine g_iload_n (np := 25) h 0 rfl rfl dX7_wed_24 rfl ?_
    exact hend _ hF _ _ dX7_wed_25
  · refine g_aload_n (np := 15) h 1 rfl rfl dX7_wed_14 rfl ?_
    refine g_dup (np := 16) h rfl dX7_wed_15 rfl ?_
    refine g_get (np := 19) (T := TX7) h imX7_wed_u_X7 0 7 rfl rfl 3 (by decide) (imX7_wed_own _ (List.mem_of_getElem? (i := 1) rfl)) rfl dX7_wed_16 rfl ?_
    refine g_iconst (np := 20) (v := (1 : Int32)) h (by decide) dX7_wed_19 rfl ?_
    refine g_iadd (np := 21) h dX7_wed_20 rfl ?_
    refine g_put (np := 24) (T := TX7) (Wd' := (wdX7_wed cI cZ q0 q1 q2 q3 q4 q5 q6 d7 d8 d9 d10 d11 d12 d13 d14 (v_weddings + (1 : Int32)) v_wreck v_piece r1.2 v_acts v_why v_year)) h imX7_wed_u_X7 tyX7_ok nmX7 0 7 rfl rfl 3 (by decide) (imX7_wed_own _ (List.mem_of_getElem? (i := 1) rfl)) rfl rfl rfl (Nat.le_of_ble_eq_true rfl) rfl dX7_wed_21 rfl ?_
    refine g_iload_n (np := 25) h 0 rfl rfl dX7_wed_24 rfl ?_
    exact hend _ hF _ _ dX7_wed_25
theorem dX7_tell_0 : decode cX7_tell 0 = .ok (.aload_n 0, 1) := by decide +kernel
theorem dX7_tell_1 : decode cX7_tell 1 = .ok (.aload_n 2, 1) := by decide +kernel
theorem dX7_tell_2 : decode cX7_tell 2 = .ok (.invokevirtual 32, 3) := by decide +kernel
theorem dX7_tell_5 : decode cX7_tell 5 = .ok (.iconst 0, 1) := by decide +kernel
theorem dX7_tell_6 : decode cX7_tell 6 = .ok (.istore_n 3, 1) := by decide +kernel
theorem dX7_tell_7 : decode cX7_tell 7 = .ok (.iconst 0, 1) := by decide +kernel
theorem dX7_tell_8 : decode cX7_tell 8 = .ok (.istore 4, 2) := by decide +kernel
theorem dX7_tell_10 : decode cX7_tell 10 = .ok (.iload 4, 2) := by decide +kernel
theorem dX7_tell_12 : decode cX7_tell 12 = .ok (.bipush 60, 2) := by decide +kernel
theorem dX7_tell_14 : decode cX7_tell 14 = .ok (.if_icmp .ge 161, 3) := by decide +kernel
theorem dX7_tell_17 : decode cX7_tell 17 = .ok (.iload_n 3, 1) := by decide +kernel
theorem dX7_tell_18 : decode cX7_tell 18 = .ok (.aload_n 1, 1) := by decide +kernel
theorem dX7_tell_19 : decode cX7_tell 19 = .ok (.getfield 35, 3) := by decide +kernel
theorem dX7_tell_22 : decode cX7_tell 22 = .ok (.if_icmp .ge 153, 3) := by decide +kernel
theorem dX7_tell_25 : decode cX7_tell 25 = .ok (.aload_n 1, 1) := by decide +kernel
theorem dX7_tell_26 : decode cX7_tell 26 = .ok (.getfield 40, 3) := by decide +kernel
theorem dX7_tell_29 : decode cX7_tell 29 = .ok (.iload_n 3, 1) := by decide +kernel
theorem dX7_tell_30 : decode cX7_tell 30 = .ok (.invokestatic 44, 3) := by decide +kernel
theorem dX7_tell_33 : decode cX7_tell 33 = .ok (.istore 5, 2) := by decide +kernel
theorem dX7_tell_35 : decode cX7_tell 35 = .ok (.aload_n 1, 1) := by decide +kernel
theorem dX7_tell_36 : decode cX7_tell 36 = .ok (.getfield 40, 3) := by decide +kernel
theorem dX7_tell_39 : decode cX7_tell 39 = .ok (.iload_n 3, 1) := by decide +kernel
theorem dX7_tell_40 : decode cX7_tell 40 = .ok (.iconst 1, 1) := by decide +kernel
theorem dX7_tell_41 : decode cX7_tell 41 = .ok (.iadd, 1) := by decide +kernel
theorem dX7_tell_42 : decode cX7_tell 42 = .ok (.invokestatic 44, 3) := by decide +kernel
theorem dX7_tell_45 : decode cX7_tell 45 = .ok (.istore 6, 2) := by decide +kernel
theorem dX7_tell_47 : decode cX7_tell 47 = .ok (.iload 5, 2) := by decide +kernel
theorem dX7_tell_49 : decode cX7_tell 49 = .ok (.invokestatic 48, 3) := by decide +kernel
theorem dX7_tell_52 : decode cX7_tell 52 = .ok (.ifCond .ne 42, 3) := by decide +kernel
theorem dX7_tell_55 : decode cX7_tell 55 = .ok (.aload_n 0, 1) := by decide +kernel
theorem dX7_tell_56 : decode cX7_tell 56 = .ok (.iload 5, 2) := by decide +kernel
theorem dX7_tell_58 : decode cX7_tell 58 = .ok (.bipush 46, 2) := by decide +kernel
theorem dX7_tell_60 : decode cX7_tell 60 = .ok (.if_icmp .ne 13, 3) := by decide +kernel
theorem dX7_tell_63 : decode cX7_tell 63 = .ok (.aload_n 0, 1) := by decide +kernel
theorem dX7_tell_64 : decode cX7_tell 64 = .ok (.getfield 12, 3) := by decide +kernel
theorem dX7_tell_67 : decode cX7_tell 67 = .ok (.invokevirtual 52, 3) := by decide +kernel
theorem dX7_tell_70 : decode cX7_tell 70 = .ok (.goto 15, 3) := by decide +kernel
theorem dX7_tell_73 : decode cX7_tell 73 = .ok (.aload_n 0, 1) := by decide +kernel
theorem dX7_tell_74 : decode cX7_tell 74 = .ok (.getfield 12, 3) := by decide +kernel
theorem dX7_tell_77 : decode cX7_tell 77 = .ok (.iload 5, 2) := by decide +kernel
theorem dX7_tell_79 : decode cX7_tell 79 = .ok (.bipush 48, 2) := by decide +kernel
theorem dX7_tell_81 : decode cX7_tell 81 = .ok (.isub, 1) := by decide +kernel
theorem dX7_tell_82 : decode cX7_tell 82 = .ok (.invokevirtual 56, 3) := by decide +kernel
theorem dX7_tell_85 : decode cX7_tell 85 = .ok (.putfield 22, 3) := by decide +kernel
theorem dX7_tell_88 : decode cX7_tell 88 = .ok (.iinc 3 1, 3) := by decide +kernel
theorem dX7_tell_91 : decode cX7_tell 91 = .ok (.goto 60, 3) := by decide +kernel
theorem dX7_tell_94 : decode cX7_tell 94 = .ok (.iload 6, 2) := by decide +kernel
theorem dX7_tell_96 : decode cX7_tell 96 = .ok (.bipush 43, 2) := by decide +kernel
theorem dX7_tell_98 : decode cX7_tell 98 = .ok (.if_icmp .ne 35, 3) := by decide +kernel
theorem dX7_tell_101 : decode cX7_tell 101 = .ok (.aload_n 0, 1) := by decide +kernel
theorem dX7_tell_102 : decode cX7_tell 102 = .ok (.aload_n 0, 1) := by decide +kernel
theorem dX7_tell_103 : decode cX7_tell 103 = .ok (.iload 5, 2) := by decide +kernel
theorem dX7_tell_105 : decode cX7_tell 105 = .ok (.bipush 65, 2) := by decide +kernel
theorem dX7_tell_107 : decode cX7_tell 107 = .ok (.isub, 1) := by decide +kernel
theorem dX7_tell_108 : decode cX7_tell 108 = .ok (.aload_n 1, 1) := by decide +kernel
theorem dX7_tell_109 : decode cX7_tell 109 = .ok (.getfield 40, 3) := by decide +kernel
theorem dX7_tell_112 : decode cX7_tell 112 = .ok (.iload_n 3, 1) := by decide +kernel
theorem dX7_tell_113 : decode cX7_tell 113 = .ok (.iconst 2, 1) := by decide +kernel
theorem dX7_tell_114 : decode cX7_tell 114 = .ok (.iadd, 1) := by decide +kernel
theorem dX7_tell_115 : decode cX7_tell 115 = .ok (.invokestatic 44, 3) := by decide +kernel
theorem dX7_tell_118 : decode cX7_tell 118 = .ok (.bipush 65, 2) := by decide +kernel
theorem dX7_tell_120 : decode cX7_tell 120 = .ok (.isub, 1) := by decide +kernel
theorem dX7_tell_121 : decode cX7_tell 121 = .ok (.invokevirtual 60, 3) := by decide +kernel
theorem dX7_tell_124 : decode cX7_tell 124 = .ok (.putfield 22, 3) := by decide +kernel
theorem dX7_tell_127 : decode cX7_tell 127 = .ok (.iinc 3 3, 3) := by decide +kernel
theorem dX7_tell_130 : decode cX7_tell 130 = .ok (.goto 21, 3) := by decide +kernel
theorem dX7_tell_133 : decode cX7_tell 133 = .ok (.aload_n 0, 1) := by decide +kernel
theorem dX7_tell_134 : decode cX7_tell 134 = .ok (.aload_n 0, 1) := by decide +kernel
theorem dX7_tell_135 : decode cX7_tell 135 = .ok (.iload 5, 2) := by decide +kernel
theorem dX7_tell_137 : decode cX7_tell 137 = .ok (.bipush 65, 2) := by decide +kernel
theorem dX7_tell_139 : decode cX7_tell 139 = .ok (.isub, 1) := by decide +kernel
theorem dX7_tell_140 : decode cX7_tell 140 = .ok (.iload 6, 2) := by decide +kernel
theorem dX7_tell_142 : decode cX7_tell 142 = .ok (.invokevirtual 64, 3) := by decide +kernel
theorem dX7_tell_145 : decode cX7_tell 145 = .ok (.putfield 22, 3) := by decide +kernel
theorem dX7_tell_148 : decode cX7_tell 148 = .ok (.iinc 3 2, 3) := by decide +kernel
theorem dX7_tell_151 : decode cX7_tell 151 = .ok (.aload_n 0, 1) := by decide +kernel
theorem dX7_tell_152 : decode cX7_tell 152 = .ok (.getfield 22, 3) := by decide +kernel
theorem dX7_tell_155 : decode cX7_tell 155 = .ok (.ifCond .eq 4, 3) := by decide +kernel
theorem dX7_tell_158 : decode cX7_tell 158 = .ok (.return_, 1) := by decide +kernel
theorem dX7_tell_159 : decode cX7_tell 159 = .ok (.aload_n 0, 1) := by decide +kernel
theorem dX7_tell_160 : decode cX7_tell 160 = .ok (.dup, 1) := by decide +kernel
theorem dX7_tell_161 : decode cX7_tell 161 = .ok (.getfield 18, 3) := by decide +kernel
theorem dX7_tell_164 : decode cX7_tell 164 = .ok (.iconst 1, 1) := by decide +kernel
theorem dX7_tell_165 : decode cX7_tell 165 = .ok (.iadd, 1) := by decide +kernel
theorem dX7_tell_166 : decode cX7_tell 166 = .ok (.putfield 18, 3) := by decide +kernel
theorem dX7_tell_169 : decode cX7_tell 169 = .ok (.iinc 4 1, 3) := by decide +kernel
theorem dX7_tell_172 : decode cX7_tell 172 = .ok (.goto (-162), 3) := by decide +kernel
theorem dX7_tell_175 : decode cX7_tell 175 = .ok (.return_, 1) := by decide +kernel
def wtX7_tell : List Cond := .code yX7_tell cX7_tell 7 none :: (([.fieldLink RX7 35 "DriftKin$Pad" "count" "I", .fieldLink RX7 40 "DriftKin$Pad" "signs" "[I", .static yX8_at, .initialized RX8, .fieldLink RX7 12 "DriftKin$Years" "end" "LDriftKin$Shore;", .fieldLink RX7 22 "DriftKin$Years" "why" "I", .fieldLink RX7 18 "DriftKin$Years" "acts" "I"]) ++ ((u_ws RX2 TX2 2) ++ ((u_ws RX7 TX7 4) ++ ((wsV RX7 32 RX7 yX7_begin wtX7_begin) ++ ((wtX8_at) ++ ((va_wsS RX7 48 yX2_isHouseSign wtX2_isHouseSign) ++ ((wsV RX7 52 RX5 yX5_passYear wtX5_passYear) ++ ((wsV RX7 56 RX5 yX5_comeIn wtX5_comeIn) ++ ((wsV RX7 60 RX7 yX7_wed wtX7_wed) ++ ((wsV RX7 64 RX7 yX7_homeAct wtX7_homeAct) ++ []))))))))))
theorem imX7_tell_own : ∀ w ∈ ([.fieldLink RX7 35 "DriftKin$Pad" "count" "I", .fieldLink RX7 40 "DriftKin$Pad" "signs" "[I", .static yX8_at, .initialized RX8, .fieldLink RX7 12 "DriftKin$Years" "end" "LDriftKin$Shore;", .fieldLink RX7 22 "DriftKin$Years" "why" "I", .fieldLink RX7 18 "DriftKin$Years" "acts" "I"] : List Cond), w ∈ wtX7_tell := fun w h => List.mem_cons_of_mem _ (inl h)
theorem imX7_tell_u_X2 : ∀ w ∈ (u_ws RX2 TX2 2 : List Cond), w ∈ wtX7_tell := fun w h => List.mem_cons_of_mem _ (inr (inl h))
theorem imX7_tell_u_X7 : ∀ w ∈ (u_ws RX7 TX7 4 : List Cond), w ∈ wtX7_tell := fun w h => List.mem_cons_of_mem _ (inr (inr (inl h)))
theorem imX7_tell_c_X7_begin : ∀ w ∈ (wsV RX7 32 RX7 yX7_begin wtX7_begin : List Cond), w ∈ wtX7_tell := fun w h => List.mem_cons_of_mem _ (inr (inr (inr (inl h))))
theorem imX7_tell_c_X8_at : ∀ w ∈ (wtX8_at : List Cond), w ∈ wtX7_tell := fun w h => List.mem_cons_of_mem _ (inr (inr (inr (inr (inl h)))))
theorem imX7_tell_c_X2_isHouseSign : ∀ w ∈ (va_wsS RX7 48 yX2_isHouseSign wtX2_isHouseSign : List Cond), w ∈ wtX7_tell := fun w h => List.mem_cons_of_mem _ (inr (inr (inr (inr (inr (inl h))))))
theorem imX7_tell_c_X5_passYear : ∀ w ∈ (wsV RX7 52 RX5 yX5_passYear wtX5_passYear : List Cond), w ∈ wtX7_tell := fun w h => List.mem_cons_of_mem _ (inr (inr (inr (inr (inr (inr (inl h)))))))
theorem imX7_tell_c_X5_comeIn : ∀ w ∈ (wsV RX7 56 RX5 yX5_comeIn wtX5_comeIn : List Cond), w ∈ wtX7_tell := fun w h => List.mem_cons_of_mem _ (inr (inr (inr (inr (inr (inr (inr (inl h))))))))
theorem imX7_tell_c_X7_wed : ∀ w ∈ (wsV RX7 60 RX7 yX7_wed wtX7_wed : List Cond), w ∈ wtX7_tell := fun w h => List.mem_cons_of_mem _ (inr (inr (inr (inr (inr (inr (inr (inr (inl h)))))))))
theorem imX7_tell_c_X7_homeAct : ∀ w ∈ (wsV RX7 64 RX7 yX7_homeAct wtX7_homeAct : List Cond), w ∈ wtX7_tell := fun w h => List.mem_cons_of_mem _ (inr (inr (inr (inr (inr (inr (inr (inr (inr (inl h))))))))))
theorem gdX7_tell : ∀ w ∈ wtX7_tell, Gd w := gdc rfl (gda (gdl (by decide +kernel)) (gda (gdu _ _ _) (gda (gdu _ _ _) (gda (gda (gdl (by decide +kernel)) gdX7_begin) (gda gdX8_at (gda (gda (gdl (by decide +kernel)) gdX2_isHouseSign) (gda (gda (gdl (by decide +kernel)) gdX5_passYear) (gda (gda (gdl (by decide +kernel)) gdX5_comeIn) (gda (gda (gdl (by decide +kernel)) gdX7_wed) (gda (gda (gdl (by decide +kernel)) gdX7_homeAct) gdn))))))))))
theorem gcX7_tell_X7_begin : GoodIn wtX7_tell (wsV RX7 32 RX7 yX7_begin wtX7_begin) := fun w h => ⟨imX7_tell_c_X7_begin w h, (gda (gdl (by decide +kernel)) gdX7_begin) w h⟩
theorem gcX7_tell_X8_at : GoodIn wtX7_tell (wtX8_at) := fun w h => ⟨imX7_tell_c_X8_at w h, gdX8_at w h⟩
theorem gcX7_tell_X2_isHouseSign : GoodIn wtX7_tell (va_wsS RX7 48 yX2_isHouseSign wtX2_isHouseSign) := fun w h => ⟨imX7_tell_c_X2_isHouseSign w h, (gda (gdl (by decide +kernel)) gdX2_isHouseSign) w h⟩
theorem gcX7_tell_X5_passYear : GoodIn wtX7_tell (wsV RX7 52 RX5 yX5_passYear wtX5_passYear) := fun w h => ⟨imX7_tell_c_X5_passYear w h, (gda (gdl (by decide +kernel)) gdX5_passYear) w h⟩
theorem gcX7_tell_X5_comeIn : GoodIn wtX7_tell (wsV RX7 56 RX5 yX5_comeIn wtX5_comeIn) := fun w h => ⟨imX7_tell_c_X5_comeIn w h, (gda (gdl (by decide +kernel)) gdX5_comeIn) w h⟩
theorem gcX7_tell_X7_wed : GoodIn wtX7_tell (wsV RX7 60 RX7 yX7_wed wtX7_wed) := fun w h => ⟨imX7_tell_c_X7_wed w h, (gda (gdl (by decide +kernel)) gdX7_wed) w h⟩
theorem gcX7_tell_X7_homeAct : GoodIn wtX7_tell (wsV RX7 64 RX7 yX7_homeAct wtX7_homeAct) := fun w h => ⟨imX7_tell_c_X7_homeAct w h, (gda (gdl (by decide +kernel)) gdX7_homeAct) w h⟩
def fX7_tell_151 (k10 : Int32 → Int32 → Int32 → Int32 → (Nat → Int32) → (Nat → Int32) → (Nat → Int32) → (Nat → Int32) → Int32 → Int32 → Option (Int32 × Int32 × Int32 × Int32 × (Nat → Int32) × (Nat → Int32) × (Nat → Int32) × (Nat → Int32) × (Nat → Int32) × (Nat → Int32) × (Nat → Int32) × (Nat → Int32) × (Nat → Int32) × (Nat → Int32) × Int32 × (Nat → Int32) × (Nat → Int32) × (Nat → Int32))) (v_acts : Int32) (v_why : Int32) (v_weddings : Int32) (v_year : Int32) (v_wreck : Nat → Int32) (v_wood : Nat → Int32) (v_length : Nat → Int32) (v_left : Nat → Int32) (v_right : Nat → Int32) (v_place : Nat → Int32) (v_rings : Nat → Int32) (v_piece : Nat → Int32) (v_partner : Nat → Int32) (v_children : Nat → Int32) (v_count : Int32) (v_house : Nat → Int32) (v_reach : Nat → Int32) (v_sounded : Nat → Int32) (v_count2 : Int32) (v_signs : Nat → Int32) (x3 : Int32) (x4 : Int32) : Option (Int32 × Int32 × Int32 × Int32 × (Nat → Int32) × (Nat → Int32) × (Nat → Int32) × (Nat → Int32) × (Nat → Int32) × (Nat → Int32) × (Nat → Int32) × (Nat → Int32) × (Nat → Int32) × (Nat → Int32) × Int32 × (Nat → Int32) × (Nat → Int32) × (Nat → Int32)) :=
  if v_why = (0 : Int32) then
    k10 (v_acts + (1 : Int32)) v_why v_weddings v_year v_place v_piece v_partner v_children x3 (x4 + (1 : Int32))
  else
    some (v_acts, v_why, v_weddings, v_year, v_wreck, v_wood, v_length, v_left, v_right, v_place, v_rings, v_piece, v_partner, v_children, v_count, v_house, v_reach, v_sounded)
def fX7_tell_10 (v_wreck : Nat → Int32) (v_wood : Nat → Int32) (v_length : Nat → Int32) (v_left : Nat → Int32) (v_right : Nat → Int32) (v_rings : Nat → Int32) (v_count : Int32) (v_house : Nat → Int32) (v_reach : Nat → Int32) (v_sounded : Nat → Int32) (v_count2 : Int32) (v_signs : Nat → Int32) : Nat → Int32 → Int32 → Int32 → Int32 → (Nat → Int32) → (Nat → Int32) → (Nat → Int32) → (Nat → Int32) → Int32 → Int32 → Option (Int32 × Int32 × Int32 × Int32 × (Nat → Int32) × (Nat → Int32) × (Nat → Int32) × (Nat → Int32) × (Nat → Int32) × (Nat → Int32) × (Nat → Int32) × (Nat → Int32) × (Nat → Int32) × (Nat → Int32) × Int32 × (Nat → Int32) × (Nat → Int32) × (Nat → Int32))
  | 0, _, _, _, _, _, _, _, _, _, _ => none
  | n + 1, v_acts, v_why, v_weddings, v_year, v_place, v_piece, v_partner, v_children, x3, x4 =>
    if (60 : Int32) ≤ x4 then
      some (v_acts, v_why, v_weddings, v_year, v_wreck, v_wood, v_length, v_left, v_right, v_place, v_rings, v_piece, v_partner, v_children, v_count, v_house, v_reach, v_sounded)
    else
      if v_count2 ≤ x3 then
        some (v_acts, v_why, v_weddings, v_year, v_wreck, v_wood, v_length, v_left, v_right, v_place, v_rings, v_piece, v_partner, v_children, v_count, v_house, v_reach, v_sounded)
      else
        (fX8_at 60 v_signs x3).bind (fun r2003 =>
          (fX8_at 60 v_signs (x3 + (1 : Int32))).bind (fun r2004 =>
            (fX2_isHouseSign r2003).bind (fun r2005 =>
              if r2005 = (0 : Int32) then
                if r2003 = (46 : Int32) then
                  (fX5_passYear v_year v_partner v_children).bind (fun r2013 =>
                    fX7_tell_151 (fun y0 y1 y2 y3 y4 y5 y6 y7 y8 y9 => fX7_tell_10 v_wreck v_wood v_length v_left v_right v_rings v_count v_house v_reach v_sounded v_count2 v_signs n y0 y1 y2 y3 y4 y5 y6 y7 y8 y9) v_acts r2013.1 v_weddings r2013.2.1 v_wreck v_wood v_length v_left v_right v_place v_rings v_piece v_partner r2013.2.2 v_count v_house v_reach v_sounded v_count2 v_signs (x3 + (1 : Int32)) x4)
                else
                  (fX5_comeIn v_place (r2003 - (48 : Int32))).bind (fun r2012 =>
                    fX7_tell_151 (fun y0 y1 y2 y3 y4 y5 y6 y7 y8 y9 => fX7_tell_10 v_wreck v_wood v_length v_left v_right v_rings v_count v_house v_reach v_sounded v_count2 v_signs n y0 y1 y2 y3 y4 y5 y6 y7 y8 y9) v_acts r2012.1 v_weddings v_year v_wreck v_wood v_length v_left v_right r2012.2 v_rings v_piece v_partner v_children v_count v_house v_reach v_sounded v_count2 v_signs (x3 + (1 : Int32)) x4)
              else
                if r2004 = (43 : Int32) then
                  (fX8_at 60 v_signs (x3 + (2 : Int32))).bind (fun r2009 =>
                    (fX7_wed v_weddings v_wreck v_piece v_partner (r2003 - (65 : Int32)) (r2009 - (65 : Int32))).bind (fun r2010 =>
                      fX7_tell_151 (fun y0 y1 y2 y3 y4 y5 y6 y7 y8 y9 => fX7_tell_10 v_wreck v_wood v_length v_left v_right v_rings v_count v_house v_reach v_sounded v_count2 v_signs n y0 y1 y2 y3 y4 y5 y6 y7 y8 y9) v_acts r2010.1 r2010.2.1 v_year v_wreck v_wood v_length v_left v_right v_place v_rings v_piece r2010.2.2 v_children v_count v_house v_reach v_sounded v_count2 v_signs (x3 + (3 : Int32)) x4))
                else
                  (fX7_homeAct v_place v_piece v_partner (r2003 - (65 : Int32)) r2004).bind (fun r2008 =>
                    fX7_tell_151 (fun y0 y1 y2 y3 y4 y5 y6 y7 y8 y9 => fX7_tell_10 v_wreck v_wood v_length v_left v_right v_rings v_count v_house v_reach v_sounded v_count2 v_signs n y0 y1 y2 y3 y4 y5 y6 y7 y8 y9) v_acts r2008.1 v_weddings v_year v_wreck v_wood v_length v_left v_right r2008.2.1 v_rings r2008.2.2.1 r2008.2.2.2 v_children v_count v_house v_reach v_sounded v_count2 v_signs (x3 + (2 : Int32)) x4))))
def fX7_tell (v_acts : Int32) (v_why : Int32) (v_weddings : Int32) (v_year : Int32) (v_wreck : Nat → Int32) (v_wood : Nat → Int32) (v_length : Nat → Int32) (v_left : Nat → Int32) (v_right : Nat → Int32) (v_place : Nat → Int32) (v_rings : Nat → Int32) (v_piece : Nat → Int32) (v_partner : Nat → Int32) (v_children : Nat → Int32) (v_count : Int32) (v_house : Nat → Int32) (v_reach : Nat → Int32) (v_sounded : Nat → Int32) (v_count2 : Int32) (v_signs : Nat → Int32) (v_year2 : Int32) (v_wreck2 : Nat → Int32) (v_wood2 : Nat → Int32) (v_length2 : Nat → Int32) (v_left2 : Nat → Int32) (v_right2 : Nat → Int32) (v_place2 : Nat → Int32) (v_rings2 : Nat → Int32) (v_piece2 : Nat → Int32) (v_partner2 : Nat → Int32) (v_children2 : Nat → Int32) (v_count3 : Int32) (v_house2 : Nat → Int32) (v_reach2 : Nat → Int32) (v_sounded2 : Nat → Int32) : Option (Int32 × Int32 × Int32 × Int32 × (Nat → Int32) × (Nat → Int32) × (Nat → Int32) × (Nat → Int32) × (Nat → Int32) × (Nat → Int32) × (Nat → Int32) × (Nat → Int32) × (Nat → Int32) × (Nat → Int32) × Int32 × (Nat → Int32) × (Nat → Int32) × (Nat → Int32)) :=
  (fX7_begin v_acts v_why v_weddings v_year v_wreck v_wood v_length v_left v_right v_place v_rings v_piece v_partner v_children v_count v_house v_reach v_sounded v_year2 v_wreck2 v_wood2 v_length2 v_left2 v_right2 v_place2 v_rings2 v_piece2 v_partner2 v_children2 v_count3 v_house2 v_reach2 v_sounded2).bind (fun r1 =>
    fX7_tell_10 r1.2.2.2.2.1 r1.2.2.2.2.2.1 r1.2.2.2.2.2.2.1 r1.2.2.2.2.2.2.2.1 r1.2.2.2.2.2.2.2.2.1 r1.2.2.2.2.2.2.2.2.2.2.1 r1.2.2.2.2.2.2.2.2.2.2.2.2.2.2.1 r1.2.2.2.2.2.2.2.2.2.2.2.2.2.2.2.1 r1.2.2.2.2.2.2.2.2.2.2.2.2.2.2.2.2.1 r1.2.2.2.2.2.2.2.2.2.2.2.2.2.2.2.2.2 v_count2 v_signs 2000 r1.1 r1.2.1 r1.2.2.1 r1.2.2.2.1 r1.2.2.2.2.2.2.2.2.2.1 r1.2.2.2.2.2.2.2.2.2.2.2.1 r1.2.2.2.2.2.2.2.2.2.2.2.2.1 r1.2.2.2.2.2.2.2.2.2.2.2.2.2.1 (0 : Int32) (0 : Int32))
def wdX7_tell (cI cZ : ClassId) (q0 : Nat) (q1 : Nat) (q2 : Nat) (q3 : Nat) (q4 : Nat) (q5 : Nat) (q6 : Nat) (q7 : Nat) (q8 : Nat) (q9 : Nat) (q10 : Nat) (q11 : Nat) (q12 : Nat) (q13 : Nat) (q14 : Nat) (q15 : Nat) (q16 : Nat) (q17 : Nat) (q18 : Nat) (q19 : Nat) (q20 : Nat) (q21 : Nat) (q22 : Nat) (q23 : Nat) (q24 : Nat) (q25 : Nat) (q26 : Nat) (q27 : Nat) (q28 : Nat) (q29 : Nat) (q30 : Nat) (q31 : Nat) (q32 : Nat) (q33 : Nat) (q34 : Nat) (q35 : Nat) (q36 : Nat)  (v_acts : Int32) (v_why : Int32) (v_weddings : Int32) (v_year : Int32) (v_wreck : Nat → Int32) (v_wood : Nat → Int32) (v_length : Nat → Int32) (v_left : Nat → Int32) (v_right : Nat → Int32) (v_place : Nat → Int32) (v_rings : Nat → Int32) (v_piece : Nat → Int32) (v_partner : Nat → Int32) (v_children : Nat → Int32) (v_count : Int32) (v_house : Nat → Int32) (v_reach : Nat → Int32) (v_sounded : Nat → Int32) (v_count2 : Int32) (v_signs : Nat → Int32) (v_year2 : Int32) (v_wreck2 : Nat → Int32) (v_wood2 : Nat → Int32) (v_length2 : Nat → Int32) (v_left2 : Nat → Int32) (v_right2 : Nat → Int32) (v_place2 : Nat → Int32) (v_rings2 : Nat → Int32) (v_piece2 : Nat → Int32) (v_partner2 : Nat → Int32) (v_children2 : Nat → Int32) (v_count3 : Int32) (v_house2 : Nat → Int32) (v_reach2 : Nat → Int32) (v_sounded2 : Nat → Int32) : va_W := [(q0, .inr (7, [.ref q1, .int v_acts, .int v_why, .int v_weddings])), (q1, .inr (5, [.ref q2, .ref q10, .ref q14, .int v_year])), (q2, .inr (3, [.ref q3, .ref q4, .ref q5, .ref q6, .ref q7, .ref q8, .ref q9])), (q3, .inl (cI, 10, .inl v_wreck)), (q4, .inl (cI, 10, .inl v_wood)), (q5, .inl (cI, 10, .inl v_length)), (q6, .inl (cI, 10, .inl v_left)), (q7, .inl (cI, 10, .inl v_right)), (q8, .inl (cI, 10, .inl v_place)), (q9, .inl (cI, 10, .inl v_rings)), (q10, .inr (0, [.ref q11, .ref q12, .ref q13])), (q11, .inl (cI, 8, .inl v_piece)), (q12, .inl (cI, 8, .inl v_partner)), (q13, .inl (cI, 8, .inl v_children)), (q14, .inr (6, [.ref q15, .ref q16, .ref q17, .int v_count])), (q15, .inl (cI, 8, .inl v_house)), (q16, .inl (cI, 8, .inl v_reach)), (q17, .inl (cI, 8, .inl v_sounded)), (q18, .inr (2, [.ref q19, .int v_count2])), (q19, .inl (cI, 60, .inl v_signs)), (q20, .inr (5, [.ref q21, .ref q29, .ref q33, .int v_year2])), (q21, .inr (3, [.ref q22, .ref q23, .ref q24, .ref q25, .ref q26, .ref q27, .ref q28])), (q22, .inl (cI, 10, .inl v_wreck2)), (q23, .inl (cI, 10, .inl v_wood2)), (q24, .inl (cI, 10, .inl v_length2)), (q25, .inl (cI, 10, .inl v_left2)), (q26, .inl (cI, 10, .inl v_right2)), (q27, .inl (cI, 10, .inl v_place2)), (q28, .inl (cI, 10, .inl v_rings2)), (q29, .inr (0, [.ref q30, .ref q31, .ref q32])), (q30, .inl (cI, 8, .inl v_piece2)), (q31, .inl (cI, 8, .inl v_partner2)), (q32, .inl (cI, 8, .inl v_children2)), (q33, .inr (6, [.ref q34, .ref q35, .ref q36, .int v_count3])), (q34, .inl (cI, 8, .inl v_house2)), (q35, .inl (cI, 8, .inl v_reach2)), (q36, .inl (cI, 8, .inl v_sounded2))]
abbrev rmX7_tell : Jvm.Room := { frames := 4, cells := 0, slots := 0, locals := 87 }
theorem hyX7_tell : yX7_tell.cls ≠ "java/lang/invoke/MethodHandle" ∧ yX7_tell.cls ≠ "java/lang/invoke/VarHandle" ∧ (parseMethodDescriptor yX7_tell.desc).map (fun d => d.parameters.length) = some 2 := by decide +kernel
set_option maxHeartbeats 4000000 in
set_option maxRecDepth 100000 in
theorem mX7_tell (l : Launch) (D : va_G) (cI cZ : ClassId) (q0 : Nat) (q1 : Nat) (q2 : Nat) (q3 : Nat) (q4 : Nat) (q5 : Nat) (q6 : Nat) (q7 : Nat) (q8 : Nat) (q9 : Nat) (q10 : Nat) (q11 : Nat) (q12 : Nat) (q13 : Nat) (q14 : Nat) (q15 : Nat) (q16 : Nat) (q17 : Nat) (q18 : Nat) (q19 : Nat) (q20 : Nat) (q21 : Nat) (q22 : Nat) (q23 : Nat) (q24 : Nat) (q25 : Nat) (q26 : Nat) (q27 : Nat) (q28 : Nat) (q29 : Nat) (q30 : Nat) (q31 : Nat) (q32 : Nat) (q33 : Nat) (q34 : Nat) (q35 : Nat) (q36 : Nat) (v_acts : Int32) (v_why : Int32) (v_weddings : Int32) (v_year : Int32) (v_wreck : Nat → Int32) (v_wood : Nat → Int32) (v_length : Nat → Int32) (v_left : Nat → Int32) (v_right : Nat → Int32) (v_place : Nat → Int32) (v_rings : Nat → Int32) (v_piece : Nat → Int32) (v_partner : Nat → Int32) (v_children : Nat → Int32) (v_count : Int32) (v_house : Nat → Int32) (v_reach : Nat → Int32) (v_sounded : Nat → Int32) (v_count2 : Int32) (v_signs : Nat → Int32) (v_year2 : Int32) (v_wreck2 : Nat → Int32) (v_wood2 : Nat → Int32) (v_length2 : Nat → Int32) (v_left2 : Nat → Int32) (v_right2 : Nat → Int32) (v_place2 : Nat → Int32) (v_rings2 : Nat → Int32) (v_piece2 : Nat → Int32) (v_partner2 : Nat → Int32) (v_children2 : Nat → Int32) (v_count3 : Int32) (v_house2 : Nat → Int32) (v_reach2 : Nat → Int32) (v_sounded2 : Nat → Int32) (z : Int32 × Int32 × Int32 × Int32 × (Nat → Int32) × (Nat → Int32) × (Nat → Int32) × (Nat → Int32) × (Nat → Int32) × (Nat → Int32) × (Nat → Int32) × (Nat → Int32) × (Nat → Int32) × (Nat → Int32) × Int32 × (Nat → Int32) × (Nat → Int32) × (Nat → Int32)) (hF : fX7_tell v_acts v_why v_weddings v_year v_wreck v_wood v_length v_left v_right v_place v_rings v_piece v_partner v_children v_count v_house v_reach v_sounded v_count2 v_signs v_year2 v_wreck2 v_wood2 v_length2 v_left2 v_right2 v_place2 v_rings2 v_piece2 v_partner2 v_children2 v_count3 v_house2 v_reach2 v_sounded2 = some z) : mp l yX7_tell wtX7_tell rmX7_tell D cI cZ [.ref q0, .ref q18, .ref q20] (wdX7_tell cI cZ q0 q1 q2 q3 q4 q5 q6 q7 q8 q9 q10 q11 q12 q13 q14 q15 q16 q17 q18 q19 q20 q21 q22 q23 q24 q25 q26 q27 q28 q29 q30 q31 q32 q33 q34 q35 q36 v_acts v_why v_weddings v_year v_wreck v_wood v_length v_left v_right v_place v_rings v_piece v_partner v_children v_count v_house v_reach v_sounded v_count2 v_signs v_year2 v_wreck2 v_wood2 v_length2 v_left2 v_right2 v_place2 v_rings2 v_piece2 v_partner2 v_children2 v_count3 v_house2 v_reach2 v_sounded2) none (wdX7_tell cI cZ q0 q1 q2 q3 q4 q5 q6 q7 q8 q9 q10 q11 q12 q13 q14 q15 q16 q17 q18 q19 q20 q21 q22 q23 q24 q25 q26 q27 q28 q29 q30 q31 q32 q33 q34 q35 q36 z.1 z.2.1 z.2.2.1 z.2.2.2.1 z.2.2.2.2.1 z.2.2.2.2.2.1 z.2.2.2.2.2.2.1 z.2.2.2.2.2.2.2.1 z.2.2.2.2.2.2.2.2.1 z.2.2.2.2.2.2.2.2.2.1 z.2.2.2.2.2.2.2.2.2.2.1 z.2.2.2.2.2.2.2.2.2.2.2.1 z.2.2.2.2.2.2.2.2.2.2.2.2.1 z.2.2.2.2.2.2.2.2.2.2.2.2.2.1 z.2.2.2.2.2.2.2.2.2.2.2.2.2.2.1 z.2.2.2.2.2.2.2.2.2.2.2.2.2.2.2.1 z.2.2.2.2.2.2.2.2.2.2.2.2.2.2.2.2.1 z.2.2.2.2.2.2.2.2.2.2.2.2.2.2.2.2.2 v_count2 v_signs v_year2 v_wreck2 v_wood2 v_length2 v_left2 v_right2 v_place2 v_rings2 v_piece2 v_partner2 v_children2 v_count3 v_house2 v_reach2 v_sounded2) := by
  refine mp_v (lv0 := [(0, .ref q0), (1, .ref q18), (2, .ref q20)]) cX7_tell 7 (by decide) rfl (Nat.le_of_ble_eq_true rfl) rfl (fun E h hend0 => ?_)
  have hend : ∀ (z' : Int32 × Int32 × Int32 × Int32 × (Nat → Int32) × (Nat → Int32) × (Nat → Int32) × (Nat → Int32) × (Nat → Int32) × (Nat → Int32) × (Nat → Int32) × (Nat → Int32) × (Nat → Int32) × (Nat → Int32) × Int32 × (Nat → Int32) × (Nat → Int32) × (Nat → Int32)), some z' = some z → ∀ (pc : Nat) (lv : List (Nat × Value)), decode cX7_tell pc = .ok (.return_, 1) → G l D E 7 0 0 (wdX7_tell cI cZ q0 q1 q2 q3 q4 q5 q6 q7 q8 q9 q10 q11 q12 q13 q14 q15 q16 q17 q18 q19 q20 q21 q22 q23 q24 q25 q26 q27 q28 q29 q30 q31 q32 q33 q34 q35 q36 (z'.1) (z'.2.1) (z'.2.2.1) (z'.2.2.2.1) (z'.2.2.2.2.1) (z'.2.2.2.2.2.1) (z'.2.2.2.2.2.2.1) (z'.2.2.2.2.2.2.2.1) (z'.2.2.2.2.2.2.2.2.1) (z'.2.2.2.2.2.2.2.2.2.1) (z'.2.2.2.2.2.2.2.2.2.2.1) (z'.2.2.2.2.2.2.2.2.2.2.2.1) (z'.2.2.2.2.2.2.2.2.2.2.2.2.1) (z'.2.2.2.2.2.2.2.2.2.2.2.2.2.1) (z'.2.2.2.2.2.2.2.2.2.2.2.2.2.2.1) (z'.2.2.2.2.2.2.2.2.2.2.2.2.2.2.2.1) (z'.2.2.2.2.2.2.2.2.2.2.2.2.2.2.2.2.1) (z'.2.2.2.2.2.2.2.2.2.2.2.2.2.2.2.2.2) v_count2 v_signs v_year2 v_wreck2 v_wood2 v_length2 v_left2 v_right2 v_place2 v_rings2 v_piece2 v_partner2 v_children2 v_count3 v_house2 v_reach2 v_sounded2) pc lv [] := fun z' e => by cases e; exact hend0
  clear hend0
  have hL10 : ∀ (n10 : Nat) (v_acts : Int32) (v_why : Int32) (v_weddings : Int32) (v_year : Int32) (v_wreck : Nat → Int32) (v_wood : Nat → Int32) (v_length : Nat → Int32) (v_left : Nat → Int32) (v_right : Nat → Int32) (v_place : Nat → Int32) (v_rings : Nat → Int32) (v_piece : Nat → Int32) (v_partner : Nat → Int32) (v_children : Nat → Int32) (v_count : Int32) (v_house : Nat → Int32) (v_reach : Nat → Int32) (v_sounded : Nat → Int32) (x3 : Int32) (x4 : Int32), fX7_tell_10 v_wreck v_wood v_length v_left v_right v_rings v_count v_house v_reach v_sounded v_count2 v_signs n10 v_acts v_why v_weddings v_year v_place v_piece v_partner v_children x3 x4 = some z → G l D E 7 0 0 (wdX7_tell cI cZ q0 q1 q2 q3 q4 q5 q6 q7 q8 q9 q10 q11 q12 q13 q14 q15 q16 q17 q18 q19 q20 q21 q22 q23 q24 q25 q26 q27 q28 q29 q30 q31 q32 q33 q34 q35 q36 v_acts v_why v_weddings v_year v_wreck v_wood v_length v_left v_right v_place v_rings v_piece v_partner v_children v_count v_house v_reach v_sounded v_count2 v_signs v_year2 v_wreck2 v_wood2 v_length2 v_left2 v_right2 v_place2 v_rings2 v_piece2 v_partner2 v_children2 v_count3 v_house2 v_reach2 v_sounded2) 10 [(0, .ref q0), (1, .ref q18), (2, .ref q20), (3, .int x3), (4, .int x4)] [] := by
    intro n10
    induction n10 with
    | zero =>
      intro v_acts v_why v_weddings v_year v_wreck v_wood v_length v_left v_right v_place v_rings v_piece v_partner v_children v_count v_house v_reach v_sounded x3 x4 hF
      rw [fX7_tell_10] at hF
      cases hF
    | succ n10 ih10 =>
      have hL151 : ∀ (v_acts : Int32) (v_why : Int32) (v_weddings : Int32) (v_year : Int32) (v_wreck : Nat → Int32) (v_wood : Nat → Int32) (v_length : Nat → Int32) (v_left : Nat → Int32) (v_right : Nat → Int32) (v_place : Nat → Int32) (v_rings : Nat → Int32) (v_piece : Nat → Int32) (v_partner : Nat → Int32) (v_children : Nat → Int32) (v_count : Int32) (v_house : Nat → Int32) (v_reach : Nat → Int32) (v_sounded : Nat → Int32) (x3 : Int32) (x4 : Int32), fX7_tell_151 (fun y0 y1 y2 y3 y4 y5 y6 y7 y8 y9 => fX7_tell_10 v_wreck v_wood v_length v_left v_right v_rings v_count v_house v_reach v_sounded v_count2 v_signs n10 y0 y1 y2 y3 y4 y5 y6 y7 y8 y9) v_acts v_why v_weddings v_year v_wreck v_wood v_length v_left v_right v_place v_rings v_piece v_partner v_children v_count v_house v_reach v_sounded v_count2 v_signs x3 x4 = some z → G l D E 7 0 0 (wdX7_tell cI cZ q0 q1 q2 q3 q4 q5 q6 q7 q8 q9 q10 q11 q12 q13 q14 q15 q16 q17 q18 q19 q20 q21 q22 q23 q24 q25 q26 q27 q28 q29 q30 q31 q32 q33 q34 q35 q36 v_acts v_why v_weddings v_year v_wreck v_wood v_length v_left v_right v_place v_rings v_piece v_partner v_children v_count v_house v_reach v_sounded v_count2 v_signs v_year2 v_wreck2 v_wood2 v_length2 v_left2 v_right2 v_place2 v_rings2 v_piece2 v_partner2 v_children2 v_count3 v_house2 v_reach2 v_sounded2) 151 [(0, .ref q0), (1, .ref q18), (2, .ref q20), (3, .int x3), (4, .int x4)] [] := by
        intro v_acts v_why v_weddings v_year v_wreck v_wood v_length v_left v_right v_place v_rings v_piece v_partner v_children v_count v_house v_reach v_sounded x3 x4 hF
        rw [fX7_tell_151] at hF
        refine g_aload_n (np := 152) h 0 rfl rfl dX7_tell_151 rfl ?_
        refine g_get (np := 155) (T := TX7) h imX7_tell_u_X7 0 7 rfl rfl 2 (by decide) (imX7_tell_own _ (List.mem_of_getElem? (i := 5) rfl)) rfl dX7_tell_152 rfl ?_
        refine g_if_eq h hF dX7_tell_155 (np := 158) rfl (tg := 159) rfl (fun c1001 hF => ?_) (fun c1001 hF => ?_)
        · refine g_aload_n (np := 160) h 0 rfl rfl dX7_tell_159 rfl ?_
          refine g_dup (np := 161) h rfl dX7_tell_160 rfl ?_
          refine g_get (np := 164) (T := TX7) h imX7_tell_u_X7 0 7 rfl rfl 1 (by decide) (imX7_tell_own _ (List.mem_of_getElem? (i := 6) rfl)) rfl dX7_tell_161 rfl ?_
          refine g_iconst (np := 165) (v := (1 : Int32)) h (by decide) dX7_tell_164 rfl ?_
          refine g_iadd (np := 166) h dX7_tell_165 rfl ?_
          refine g_put (np := 169) (T := TX7) (Wd' := (wdX7_tell cI cZ q0 q1 q2 q3 q4 q5 q6 q7 q8 q9 q10 q11 q12 q13 q14 q15 q16 q17 q18 q19 q20 q21 q22 q23 q24 q25 q26 q27 q28 q29 q30 q31 q32 q33 q34 q35 q36 (v_acts + (1 : Int32)) v_why v_weddings v_year v_wreck v_wood v_length v_left v_right v_place v_rings v_piece v_partner v_children v_count v_house v_reach v_sounded v_count2 v_signs v_year2 v_wreck2 v_wood2 v_length2 v_left2 v_right2 v_place2 v_rings2 v_piece2 v_partner2 v_children2 v_count3 v_house2 v_reach2 v_sounded2)) h imX7_tell_u_X7 tyX7_ok nmX7 0 7 rfl rfl 1 (by decide) (imX7_tell_own _ (List.mem_of_getElem? (i := 6) rfl)) rfl rfl rfl (Nat.le_of_ble_eq_true rfl) rfl dX7_tell_166 rfl ?_
          refine g_iinc (np := 172) (v := (x4 + (1 : Int32))) (lv' := [(4, .int (x4 + (1 : Int32))), (0, .ref q0), (1, .ref q18), (2, .ref q20), (3, .int x3)]) h 4 rfl rfl (by decide) rfl dX7_tell_169 rfl ?_
          refine g_goto h dX7_tell_172 (np := 10) rfl ?_
          refine g_lv [1, 2, 3, 4, 0] rfl ?_
          exact ih10 (v_acts + (1 : Int32)) v_why v_weddings v_year v_wreck v_wood v_length v_left v_right v_place v_rings v_piece v_partner v_children v_count v_house v_reach v_sounded x3 (x4 + (1 : Int32)) hF
        · exact hend _ hF _ _ dX7_tell_158
      intro v_acts v_why v_weddings v_year v_wreck v_wood v_length v_left v_right v_place v_rings v_piece v_partner v_children v_count v_house v_reach v_sounded x3 x4 hF
      rw [fX7_tell_10] at hF
      refine g_iload (np := 12) h 4 rfl dX7_tell_10 rfl ?_
      refine g_bipush (np := 14) (v := (60 : Int32)) h (by decide) dX7_tell_12 rfl ?_
      refine g_icmp_ge h hF dX7_tell_14 (np := 17) rfl (tg := 175) rfl (fun c2001 hF => ?_) (fun c2001 hF => ?_)
      · exact hend _ hF _ _ dX7_tell_175
      · refine g_iload_n (np := 18) h 3 rfl rfl dX7_tell_17 rfl ?_
        refine g_aload_n (np := 19) h 1 rfl rfl dX7_tell_18 rfl ?_
        refine g_get (np := 22) (T := TX2) h imX7_tell_u_X2 18 2 rfl rfl 1 (by decide) (imX7_tell_own _ (List.mem_of_getElem? (i := 0) rfl)) rfl dX7_tell_19 rfl ?_
        refine g_icmp_ge h hF dX7_tell_22 (np := 25) rfl (tg := 175) rfl (fun c2002 hF => ?_) (fun c2002 hF => ?_)
        · exact hend _ hF _ _ dX7_tell_175
        · refine g_aload_n (np := 26) h 1 rfl rfl dX7_tell_25 rfl ?_
          refine g_get (np := 29) (T := TX2) h imX7_tell_u_X2 18 2 rfl rfl 0 (by decide) (imX7_tell_own _ (List.mem_of_getElem? (i := 1) rfl)) rfl dX7_tell_26 rfl ?_
          refine g_iload_n (np := 30) h 3 rfl rfl dX7_tell_29 rfl ?_
          obtain ⟨r2003, hr2003, hF⟩ := Option.bind_eq_some_iff.mp hF
          refine g_callN (np := 33) (Wd' := (wdX7_tell cI cZ q0 q1 q2 q3 q4 q5 q6 q7 q8 q9 q10 q11 q12 q13 q14 q15 q16 q17 q18 q19 q20 q21 q22 q23 q24 q25 q26 q27 q28 q29 q30 q31 q32 q33 q34 q35 q36 v_acts v_why v_weddings v_year v_wreck v_wood v_length v_left v_right v_place v_rings v_piece v_partner v_children v_count v_house v_reach v_sounded v_count2 v_signs v_year2 v_wreck2 v_wood2 v_length2 v_left2 v_right2 v_place2 v_rings2 v_piece2 v_partner2 v_children2 v_count3 v_house2 v_reach2 v_sounded2)) (As := [.ref q19, .int x3]) h (mX8_at l D cI cZ q19 60 v_signs x3 r2003 hr2003) gcX7_tell_X8_at rfl ⟨rfl, rfl⟩ (List.mem_of_getElem? (i := 15) rfl) (imX7_tell_own _ (List.mem_of_getElem? (i := 3) rfl)) (imX7_tell_own _ (List.mem_of_getElem? (i := 2) rfl)) hyX8_at rfl rfl rfl rfl ⟨Nat.zero_le _, Nat.zero_le _⟩ [19] [0, 1, 2, 3, 4, 5, 6, 7, 8, 9, 10, 11, 12, 13, 14, 15, 16, 17, 18, 20, 21, 22, 23, 24, 25, 26, 27, 28, 29, 30, 31, 32, 33, 34, 35, 36] (N := 37) (by decide +kernel) rfl rfl rfl rfl rfl dX7_tell_30 rfl ?_
          refine g_istore (np := 35) (lv' := [(5, .int r2003), (0, .ref q0), (1, .ref q18), (2, .ref q20), (3, .int x3), (4, .int x4)]) h (by decide) rfl dX7_tell_33 rfl ?_
          refine g_aload_n (np := 36) h 2 rfl rfl dX7_tell_35 rfl ?_
          refine g_get (np := 39) (T := TX2) h imX7_tell_u_X2 18 2 rfl rfl 0 (by decide) (imX7_tell_own _ (List.mem_of_getElem? (i := 1) rfl)) rfl dX7_tell_36 rfl ?_
          refine g_iload_n (np := 40) h 4 rfl rfl dX7_tell_39 rfl ?_
          refine g_iconst (np := 41) (v := (1 : Int32)) h (by decide) dX7_tell_40 rfl ?_
          refine g_iadd (np := 42) h dX7_tell_41 rfl ?_
          obtain ⟨r2004, hr2004, hF⟩ := Option.bind_eq_some_iff.mp hF
          refine g_callN (np := 45) (Wd' := (wdX7_tell cI cZ q0 q1 q2 q3 q4 q5 q6 q7 q8 q9 q10 q11 q12 q13 q14 q15 q16 q17 q18 q19 q20 q21 q22 q23 q24 q25 q26 q27 q28 q29 q30 q31 q32 q33 q34 q35 q36 v_acts v_why v_weddings v_year v_wreck v_wood v_length v_left v_right v_place v_rings v_piece v_partner v_children v_count v_house v_reach v_sounded v_count2 v_signs v_year2 v_wreck2 v_wood2 v_length2 v_left2 v_right2 v_place2 v_rings2 v_piece2 v_partner2 v_children2 v_count3 v_house2 v_reach2 v_sounded2)) (As := [.ref q19, .int (x3 + (1 : Int32))]) h (mX8_at l D cI cZ q19 60 v_signs (x3 + (1 : Int32)) r2004 hr2004) gcX7_tell_X8_at rfl ⟨rfl, rfl⟩ (List.mem_of_getElem? (i := 15) rfl) (imX7_tell_own _ (List.mem_of_getElem? (i := 3) rfl)) (imX7_tell_own _ (List.mem_of_getElem? (i := 2) rfl)) hyX8_at rfl rfl rfl rfl ⟨Nat.zero_le _, Nat.zero_le _⟩ [19] [0, 1, 2, 3, 4, 5, 6, 7, 8, 9, 10, 11, 12, 13, 14, 15, 16, 17, 18, 20, 21, 22, 23, 24, 25, 26, 27, 28, 29, 30, 31, 32, 33, 34, 35, 36] (N := 37) (by decide +kernel) rfl rfl rfl rfl rfl dX7_tell_42 rfl ?_
          refine g_istore (np := 47) (lv' := [(6, .int r2004), (5, .int r2003), (0, .ref q0), (1, .ref q18), (2, .ref q20), (3, .int x3), (4, .int x4)]) h (by decide) rfl dX7_tell_45 rfl ?_
          refine g_iload (np := 49) h 1 rfl dX7_tell_47 rfl ?_
          obtain ⟨r2005, hr2005, hF⟩ := Option.bind_eq_some_iff.mp hF
          refine g_callS (np := 52) (Wd' := (wdX7_tell cI cZ q0 q1 q2 q3 q4 q5 q6 q7 q8 q9 q10 q11 q12 q13 q14 q15 q16 q17 q18 q19 q20 q21 q22 q23 q24 q25 q26 q27 q28 q29 q30 q31 q32 q33 q34 q35 q36 v_acts v_why v_weddings v_year v_wreck v_wood v_length v_left v_right v_place v_rings v_piece v_partner v_children v_count v_house v_reach v_sounded v_count2 v_signs v_year2 v_wreck2 v_wood2 v_length2 v_left2 v_right2 v_place2 v_rings2 v_piece2 v_partner2 v_children2 v_count3 v_house2 v_reach2 v_sounded2)) (As := [.int r2003]) h (mX2_isHouseSign l D cI cZ r2003 r2005 hr2005) gcX7_tell_X2_isHouseSign rfl ⟨rfl, rfl⟩ hyX2_isHouseSign rfl rfl rfl rfl ⟨Nat.zero_le _, Nat.zero_le _⟩ [] [0, 1, 2, 3, 4, 5, 6, 7, 8, 9, 10, 11, 12, 13, 14, 15, 16, 17, 18, 19, 20, 21, 22, 23, 24, 25, 26, 27, 28, 29, 30, 31, 32, 33, 34, 35, 36] (N := 37) (by decide +kernel) rfl rfl rfl rfl rfl dX7_tell_49 rfl ?_
          refine g_if_ne h hF dX7_tell_52 (np := 55) rfl (tg := 94) rfl (fun c2006 hF => ?_) (fun c2006 hF => ?_)
          · refine g_iload (np := 96) h 0 rfl dX7_tell_94 rfl ?_
            refine g_bipush (np := 98) (v := (43 : Int32)) h (by decide) dX7_tell_96 rfl ?_
            refine g_icmp_ne h hF dX7_tell_98 (np := 101) rfl (tg := 133) rfl (fun c2007 hF => ?_) (fun c2007 hF => ?_)
            · refine g_aload_n (np := 134) h 2 rfl rfl dX7_tell_133 rfl ?_
              refine g_aload_n (np := 135) h 2 rfl rfl dX7_tell_134 rfl ?_
              refine g_iload (np := 137) h 1 rfl dX7_tell_135 rfl ?_
              refine g_bipush (np := 139) (v := (65 : Int32)) h (by decide) dX7_tell_137 rfl ?_
              refine g_isub (np := 140) h dX7_tell_139 rfl ?_
              refine g_iload (np := 142) h 0 rfl dX7_tell_140 rfl ?_
              obtain ⟨r2008, hr2008, hF⟩ := Option.bind_eq_some_iff.mp hF
              refine g_callV (np := 145) (Wd' := (wdX7_tell cI cZ q0 q1 q2 q3 q4 q5 q6 q7 q8 q9 q10 q11 q12 q13 q14 q15 q16 q17 q18 q19 q20 q21 q22 q23 q24 q25 q26 q27 q28 q29 q30 q31 q32 q33 q34 q35 q36 v_acts v_why v_weddings v_year v_wreck v_wood v_length v_left v_right r2008.2.1 v_rings r2008.2.2.1 r2008.2.2.2 v_children v_count v_house v_reach v_sounded v_count2 v_signs v_year2 v_wreck2 v_wood2 v_length2 v_left2 v_right2 v_place2 v_rings2 v_piece2 v_partner2 v_children2 v_count3 v_house2 v_reach2 v_sounded2)) (As := [.int (r2003 - (65 : Int32)), .int r2004]) h (mX7_homeAct l D cI cZ q0 q1 q2 q8 q10 q11 q12 q14 q3 q4 q5 q6 q7 q9 q13 v_place v_piece v_partner v_acts v_why v_weddings v_year (r2003 - (65 : Int32)) r2004 r2008 hr2008) gcX7_tell_X7_homeAct rfl ⟨rfl, rfl⟩ ⟨rfl, hyX7_homeAct⟩ rfl 7 0 rfl rfl rfl rfl rfl rfl ⟨Nat.zero_le _, Nat.zero_le _⟩ [0, 1, 2, 8, 10, 11, 12] [3, 4, 5, 6, 7, 9, 13, 14, 15, 16, 17, 18, 19, 20, 21, 22, 23, 24, 25, 26, 27, 28, 29, 30, 31, 32, 33, 34, 35, 36] (N := 37) (by decide +kernel) rfl rfl rfl rfl rfl dX7_tell_142 rfl ?_
              refine g_put (np := 148) (T := TX7) (Wd' := (wdX7_tell cI cZ q0 q1 q2 q3 q4 q5 q6 q7 q8 q9 q10 q11 q12 q13 q14 q15 q16 q17 q18 q19 q20 q21 q22 q23 q24 q25 q26 q27 q28 q29 q30 q31 q32 q33 q34 q35 q36 v_acts r2008.1 v_weddings v_year v_wreck v_wood v_length v_left v_right r2008.2.1 v_rings r2008.2.2.1 r2008.2.2.2 v_children v_count v_house v_reach v_sounded v_count2 v_signs v_year2 v_wreck2 v_wood2 v_length2 v_left2 v_right2 v_place2 v_rings2 v_piece2 v_partner2 v_children2 v_count3 v_house2 v_reach2 v_sounded2)) h imX7_tell_u_X7 tyX7_ok nmX7 0 7 rfl rfl 2 (by decide) (imX7_tell_own _ (List.mem_of_getElem? (i := 5) rfl)) rfl rfl rfl (Nat.le_of_ble_eq_true rfl) rfl dX7_tell_145 rfl ?_
              refine g_iinc (np := 151) (v := (x3 + (2 : Int32))) (lv' := [(3, .int (x3 + (2 : Int32))), (6, .int r2004), (5, .int r2003), (0, .ref q0), (1, .ref q18), (2, .ref q20), (4, .int x4)]) h 5 rfl rfl (by decide) rfl dX7_tell_148 rfl ?_
              refine g_lv [3, 4, 5, 0, 6] rfl ?_
              exact hL151 v_acts r2008.1 v_weddings v_year v_wreck v_wood v_length v_left v_right r2008.2.1 v_rings r2008.2.2.1 r2008.2.2.2 v_children v_count v_house v_reach v_sounded (x3 + (2 : Int32)) x4 hF
            · refine g_aload_n (np := 102) h 2 rfl rfl dX7_tell_101 rfl ?_
              refine g_aload_n (np := 103) h 2 rfl rfl dX7_tell_102 rfl ?_
              refine g_iload (np := 105) h 1 rfl dX7_tell_103 rfl ?_
              refine g_bipush (np := 107) (v := (65 : Int32)) h (by decide) dX7_tell_105 rfl ?_
              refine g_isub (np := 108) h dX7_tell_107 rfl ?_
              refine g_aload_n (np := 109) h 3 rfl rfl dX7_tell_108 rfl ?_
              refine g_get (np := 112) (T := TX2) h imX7_tell_u_X2 18 2 rfl rfl 0 (by decide) (imX7_tell_own _ (List.mem_of_getElem? (i := 1) rfl)) rfl dX7_tell_109 rfl ?_
              refine g_iload_n (np := 113) h 5 rfl rfl dX7_tell_112 rfl ?_
              refine g_iconst (np := 114) (v := (2 : Int32)) h (by decide) dX7_tell_113 rfl ?_
              refine g_iadd (np := 115) h dX7_tell_114 rfl ?_
              obtain ⟨r2009, hr2009, hF⟩ := Option.bind_eq_some_iff.mp hF
              refine g_callN (np := 118) (Wd' := (wdX7_tell cI cZ q0 q1 q2 q3 q4 q5 q6 q7 q8 q9 q10 q11 q12 q13 q14 q15 q16 q17 q18 q19 q20 q21 q22 q23 q24 q25 q26 q27 q28 q29 q30 q31 q32 q33 q34 q35 q36 v_acts v_why v_weddings v_year v_wreck v_wood v_length v_left v_right v_place v_rings v_piece v_partner v_children v_count v_house v_reach v_sounded v_count2 v_signs v_year2 v_wreck2 v_wood2 v_length2 v_left2 v_right2 v_place2 v_rings2 v_piece2 v_partner2 v_children2 v_count3 v_house2 v_reach2 v_sounded2)) (As := [.ref q19, .int (x3 + (2 : Int32))]) h (mX8_at l D cI cZ q19 60 v_signs (x3 + (2 : Int32)) r2009 hr2009) gcX7_tell_X8_at rfl ⟨rfl, rfl⟩ (List.mem_of_getElem? (i := 15) rfl) (imX7_tell_own _ (List.mem_of_getElem? (i := 3) rfl)) (imX7_tell_own _ (List.mem_of_getElem? (i := 2) rfl)) hyX8_at rfl rfl rfl rfl ⟨Nat.zero_le _, Nat.zero_le _⟩ [19] [0, 1, 2, 3, 4, 5, 6, 7, 8, 9, 10, 11, 12, 13, 14, 15, 16, 17, 18, 20, 21, 22, 23, 24, 25, 26, 27, 28, 29, 30, 31, 32, 33, 34, 35, 36] (N := 37) (by decide +kernel) rfl rfl rfl rfl rfl dX7_tell_115 rfl ?_
              refine g_bipush (np := 120) (v := (65 : Int32)) h (by decide) dX7_tell_118 rfl ?_
              refine g_isub (np := 121) h dX7_tell_120 rfl ?_
              obtain ⟨r2010, hr2010, hF⟩ := Option.bind_eq_some_iff.mp hF
              refine g_callV (np := 124) (Wd' := (wdX7_tell cI cZ q0 q1 q2 q3 q4 q5 q6 q7 q8 q9 q10 q11 q12 q13 q14 q15 q16 q17 q18 q19 q20 q21 q22 q23 q24 q25 q26 q27 q28 q29 q30 q31 q32 q33 q34 q35 q36 v_acts v_why r2010.2.1 v_year v_wreck v_wood v_length v_left v_right v_place v_rings v_piece r2010.2.2 v_children v_count v_house v_reach v_sounded v_count2 v_signs v_year2 v_wreck2 v_wood2 v_length2 v_left2 v_right2 v_place2 v_rings2 v_piece2 v_partner2 v_children2 v_count3 v_house2 v_reach2 v_sounded2)) (As := [.int (r2003 - (65 : Int32)), .int (r2009 - (65 : Int32))]) h (mX7_wed l D cI cZ q0 q1 q2 q3 q10 q11 q12 q14 q4 q5 q6 q7 q8 q9 q13 v_weddings v_wreck v_piece v_partner v_acts v_why v_year (r2003 - (65 : Int32)) (r2009 - (65 : Int32)) r2010 hr2010) gcX7_tell_X7_wed rfl ⟨rfl, rfl⟩ ⟨rfl, hyX7_wed⟩ rfl 7 0 rfl rfl rfl rfl rfl rfl ⟨Nat.zero_le _, Nat.zero_le _⟩ [0, 1, 2, 3, 10, 11, 12] [4, 5, 6, 7, 8, 9, 13, 14, 15, 16, 17, 18, 19, 20, 21, 22, 23, 24, 25, 26, 27, 28, 29, 30, 31, 32, 33, 34, 35, 36] (N := 37) (by decide +kernel) rfl rfl rfl rfl rfl dX7_tell_121 rfl ?_
              refine g_put (np := 127) (T := TX7) (Wd' := (wdX7_tell cI cZ q0 q1 q2 q3 q4 q5 q6 q7 q8 q9 q10 q11 q12 q13 q14 q15 q16 q17 q18 q19 q20 q21 q22 q23 q24 q25 q26 q27 q28 q29 q30 q31 q32 q33 q34 q35 q36 v_acts r2010.1 r2010.2.1 v_year v_wreck v_wood v_length v_left v_right v_place v_rings v_piece r2010.2.2 v_children v_count v_house v_reach v_sounded v_count2 v_signs v_year2 v_wreck2 v_wood2 v_length2 v_left2 v_right2 v_place2 v_rings2 v_piece2 v_partner2 v_children2 v_count3 v_house2 v_reach2 v_sounded2)) h imX7_tell_u_X7 tyX7_ok nmX7 0 7 rfl rfl 2 (by decide) (imX7_tell_own _ (List.mem_of_getElem? (i := 5) rfl)) rfl rfl rfl (Nat.le_of_ble_eq_true rfl) rfl dX7_tell_124 rfl ?_
              refine g_iinc (np := 130) (v := (x3 + (3 : Int32))) (lv' := [(3, .int (x3 + (3 : Int32))), (6, .int r2004), (5, .int r2003), (0, .ref q0), (1, .ref q18), (2, .ref q20), (4, .int x4)]) h 5 rfl rfl (by decide) rfl dX7_tell_127 rfl ?_
              refine g_goto h dX7_tell_130 (np := 151) rfl ?_
              refine g_lv [3, 4, 5, 0, 6] rfl ?_
              exact hL151 v_acts r2010.1 r2010.2.1 v_year v_wreck v_wood v_length v_left v_right v_place v_rings v_piece r2010.2.2 v_children v_count v_house v_reach v_sounded (x3 + (3 : Int32)) x4 hF
          · refine g_aload_n (np := 56) h 2 rfl rfl dX7_tell_55 rfl ?_
            refine g_iload (np := 58) h 1 rfl dX7_tell_56 rfl ?_
            refine g_bipush (np := 60) (v := (46 : Int32)) h (by decide) dX7_tell_58 rfl ?_
            refine g_icmp_ne h hF dX7_tell_60 (np := 63) rfl (tg := 73) rfl (fun c2011 hF => ?_) (fun c2011 hF => ?_)
            · refine g_aload_n (np := 74) h 2 rfl rfl dX7_tell_73 rfl ?_
              refine g_get (np := 77) (T := TX7) h imX7_tell_u_X7 0 7 rfl rfl 0 (by decide) (imX7_tell_own _ (List.mem_of_getElem? (i := 4) rfl)) rfl dX7_tell_74 rfl ?_
              refine g_iload (np := 79) h 1 rfl dX7_tell_77 rfl ?_
              refine g_bipush (np := 81) (v := (48 : Int32)) h (by decide) dX7_tell_79 rfl ?_
              refine g_isub (np := 82) h dX7_tell_81 rfl ?_
              obtain ⟨r2012, hr2012, hF⟩ := Option.bind_eq_some_iff.mp hF
              refine g_callV (np := 85) (Wd' := (wdX7_tell cI cZ q0 q1 q2 q3 q4 q5 q6 q7 q8 q9 q10 q11 q12 q13 q14 q15 q16 q17 q18 q19 q20 q21 q22 q23 q24 q25 q26 q27 q28 q29 q30 q31 q32 q33 q34 q35 q36 v_acts v_why v_weddings v_year v_wreck v_wood v_length v_left v_right r2012.2 v_rings v_piece v_partner v_children v_count v_house v_reach v_sounded v_count2 v_signs v_year2 v_wreck2 v_wood2 v_length2 v_left2 v_right2 v_place2 v_rings2 v_piece2 v_partner2 v_children2 v_count3 v_house2 v_reach2 v_sounded2)) (As := [.int (r2003 - (48 : Int32))]) h (mX5_comeIn l D cI cZ q1 q2 q8 q10 q14 q3 q4 q5 q6 q7 q9 v_place v_year (r2003 - (48 : Int32)) r2012 hr2012) gcX7_tell_X5_comeIn rfl ⟨rfl, rfl⟩ ⟨rfl, hyX5_comeIn⟩ rfl 5 1 rfl rfl rfl rfl rfl rfl ⟨Nat.zero_le _, Nat.zero_le _⟩ [1, 2, 8] [0, 3, 4, 5, 6, 7, 9, 10, 11, 12, 13, 14, 15, 16, 17, 18, 19, 20, 21, 22, 23, 24, 25, 26, 27, 28, 29, 30, 31, 32, 33, 34, 35, 36] (N := 37) (by decide +kernel) rfl rfl rfl rfl rfl dX7_tell_82 rfl ?_
              refine g_put (np := 88) (T := TX7) (Wd' := (wdX7_tell cI cZ q0 q1 q2 q3 q4 q5 q6 q7 q8 q9 q10 q11 q12 q13 q14 q15 q16 q17 q18 q19 q20 q21 q22 q23 q24 q25 q26 q27 q28 q29 q30 q31 q32 q33 q34 q35 q36 v_acts r2012.1 v_weddings v_year v_wreck v_wood v_length v_left v_right r2012.2 v_rings v_piece v_partner v_children v_count v_house v_reach v_sounded v_count2 v_signs v_year2 v_wreck2 v_wood2 v_length2 v_left2 v_right2 v_place2 v_rings2 v_piece2 v_partner2 v_children2 v_count3 v_house2 v_reach2 v_sounded2)) h imX7_tell_u_X7 tyX7_ok nmX7 0 7 rfl rfl 2 (by decide) (imX7_tell_own _ (List.mem_of_getElem? (i := 5) rfl)) rfl rfl rfl (Nat.le_of_ble_eq_true rfl) rfl dX7_tell_85 rfl ?_
              refine g_iinc (np := 91) (v := (x3 + (1 : Int32))) (lv' := [(3, .int (x3 + (1 : Int32))), (6, .int r2004), (5, .int r2003), (0, .ref q0), (1, .ref q18), (2, .ref q20), (4, .int x4)]) h 5 rfl rfl (by decide) rfl dX7_tell_88 rfl ?_
              refine g_goto h dX7_tell_91 (np := 151) rfl ?_
              refine g_lv [3, 4, 5, 0, 6] rfl ?_
              exact hL151 v_acts r2012.1 v_weddings v_year v_wreck v_wood v_length v_left v_right r2012.2 v_rings v_piece v_partner v_children v_count v_house v_reach v_sounded (x3 + (1 : Int32)) x4 hF
            · refine g_aload_n (np := 64) h 2 rfl rfl dX7_tell_63 rfl ?_
              refine g_get (np := 67) (T := TX7) h imX7_tell_u_X7 0 7 rfl rfl 0 (by decide) (imX7_tell_own _ (List.mem_of_getElem? (i := 4) rfl)) rfl dX7_tell_64 rfl ?_
              obtain ⟨r2013, hr2013, hF⟩ := Option.bind_eq_some_iff.mp hF
              refine g_callV (np := 70) (Wd' := (wdX7_tell cI cZ q0 q1 q2 q3 q4 q5 q6 q7 q8 q9 q10 q11 q12 q13 q14 q15 q16 q17 q18 q19 q20 q21 q22 q23 q24 q25 q26 q27 q28 q29 q30 q31 q32 q33 q34 q35 q36 v_acts v_why v_weddings r2013.2.1 v_wreck v_wood v_length v_left v_right v_place v_rings v_piece v_partner r2013.2.2 v_count v_house v_reach v_sounded v_count2 v_signs v_year2 v_wreck2 v_wood2 v_length2 v_left2 v_right2 v_place2 v_rings2 v_piece2 v_partner2 v_children2 v_count3 v_house2 v_reach2 v_sounded2)) (As := []) h (mX5_passYear l D cI cZ q1 q10 q12 q13 q2 q14 q11 v_year v_partner v_children r2013 hr2013) gcX7_tell_X5_passYear rfl ⟨rfl, rfl⟩ ⟨rfl, hyX5_passYear⟩ rfl 5 1 rfl rfl rfl rfl rfl rfl ⟨Nat.zero_le _, Nat.zero_le _⟩ [1, 10, 12, 13] [0, 2, 3, 4, 5, 6, 7, 8, 9, 11, 14, 15, 16, 17, 18, 19, 20, 21, 22, 23, 24, 25, 26, 27, 28, 29, 30, 31, 32, 33, 34, 35, 36] (N := 37) (by decide +kernel) rfl rfl rfl rfl rfl dX7_tell_67 rfl ?_
              refine g_goto h dX7_tell_70 (np := 85) rfl ?_
              refine g_put (np := 88) (T := TX7) (Wd' := (wdX7_tell cI cZ q0 q1 q2 q3 q4 q5 q6 q7 q8 q9 q10 q11 q12 q13 q14 q15 q16 q17 q18 q19 q20 q21 q22 q23 q24 q25 q26 q27 q28 q29 q30 q31 q32 q33 q34 q35 q36 v_acts r2013.1 v_weddings r2013.2.1 v_wreck v_wood v_length v_left v_right v_place v_rings v_piece v_partner r2013.2.2 v_count v_house v_reach v_sounded v_count2 v_signs v_year2 v_wreck2 v_wood2 v_length2 v_left2 v_right2 v_place2 v_rings2 v_piece2 v_partner2 v_children2 v_count3 v_house2 v_reach2 v_sounded2)) h imX7_tell_u_X7 tyX7_ok nmX7 0 7 rfl rfl 2 (by decide) (imX7_tell_own _ (List.mem_of_getElem? (i := 5) rfl)) rfl rfl rfl (Nat.le_of_ble_eq_true rfl) rfl dX7_tell_85 rfl ?_
              refine g_iinc (np := 91) (v := (x3 + (1 : Int32))) (lv' := [(3, .int (x3 + (1 : Int32))), (6, .int r2004), (5, .int r2003), (0, .ref q0), (1, .ref q18), (2, .ref q20), (4, .int x4)]) h 5 rfl rfl (by decide) rfl dX7_tell_88 rfl ?_
              refine g_goto h dX7_tell_91 (np := 151) rfl ?_
              refine g_lv [3, 4, 5, 0, 6] rfl ?_
              exact hL151 v_acts r2013.1 v_weddings r2013.2.1 v_wreck v_wood v_length v_left v_right v_place v_rings v_piece v_partner r2013.2.2 v_count v_house v_reach v_sounded (x3 + (1 : Int32)) x4 hF
  unfold fX7_tell at hF
  refine g_aload_n (np := 1) h 0 rfl rfl dX7_tell_0 rfl ?_
  refine g_aload_n (np := 2) h 2 rfl rfl dX7_tell_1 rfl ?_
  obtain ⟨r1, hr1, hF⟩ := Option.bind_eq_some_iff.mp hF
  refine g_callV (np := 5) (Wd' := (wdX7_tell cI cZ q0 q1 q2 q3 q4 q5 q6 q7 q8 q9 q10 q11 q12 q13 q14 q15 q16 q17 q18 q19 q20 q21 q22 q23 q24 q25 q26 q27 q28 q29 q30 q31 q32 q33 q34 q35 q36 r1.1 r1.2.1 r1.2.2.1 r1.2.2.2.1 r1.2.2.2.2.1 r1.2.2.2.2.2.1 r1.2.2.2.2.2.2.1 r1.2.2.2.2.2.2.2.1 r1.2.2.2.2.2.2.2.2.1 r1.2.2.2.2.2.2.2.2.2.1 r1.2.2.2.2.2.2.2.2.2.2.1 r1.2.2.2.2.2.2.2.2.2.2.2.1 r1.2.2.2.2.2.2.2.2.2.2.2.2.1 r1.2.2.2.2.2.2.2.2.2.2.2.2.2.1 r1.2.2.2.2.2.2.2.2.2.2.2.2.2.2.1 r1.2.2.2.2.2.2.2.2.2.2.2.2.2.2.2.1 r1.2.2.2.2.2.2.2.2.2.2.2.2.2.2.2.2.1 r1.2.2.2.2.2.2.2.2.2.2.2.2.2.2.2.2.2 v_count2 v_signs v_year2 v_wreck2 v_wood2 v_length2 v_left2 v_right2 v_place2 v_rings2 v_piece2 v_partner2 v_children2 v_count3 v_house2 v_reach2 v_sounded2)) (As := [.ref q20]) h (mX7_begin l D cI cZ q0 q1 q2 q3 q4 q5 q6 q7 q8 q9 q10 q11 q12 q13 q14 q15 q16 q17 q20 q21 q22 q23 q24 q25 q26 q27 q28 q29 q30 q31 q32 q33 q34 q35 q36 v_acts v_why v_weddings v_year v_wreck v_wood v_length v_left v_right v_place v_rings v_piece v_partner v_children v_count v_house v_reach v_sounded v_year2 v_wreck2 v_wood2 v_length2 v_left2 v_right2 v_place2 v_rings2 v_piece2 v_partner2 v_children2 v_count3 v_house2 v_reach2 v_sounded2 r1 hr1) gcX7_tell_X7_begin rfl ⟨rfl, rfl⟩ ⟨rfl, hyX7_begin⟩ rfl 7 0 rfl rfl rfl rfl rfl rfl ⟨Nat.zero_le _, Nat.zero_le _⟩ [0, 1, 2, 3, 4, 5, 6, 7, 8, 9, 10, 11, 12, 13, 14, 15, 16, 17, 20, 21, 22, 23, 24, 25, 26, 27, 28, 29, 30, 31, 32, 33, 34, 35, 36] [18, 19] (N := 37) (by decide +kernel) rfl rfl rfl rfl rfl dX7_tell_2 rfl ?_
  refine g_iconst (np := 6) (v := (0 : Int32)) h (by decide) dX7_tell_5 rfl ?_
  refine g_istore_n (np := 7) (lv' := [(3, .int (0 : Int32)), (0, .ref q0), (1, .ref q18), (2, .ref q20)]) h rfl (by decide) rfl dX7_tell_6 rfl ?_
  refine g_iconst (np := 8) (v := (0 : Int32)) h (by decide) dX7_tell_7 rfl ?_
  refine g_istore (np := 10) (lv' := [(4, .int (0 : Int32)), (3, .int (0 : Int32)), (0, .ref q0), (1, .ref q18), (2, .ref q20)]) h (by decide) rfl dX7_tell_8 rfl ?_
  refine g_lv [2, 3, 4, 1, 0] rfl ?_
  exact hL10 _ r1.1 r1.2.1 r1.2.2.1 r1.2.2.2.1 r1.2.2.2.2.1 r1.2.2.2.2.2.1 r1.2.2.2.2.2.2.1 r1.2.2.2.2.2.2.2.1 r1.2.2.2.2.2.2.2.2.1 r1.2.2.2.2.2.2.2.2.2.1 r1.2.2.2.2.2.2.2.2.2.2.1 r1.2.2.2.2.2.2.2.2.2.2.2.1 r1.2.2.2.2.2.2.2.2.2.2.2.2.1 r1.2.2.2.2.2.2.2.2.2.2.2.2.2.1 r1.2.2.2.2.2.2.2.2.2.2.2.2.2.2.1 r1.2.2.2.2.2.2.2.2.2.2.2.2.2.2.2.1 r1.2.2.2.2.2.2.2.2.2.2.2.2.2.2.2.2.1 r1.2.2.2.2.2.2.2.2.2.2.2.2.2.2.2.2.2 (0 : Int32) (0 : Int32) hF
theorem dX7_drawnAct_0 : decode cX7_drawnAct 0 = .ok (.iload_n 1, 1) := by decide +kernel
theorem dX7_drawnAct_1 : decode cX7_drawnAct 1 = .ok (.tableswitch 104 0 6 #[43, 43, 55, 55, 69, 80, 92], 43) := by decide +kernel
theorem dX7_drawnAct_44 : decode cX7_drawnAct 44 = .ok (.aload_n 0, 1) := by decide +kernel
theorem dX7_drawnAct_45 : decode cX7_drawnAct 45 = .ok (.getfield 12, 3) := by decide +kernel
theorem dX7_drawnAct_48 : decode cX7_drawnAct 48 = .ok (.iload_n 2, 1) := by decide +kernel
theorem dX7_drawnAct_49 : decode cX7_drawnAct 49 = .ok (.invokevirtual 56, 3) := by decide +kernel
theorem dX7_drawnAct_52 : decode cX7_drawnAct 52 = .ok (.pop, 1) := by decide +kernel
theorem dX7_drawnAct_53 : decode cX7_drawnAct 53 = .ok (.goto 60, 3) := by decide +kernel
theorem dX7_drawnAct_56 : decode cX7_drawnAct 56 = .ok (.aload_n 0, 1) := by decide +kernel
theorem dX7_drawnAct_57 : decode cX7_drawnAct 57 = .ok (.getfield 12, 3) := by decide +kernel
theorem dX7_drawnAct_60 : decode cX7_drawnAct 60 = .ok (.iload 4, 2) := by decide +kernel
theorem dX7_drawnAct_62 : decode cX7_drawnAct 62 = .ok (.iload_n 2, 1) := by decide +kernel
theorem dX7_drawnAct_63 : decode cX7_drawnAct 63 = .ok (.invokevirtual 73, 3) := by decide +kernel
theorem dX7_drawnAct_66 : decode cX7_drawnAct 66 = .ok (.pop, 1) := by decide +kernel
theorem dX7_drawnAct_67 : decode cX7_drawnAct 67 = .ok (.goto 46, 3) := by decide +kernel
theorem dX7_drawnAct_70 : decode cX7_drawnAct 70 = .ok (.aload_n 0, 1) := by decide +kernel
theorem dX7_drawnAct_71 : decode cX7_drawnAct 71 = .ok (.iload_n 3, 1) := by decide +kernel
theorem dX7_drawnAct_72 : decode cX7_drawnAct 72 = .ok (.iload 4, 2) := by decide +kernel
theorem dX7_drawnAct_74 : decode cX7_drawnAct 74 = .ok (.invokevirtual 60, 3) := by decide +kernel
theorem dX7_drawnAct_77 : decode cX7_drawnAct 77 = .ok (.pop, 1) := by decide +kernel
theorem dX7_drawnAct_78 : decode cX7_drawnAct 78 = .ok (.goto 35, 3) := by decide +kernel
theorem dX7_drawnAct_81 : decode cX7_drawnAct 81 = .ok (.aload_n 0, 1) := by decide +kernel
theorem dX7_drawnAct_82 : decode cX7_drawnAct 82 = .ok (.getfield 12, 3) := by decide +kernel
theorem dX7_drawnAct_85 : decode cX7_drawnAct 85 = .ok (.iload_n 3, 1) := by decide +kernel
theorem dX7_drawnAct_86 : decode cX7_drawnAct 86 = .ok (.invokevirtual 67, 3) := by decide +kernel
theorem dX7_drawnAct_89 : decode cX7_drawnAct 89 = .ok (.pop, 1) := by decide +kernel
theorem dX7_drawnAct_90 : decode cX7_drawnAct 90 = .ok (.goto 23, 3) := by decide +kernel
theorem dX7_drawnAct_93 : decode cX7_drawnAct 93 = .ok (.aload_n 0, 1) := by decide +kernel
theorem dX7_drawnAct_94 : decode cX7_drawnAct 94 = .ok (.getfield 12, 3) := by decide +kernel
theorem dX7_drawnAct_97 : decode cX7_drawnAct 97 = .ok (.iload_n 3, 1) := by decide +kernel
theorem dX7_drawnAct_98 : decode cX7_drawnAct 98 = .ok (.invokevirtual 70, 3) := by decide +kernel
theorem dX7_drawnAct_101 : decode cX7_drawnAct 101 = .ok (.pop, 1) := by decide +kernel
theorem dX7_drawnAct_102 : decode cX7_drawnAct 102 = .ok (.goto 11, 3) := by decide +kernel
theorem dX7_drawnAct_105 : decode cX7_drawnAct 105 = .ok (.aload_n 0, 1) := by decide +kernel
theorem dX7_drawnAct_106 : decode cX7_drawnAct 106 = .ok (.getfield 12, 3) := by decide +kernel
theorem dX7_drawnAct_109 : decode cX7_drawnAct 109 = .ok (.invokevirtual 52, 3) := by decide +kernel
theorem dX7_drawnAct_112 : decode cX7_drawnAct 112 = .ok (.pop, 1) := by decide +kernel
theorem dX7_drawnAct_113 : decode cX7_drawnAct 113 = .ok (.return_, 1) := by decide +kernel
def wtX7_drawnAct : List Cond := .code yX7_drawnAct cX7_drawnAct 5 none :: (([.fieldLink RX7 12 "DriftKin$Years" "end" "LDriftKin$Shore;"]) ++ ((u_ws RX7 TX7 4) ++ ((wsV RX7 56 RX5 yX5_comeIn wtX5_comeIn) ++ ((wsV RX7 73 RX5 yX5_takeHome wtX5_takeHome) ++ ((wsV RX7 60 RX7 yX7_wed wtX7_wed) ++ ((wsV RX7 67 RX5 yX5_part wtX5_part) ++ ((wsV RX7 70 RX5 yX5_burn wtX5_burn) ++ ((wsV RX7 52 RX5 yX5_passYear wtX5_passYear) ++ []))))))))
theorem imX7_drawnAct_own : ∀ w ∈ ([.fieldLink RX7 12 "DriftKin$Years" "end" "LDriftKin$Shore;"] : List Cond), w ∈ wtX7_drawnAct := fun w h => List.mem_cons_of_mem _ (inl h)
theorem imX7_drawnAct_u_X7 : ∀ w ∈ (u_ws RX7 TX7 4 : List Cond), w ∈ wtX7_drawnAct := fun w h => List.mem_cons_of_mem _ (inr (inl h))
theorem imX7_drawnAct_c_X5_comeIn : ∀ w ∈ (wsV RX7 56 RX5 yX5_comeIn wtX5_comeIn : List Cond), w ∈ wtX7_drawnAct := fun w h => List.mem_cons_of_mem _ (inr (inr (inl h)))
theorem imX7_drawnAct_c_X5_takeHome : ∀ w ∈ (wsV RX7 73 RX5 yX5_takeHome wtX5_takeHome : List Cond), w ∈ wtX7_drawnAct := fun w h => List.mem_cons_of_mem _ (inr (inr (inr (inl h))))
theorem imX7_drawnAct_c_X7_wed : ∀ w ∈ (wsV RX7 60 RX7 yX7_wed wtX7_wed : List Cond), w ∈ wtX7_drawnAct := fun w h => List.mem_cons_of_mem _ (inr (inr (inr (inr (inl h)))))
theorem imX7_drawnAct_c_X5_part : ∀ w ∈ (wsV RX7 67 RX5 yX5_part wtX5_part : List Cond), w ∈ wtX7_drawnAct := fun w h => List.mem_cons_of_mem _ (inr (inr (inr (inr (inr (inl h))))))
theorem imX7_drawnAct_c_X5_burn : ∀ w ∈ (wsV RX7 70 RX5 yX5_burn wtX5_burn : List Cond), w ∈ wtX7_drawnAct := fun w h => List.mem_cons_of_mem _ (inr (inr (inr (inr (inr (inr (inl h)))))))
theorem imX7_drawnAct_c_X5_passYear : ∀ w ∈ (wsV RX7 52 RX5 yX5_passYear wtX5_passYear : List Cond), w ∈ wtX7_drawnAct := fun w h => List.mem_cons_of_mem _ (inr (inr (inr (inr (inr (inr (inr (inl h))))))))
theorem gdX7_drawnAct : ∀ w ∈ wtX7_drawnAct, Gd w := gdc rfl (gda (gdl (by decide +kernel)) (gda (gdu _ _ _) (gda (gda (gdl (by decide +kernel)) gdX5_comeIn) (gda (gda (gdl (by decide +kernel)) gdX5_takeHome) (gda (gda (gdl (by decide +kernel)) gdX7_wed) (gda (gda (gdl (by decide +kernel)) gdX5_part) (gda (gda (gdl (by decide +kernel)) gdX5_burn) (gda (gda (gdl (by decide +kernel)) gdX5_passYear) gdn))))))))
theorem gcX7_drawnAct_X5_comeIn : GoodIn wtX7_drawnAct (wsV RX7 56 RX5 yX5_comeIn wtX5_comeIn) := fun w h => ⟨imX7_drawnAct_c_X5_comeIn w h, (gda (gdl (by decide +kernel)) gdX5_comeIn) w h⟩
theorem gcX7_drawnAct_X5_takeHome : GoodIn wtX7_drawnAct (wsV RX7 73 RX5 yX5_takeHome wtX5_takeHome) := fun w h => ⟨imX7_drawnAct_c_X5_takeHome w h, (gda (gdl (by decide +kernel)) gdX5_takeHome) w h⟩
theorem gcX7_drawnAct_X7_wed : GoodIn wtX7_drawnAct (wsV RX7 60 RX7 yX7_wed wtX7_wed) := fun w h => ⟨imX7_drawnAct_c_X7_wed w h, (gda (gdl (by decide +kernel)) gdX7_wed) w h⟩
theorem gcX7_drawnAct_X5_part : GoodIn wtX7_drawnAct (wsV RX7 67 RX5 yX5_part wtX5_part) := fun w h => ⟨imX7_drawnAct_c_X5_part w h, (gda (gdl (by decide +kernel)) gdX5_part) w h⟩
theorem gcX7_drawnAct_X5_burn : GoodIn wtX7_drawnAct (wsV RX7 70 RX5 yX5_burn wtX5_burn) := fun w h => ⟨imX7_drawnAct_c_X5_burn w h, (gda (gdl (by decide +kernel)) gdX5_burn) w h⟩
theorem gcX7_drawnAct_X5_passYear : GoodIn wtX7_drawnAct (wsV RX7 52 RX5 yX5_passYear wtX5_passYear) := fun w h => ⟨imX7_drawnAct_c_X5_passYear w h, (gda (gdl (by decide +kernel)) gdX5_passYear) w h⟩
def fX7_drawnAct_56 (v_weddings : Int32) (v_year : Int32) (v_place : Nat → Int32) (v_piece : Nat → Int32) (v_partner : Nat → Int32) (v_children : Nat → Int32) (x2 : Int32) (x4 : Int32) : Option (Int32 × Int32 × (Nat → Int32) × (Nat → Int32) × (Nat → Int32) × (Nat → Int32)) :=
  (fX5_takeHome v_place v_piece x4 x2).bind (fun r1001 =>
    some (v_weddings, v_year, r1001.2.1, r1001.2.2, v_partner, v_children))
def fX7_drawnAct_44 (v_weddings : Int32) (v_year : Int32) (v_place : Nat → Int32) (v_piece : Nat → Int32) (v_partner : Nat → Int32) (v_children : Nat → Int32) (x2 : Int32) : Option (Int32 × Int32 × (Nat → Int32) × (Nat → Int32) × (Nat → Int32) × (Nat → Int32)) :=
  (fX5_comeIn v_place x2).bind (fun r2001 =>
    some (v_weddings, v_year, r2001.2, v_piece, v_partner, v_children))
def fX7_drawnAct (v_weddings : Int32) (v_year : Int32) (v_wreck : Nat → Int32) (v_place : Nat → Int32) (v_piece : Nat → Int32) (v_partner : Nat → Int32) (v_children : Nat → Int32) (x1 : Int32) (x2 : Int32) (x3 : Int32) (x4 : Int32) : Option (Int32 × Int32 × (Nat → Int32) × (Nat → Int32) × (Nat → Int32) × (Nat → Int32)) :=
  if x1 = (0 : Int32) then
    fX7_drawnAct_44 v_weddings v_year v_place v_piece v_partner v_children x2
  else
    if x1 = (1 : Int32) then
      fX7_drawnAct_44 v_weddings v_year v_place v_piece v_partner v_children x2
    else
      if x1 = (2 : Int32) then
        fX7_drawnAct_56 v_weddings v_year v_place v_piece v_partner v_children x2 x4
      else
        if x1 = (3 : Int32) then
          fX7_drawnAct_56 v_weddings v_year v_place v_piece v_partner v_children x2 x4
        else
          if x1 = (4 : Int32) then
            (fX7_wed v_weddings v_wreck v_piece v_partner x3 x4).bind (fun r2 =>
              some (r2.2.1, v_year, v_place, v_piece, r2.2.2, v_children))
          else
            if x1 = (5 : Int32) then
              (fX5_part v_partner x3).bind (fun r3 =>
                some (v_weddings, v_year, v_place, v_piece, r3.2, v_children))
            else
              if x1 = (6 : Int32) then
                (fX5_burn v_place v_piece x3).bind (fun r4 =>
                  some (v_weddings, v_year, r4.2.1, r4.2.2, v_partner, v_children))
              else
                (fX5_passYear v_year v_partner v_children).bind (fun r5 =>
                  some (v_weddings, r5.2.1, v_place, v_piece, v_partner, r5.2.2))
def wdX7_drawnAct (cI cZ : ClassId) (q0 : Nat) (q1 : Nat) (q2 : Nat) (q3 : Nat) (q4 : Nat) (q5 : Nat) (q6 : Nat) (q7 : Nat) (q8 : Nat) (d9 : Nat) (d10 : Nat) (d11 : Nat) (d12 : Nat) (d13 : Nat) (d14 : Nat)  (v_weddings : Int32) (v_year : Int32) (v_wreck : Nat → Int32) (v_place : Nat → Int32) (v_piece : Nat → Int32) (v_partner : Nat → Int32) (v_children : Nat → Int32) (v_acts : Int32) (v_why : Int32) : va_W := [(q0, .inr (7, [.ref q1, .int v_acts, .int v_why, .int v_weddings])), (q1, .inr (5, [.ref q2, .ref q5, .ref d9, .int v_year])), (q2, .inr (3, [.ref q3, .ref d10, .ref d11, .ref d12, .ref d13, .ref q4, .ref d14])), (q3, .inl (cI, 10, .inl v_wreck)), (q4, .inl (cI, 10, .inl v_place)), (q5, .inr (0, [.ref q6, .ref q7, .ref q8])), (q6, .inl (cI, 8, .inl v_piece)), (q7, .inl (cI, 8, .inl v_partner)), (q8, .inl (cI, 8, .inl v_children))]
abbrev rmX7_drawnAct : Jvm.Room := { frames := 4, cells := 0, slots := 0, locals := 87 }
theorem hyX7_drawnAct : yX7_drawnAct.cls ≠ "java/lang/invoke/MethodHandle" ∧ yX7_drawnAct.cls ≠ "java/lang/invoke/VarHandle" ∧ (parseMethodDescriptor yX7_drawnAct.desc).map (fun d => d.parameters.length) = some 4 := by decide +kernel
set_option maxHeartbeats 4000000 in
set_option maxRecDepth 100000 in
theorem mX7_drawnAct (l : Launch) (D : va_G) (cI cZ : ClassId) (q0 : Nat) (q1 : Nat) (q2 : Nat) (q3 : Nat) (q4 : Nat) (q5 : Nat) (q6 : Nat) (q7 : Nat) (q8 : Nat) (d9 : Nat) (d10 : Nat) (d11 : Nat) (d12 : Nat) (d13 : Nat) (d14 : Nat) (v_weddings : Int32) (v_year : Int32) (v_wreck : Nat → Int32) (v_place : Nat → Int32) (v_piece : Nat → Int32) (v_partner : Nat → Int32) (v_children : Nat → Int32) (v_acts : Int32) (v_why : Int32) (x1 : Int32) (x2 : Int32) (x3 : Int32) (x4 : Int32) (z : Int32 × Int32 × (Nat → Int32) × (Nat → Int32) × (Nat → Int32) × (Nat → Int32)) (hF : fX7_drawnAct v_weddings v_year v_wreck v_place v_piece v_partner v_children x1 x2 x3 x4 = some z) : mp l yX7_drawnAct wtX7_drawnAct rmX7_drawnAct D cI cZ [.ref q0, .int x1, .int x2, .int x3, .int x4] (wdX7_drawnAct cI cZ q0 q1 q2 q3 q4 q5 q6 q7 q8 d9 d10 d11 d12 d13 d14 v_weddings v_year v_wreck v_place v_piece v_partner v_children v_acts v_why) none (wdX7_drawnAct cI cZ q0 q1 q2 q3 q4 q5 q6 q7 q8 d9 d10 d11 d12 d13 d14 z.1 z.2.1 v_wreck z.2.2.1 z.2.2.2.1 z.2.2.2.2.1 z.2.2.2.2.2 v_acts v_why) := by
  refine mp_v (lv0 := [(0, .ref q0), (1, .int x1), (2, .int x2), (3, .int x3), (4, .int x4)]) cX7_drawnAct 5 (by decide) rfl (Nat.le_of_ble_eq_true rfl) rfl (fun E h hend0 => ?_)
  have hend : ∀ (z' : Int32 × Int32 × (Nat → Int32) × (Nat → Int32) × (Nat → Int32) × (Nat → Int32)), some z' = some z → ∀ (pc : Nat) (lv : List (Nat × Value)), decode cX7_drawnAct pc = .ok (.return_, 1) → G l D E 5 0 0 (wdX7_drawnAct cI cZ q0 q1 q2 q3 q4 q5 q6 q7 q8 d9 d10 d11 d12 d13 d14 (z'.1) (z'.2.1) v_wreck (z'.2.2.1) (z'.2.2.2.1) (z'.2.2.2.2.1) (z'.2.2.2.2.2) v_acts v_why) pc lv [] := fun z' e => by cases e; exact hend0
  clear hend0
  have hL56 : ∀ (v_weddings : Int32) (v_year : Int32) (v_place : Nat → Int32) (v_piece : Nat → Int32) (v_partner : Nat → Int32) (v_children : Nat → Int32), fX7_drawnAct_56 v_weddings v_year v_place v_piece v_partner v_children x2 x4 = some z → G l D E 5 0 0 (wdX7_drawnAct cI cZ q0 q1 q2 q3 q4 q5 q6 q7 q8 d9 d10 d11 d12 d13 d14 v_weddings v_year v_wreck v_place v_piece v_partner v_children v_acts v_why) 56 [(0, .ref q0), (2, .int x2), (4, .int x4)] [] := by
    intro v_weddings v_year v_place v_piece v_partner v_children hF
    rw [fX7_drawnAct_56] at hF
    refine g_aload_n (np := 57) h 0 rfl rfl dX7_drawnAct_56 rfl ?_
    refine g_get (np := 60) (T := TX7) h imX7_drawnAct_u_X7 0 7 rfl rfl 0 (by decide) (imX7_drawnAct_own _ (List.mem_of_getElem? (i := 0) rfl)) rfl dX7_drawnAct_57 rfl ?_
    refine g_iload (np := 62) h 2 rfl dX7_drawnAct_60 rfl ?_
    refine g_iload_n (np := 63) h 1 rfl rfl dX7_drawnAct_62 rfl ?_
    obtain ⟨r1001, hr1001, hF⟩ := Option.bind_eq_some_iff.mp hF
    refine g_callV (np := 66) (Wd' := (wdX7_drawnAct cI cZ q0 q1 q2 q3 q4 q5 q6 q7 q8 d9 d10 d11 d12 d13 d14 v_weddings v_year v_wreck r1001.2.1 r1001.2.2 v_partner v_children v_acts v_why)) (As := [.int x4, .int x2]) h (mX5_takeHome l D cI cZ q1 q2 q4 q5 q6 d9 q3 d10 d11 d12 d13 d14 q7 q8 v_place v_piece v_year x4 x2 r1001 hr1001) gcX7_drawnAct_X5_takeHome rfl ⟨rfl, rfl⟩ ⟨rfl, hyX5_takeHome⟩ rfl 5 1 rfl rfl rfl rfl rfl rfl ⟨Nat.zero_le _, Nat.zero_le _⟩ [1, 2, 4, 5, 6] [0, 3, 7, 8] (N := 9) (by decide +kernel) rfl rfl rfl rfl rfl dX7_drawnAct_63 rfl ?_
    refine g_pop (np := 67) h rfl dX7_drawnAct_66 rfl ?_
    refine g_goto h dX7_drawnAct_67 (np := 113) rfl ?_
    exact hend _ hF _ _ dX7_drawnAct_113
  have hL44 : ∀ (v_weddings : Int32) (v_year : Int32) (v_place : Nat → Int32) (v_piece : Nat → Int32) (v_partner : Nat → Int32) (v_children : Nat → Int32), fX7_drawnAct_44 v_weddings v_year v_place v_piece v_partner v_children x2 = some z → G l D E 5 0 0 (wdX7_drawnAct cI cZ q0 q1 q2 q3 q4 q5 q6 q7 q8 d9 d10 d11 d12 d13 d14 v_weddings v_year v_wreck v_place v_piece v_partner v_children v_acts v_why) 44 [(0, .ref q0), (2, .int x2)] [] := by
    intro v_weddings v_year v_place v_piece v_partner v_children hF
    rw [fX7_drawnAct_44] at hF
    refine g_aload_n (np := 45) h 0 rfl rfl dX7_drawnAct_44 rfl ?_
    refine g_get (np := 48) (T := TX7) h imX7_drawnAct_u_X7 0 7 rfl rfl 0 (by decide) (imX7_drawnAct_own _ (List.mem_of_getElem? (i := 0) rfl)) rfl dX7_drawnAct_45 rfl ?_
    refine g_iload_n (np := 49) h 1 rfl rfl dX7_drawnAct_48 rfl ?_
    obtain ⟨r2001, hr2001, hF⟩ := Option.bind_eq_some_iff.mp hF
    refine g_callV (np := 52) (Wd' := (wdX7_drawnAct cI cZ q0 q1 q2 q3 q4 q5 q6 q7 q8 d9 d10 d11 d12 d13 d14 v_weddings v_year v_wreck r2001.2 v_piece v_partner v_children v_acts v_why)) (As := [.int x2]) h (mX5_comeIn l D cI cZ q1 q2 q4 q5 d9 q3 d10 d11 d12 d13 d14 v_place v_year x2 r2001 hr2001) gcX7_drawnAct_X5_comeIn rfl ⟨rfl, rfl⟩ ⟨rfl, hyX5_comeIn⟩ rfl 5 1 rfl rfl rfl rfl rfl rfl ⟨Nat.zero_le _, Nat.zero_le _⟩ [1, 2, 4] [0, 3, 5, 6, 7, 8] (N := 9) (by decide +kernel) rfl rfl rfl rfl rfl dX7_drawnAct_49 rfl ?_
    refine g_pop (np := 53) h rfl dX7_drawnAct_52 rfl ?_
    refine g_goto h dX7_drawnAct_53 (np := 113) rfl ?_
    exact hend _ hF _ _ dX7_drawnAct_113
  unfold fX7_drawnAct at hF
  refine g_iload_n (np := 1) h 1 rfl rfl dX7_drawnAct_0 rfl ?_
  by_cases c1_0 : x1 = (0 : Int32)
  · rw [if_pos c1_0] at hF
    refine g_tsIn (np := 44) h dX7_drawnAct_1 0 (by rw [c1_0]; decide) (by decide) (by decide) rfl rfl ?_
    refine g_lv [0, 2] rfl ?_
    exact hL44 v_weddings v_year v_place v_piece v_partner v_children hF
  rw [if_neg c1_0] at hF
  by_cases c1_1 : x1 = (1 : Int32)
  · rw [if_pos c1_1] at hF
    refine g_tsIn (np := 44) h dX7_drawnAct_1 1 (by rw [c1_1]; decide) (by decide) (by decide) rfl rfl ?_
    refine g_lv [0, 2] rfl ?_
    exact hL44 v_weddings v_year v_place v_piece v_partner v_children hF
  rw [if_neg c1_1] at hF
  by_cases c1_2 : x1 = (2 : Int32)
  · rw [if_pos c1_2] at hF
    refine g_tsIn (np := 56) h dX7_drawnAct_1 2 (by rw [c1_2]; decide) (by decide) (by decide) rfl rfl ?_
    refine g_lv [0, 2, 4] rfl ?_
    exact hL56 v_weddings v_year v_place v_piece v_partner v_children hF
  rw [if_neg c1_2] at hF
  by_cases c1_3 : x1 = (3 : Int32)
  · rw [if_pos c1_3] at hF
    refine g_tsIn (np := 56) h dX7_drawnAct_1 3 (by rw [c1_3]; decide) (by decide) (by decide) rfl rfl ?_
    refine g_lv [0, 2, 4] rfl ?_
    exact hL56 v_weddings v_year v_place v_piece v_partner v_children hF
  rw [if_neg c1_3] at hF
  by_cases c1_4 : x1 = (4 : Int32)
  · rw [if_pos c1_4] at hF
    refine g_tsIn (np := 70) h dX7_drawnAct_1 4 (by rw [c1_4]; decide) (by decide) (by decide) rfl rfl ?_
    refine g_aload_n (np := 71) h 0 rfl rfl dX7_drawnAct_70 rfl ?_
    refine g_iload_n (np := 72) h 3 rfl rfl dX7_drawnAct_71 rfl ?_
    refine g_iload (np := 74) h 4 rfl dX7_drawnAct_72 rfl ?_
    obtain ⟨r2, hr2, hF⟩ := Option.bind_eq_some_iff.mp hF
    refine g_callV (np := 77) (Wd' := (wdX7_drawnAct cI cZ q0 q1 q2 q3 q4 q5 q6 q7 q8 d9 d10 d11 d12 d13 d14 r2.2.1 v_year v_wreck v_place v_piece r2.2.2 v_children v_acts v_why)) (As := [.int x3, .int x4]) h (mX7_wed l D cI cZ q0 q1 q2 q3 q5 q6 q7 d9 d10 d11 d12 d13 q4 d14 q8 v_weddings v_wreck v_piece v_partner v_acts v_why v_year x3 x4 r2 hr2) gcX7_drawnAct_X7_wed rfl ⟨rfl, rfl⟩ ⟨rfl, hyX7_wed⟩ rfl 7 0 rfl rfl rfl rfl rfl rfl ⟨Nat.zero_le _, Nat.zero_le _⟩ [0, 1, 2, 3, 5, 6, 7] [4, 8] (N := 9) (by decide +kernel) rfl rfl rfl rfl rfl dX7_drawnAct_74 rfl ?_
    refine g_pop (np := 78) h rfl dX7_drawnAct_77 rfl ?_
    refine g_goto h dX7_drawnAct_78 (np := 113) rfl ?_
    exact hend _ hF _ _ dX7_drawnAct_113
  rw [if_neg c1_4] at hF
  by_cases c1_5 : x1 = (5 : Int32)
  · rw [if_pos c1_5] at hF
    refine g_tsIn (np := 81) h dX7_drawnAct_1 5 (by rw [c1_5]; decide) (by decide) (by decide) rfl rfl ?_
    refine g_aload_n (np := 82) h 0 rfl rfl dX7_drawnAct_81 rfl ?_
    refine g_get (np := 85) (T := TX7) h imX7_drawnAct_u_X7 0 7 rfl rfl 0 (by decide) (imX7_drawnAct_own _ (List.mem_of_getElem? (i := 0) rfl)) rfl dX7_drawnAct_82 rfl ?_
    refine g_iload_n (np := 86) h 3 rfl rfl dX7_drawnAct_85 rfl ?_
    obtain ⟨r3, hr3, hF⟩ := Option.bind_eq_some_iff.mp hF
    refine g_callV (np := 89) (Wd' := (wdX7_drawnAct cI cZ q0 q1 q2 q3 q4 q5 q6 q7 q8 d9 d10 d11 d12 d13 d14 v_weddings v_year v_wreck v_place v_piece r3.2 v_children v_acts v_why)) (As := [.int x3]) h (mX5_part l D cI cZ q1 q5 q7 q2 d9 q6 q8 v_partner v_year x3 r3 hr3) gcX7_drawnAct_X5_part rfl ⟨rfl, rfl⟩ ⟨rfl, hyX5_part⟩ rfl 5 1 rfl rfl rfl rfl rfl rfl ⟨Nat.zero_le _, Nat.zero_le _⟩ [1, 5, 7] [0, 2, 3, 4, 6, 8] (N := 9) (by decide +kernel) rfl rfl rfl rfl rfl dX7_drawnAct_86 rfl ?_
    refine g_pop (np := 90) h rfl dX7_drawnAct_89 rfl ?_
    refine g_goto h dX7_drawnAct_90 (np := 113) rfl ?_
    exact hend _ hF _ _ dX7_drawnAct_113
  rw [if_neg c1_5] at hF
  by_cases c1_6 : x1 = (6 : Int32)
  · rw [if_pos c1_6] at hF
    refine g_tsIn (np := 93) h dX7_drawnAct_1 6 (by rw [c1_6]; decide) (by decide) (by decide) rfl rfl ?_
    refine g_aload_n (np := 94) h 0 rfl rfl dX7_drawnAct_93 rfl ?_
    refine g_get (np := 97) (T := TX7) h imX7_drawnAct_u_X7 0 7 rfl rfl 0 (by decide) (imX7_drawnAct_own _ (List.mem_of_getElem? (i := 0) rfl)) rfl dX7_drawnAct_94 rfl ?_
    refine g_iload_n (np := 98) h 3 rfl rfl dX7_drawnAct_97 rfl ?_
    obtain ⟨r4, hr4, hF⟩ := Option.bind_eq_some_iff.mp hF
    refine g_callV (np := 101) (Wd' := (wdX7_drawnAct cI cZ q0 q1 q2 q3 q4 q5 q6 q7 q8 d9 d10 d11 d12 d13 d14 v_weddings v_year v_wreck r4.2.1 r4.2.2 v_partner v_children v_acts v_why)) (As := [.int x3]) h (mX5_burn l D cI cZ q1 q2 q4 q5 q6 d9 q3 d10 d11 d12 d13 d14 q7 q8 v_place v_piece v_year x3 r4 hr4) gcX7_drawnAct_X5_burn rfl ⟨rfl, rfl⟩ ⟨rfl, hyX5_burn⟩ rfl 5 1 rfl rfl rfl rfl rfl rfl ⟨Nat.zero_le _, Nat.zero_le _⟩ [1, 2, 4, 5, 6] [0, 3, 7, 8] (N := 9) (by decide +kernel) rfl rfl rfl rfl rfl dX7_drawnAct_98 rfl ?_
    refine g_pop (np := 102) h rfl dX7_drawnAct_101 rfl ?_
    refine g_goto h dX7_drawnAct_102 (np := 113) rfl ?_
    exact hend _ hF _ _ dX7_drawnAct_113
  rw [if_neg c1_6] at hF
  refine g_tsOut (np := 105) h dX7_drawnAct_1 (by have a0 := lv_neT c1_0 (a := 0) (by decide); have a1 := lv_neT c1_1 (a := 1) (by decide); have a2 := lv_neT c1_2 (a := 2) (by decide); have a3 := lv_neT c1_3 (a := 3) (by decide); have a4 := lv_neT c1_4 (a := 4) (by decide); have a5 := lv_neT c1_5 (a := 5) (by decide); have a6 := lv_neT c1_6 (a := 6) (by decide); omega) rfl ?_
  refine g_aload_n (np := 106) h 0 rfl rfl dX7_drawnAct_105 rfl ?_
  refine g_get (np := 109) (T := TX7) h imX7_drawnAct_u_X7 0 7 rfl rfl 0 (by decide) (imX7_drawnAct_own _ (List.mem_of_getElem? (i := 0) rfl)) rfl dX7_drawnAct_106 rfl ?_
  obtain ⟨r5, hr5, hF⟩ := Option.bind_eq_some_iff.mp hF
  refine g_callV (np := 112) (Wd' := (wdX7_drawnAct cI cZ q0 q1 q2 q3 q4 q5 q6 q7 q8 d9 d10 d11 d12 d13 d14 v_weddings r5.2.1 v_wreck v_place v_piece v_partner r5.2.2 v_acts v_why)) (As := []) h (mX5_passYear l D cI cZ q1 q5 q7 q8 q2 d9 q6 v_year v_partner v_children r5 hr5) gcX7_drawnAct_X5_passYear rfl ⟨rfl, rfl⟩ ⟨rfl, hyX5_passYear⟩ rfl 5 1 rfl rfl rfl rfl rfl rfl ⟨Nat.zero_le _, Nat.zero_le _⟩ [1, 5, 7, 8] [0, 2, 3, 4, 6] (N := 9) (by decide +kernel) rfl rfl rfl rfl rfl dX7_drawnAct_109 rfl ?_
  refine g_pop (np := 113) h rfl dX7_drawnAct_112 rfl ?_
  exact hend _ hF _ _ dX7_drawnAct_113
theorem dX7_draw_0 : decode cX7_draw 0 = .ok (.aload_n 0, 1) := by decide +kernel
theorem dX7_draw_1 : decode cX7_draw 1 = .ok (.aload_n 3, 1) := by decide +kernel
theorem dX7_draw_2 : decode cX7_draw 2 = .ok (.invokevirtual 32, 3) := by decide +kernel
theorem dX7_draw_5 : decode cX7_draw 5 = .ok (.iload_n 1, 1) := by decide +kernel
theorem dX7_draw_6 : decode cX7_draw 6 = .ok (.istore 4, 2) := by decide +kernel
theorem dX7_draw_8 : decode cX7_draw 8 = .ok (.iconst 0, 1) := by decide +kernel
theorem dX7_draw_9 : decode cX7_draw 9 = .ok (.istore 5, 2) := by decide +kernel
theorem dX7_draw_11 : decode cX7_draw 11 = .ok (.iload 5, 2) := by decide +kernel
theorem dX7_draw_13 : decode cX7_draw 13 = .ok (.iload_n 2, 1) := by decide +kernel
theorem dX7_draw_14 : decode cX7_draw 14 = .ok (.if_icmp .ge 55, 3) := by decide +kernel
theorem dX7_draw_17 : decode cX7_draw 17 = .ok (.bipush 75, 2) := by decide +kernel
theorem dX7_draw_19 : decode cX7_draw 19 = .ok (.iload 4, 2) := by decide +kernel
theorem dX7_draw_21 : decode cX7_draw 21 = .ok (.imul, 1) := by decide +kernel
theorem dX7_draw_22 : decode cX7_draw 22 = .ok (.bipush 74, 2) := by decide +kernel
theorem dX7_draw_24 : decode cX7_draw 24 = .ok (.iadd, 1) := by decide +kernel
theorem dX7_draw_25 : decode cX7_draw 25 = .ok (.ldc 79, 2) := by decide +kernel
theorem dX7_draw_27 : decode cX7_draw 27 = .ok (.irem, 1) := by decide +kernel
theorem dX7_draw_28 : decode cX7_draw 28 = .ok (.istore 4, 2) := by decide +kernel
theorem dX7_draw_30 : decode cX7_draw 30 = .ok (.aload_n 0, 1) := by decide +kernel
theorem dX7_draw_31 : decode cX7_draw 31 = .ok (.iload 4, 2) := by decide +kernel
theorem dX7_draw_33 : decode cX7_draw 33 = .ok (.bipush 8, 2) := by decide +kernel
theorem dX7_draw_35 : decode cX7_draw 35 = .ok (.irem, 1) := by decide +kernel
theorem dX7_draw_36 : decode cX7_draw 36 = .ok (.iload 4, 2) := by decide +kernel
theorem dX7_draw_38 : decode cX7_draw 38 = .ok (.bipush 8, 2) := by decide +kernel
theorem dX7_draw_40 : decode cX7_draw 40 = .ok (.idiv, 1) := by decide +kernel
theorem dX7_draw_41 : decode cX7_draw 41 = .ok (.bipush 10, 2) := by decide +kernel
theorem dX7_draw_43 : decode cX7_draw 43 = .ok (.irem, 1) := by decide +kernel
theorem dX7_draw_44 : decode cX7_draw 44 = .ok (.iload 4, 2) := by decide +kernel
theorem dX7_draw_46 : decode cX7_draw 46 = .ok (.bipush 8, 2) := by decide +kernel
theorem dX7_draw_48 : decode cX7_draw 48 = .ok (.idiv, 1) := by decide +kernel
theorem dX7_draw_49 : decode cX7_draw 49 = .ok (.bipush 8, 2) := by decide +kernel
theorem dX7_draw_51 : decode cX7_draw 51 = .ok (.irem, 1) := by decide +kernel
theorem dX7_draw_52 : decode cX7_draw 52 = .ok (.iload 4, 2) := by decide +kernel
theorem dX7_draw_54 : decode cX7_draw 54 = .ok (.bipush 64, 2) := by decide +kernel
theorem dX7_draw_56 : decode cX7_draw 56 = .ok (.idiv, 1) := by decide +kernel
theorem dX7_draw_57 : decode cX7_draw 57 = .ok (.bipush 8, 2) := by decide +kernel
theorem dX7_draw_59 : decode cX7_draw 59 = .ok (.irem, 1) := by decide +kernel
theorem dX7_draw_60 : decode cX7_draw 60 = .ok (.invokevirtual 80, 3) := by decide +kernel
theorem dX7_draw_63 : decode cX7_draw 63 = .ok (.iinc 5 1, 3) := by decide +kernel
theorem dX7_draw_66 : decode cX7_draw 66 = .ok (.goto (-55), 3) := by decide +kernel
theorem dX7_draw_69 : decode cX7_draw 69 = .ok (.return_, 1) := by decide +kernel
def wtX7_draw : List Cond := .code yX7_draw cX7_draw 6 none :: (([.constant RX7 79 (65537)]) ++ ((wsV RX7 32 RX7 yX7_begin wtX7_begin) ++ ((wsV RX7 80 RX7 yX7_drawnAct wtX7_drawnAct) ++ [])))
theorem imX7_draw_own : ∀ w ∈ ([.constant RX7 79 (65537)] : List Cond), w ∈ wtX7_draw := fun w h => List.mem_cons_of_mem _ (inl h)
theorem imX7_draw_c_X7_begin : ∀ w ∈ (wsV RX7 32 RX7 yX7_begin wtX7_begin : List Cond), w ∈ wtX7_draw := fun w h => List.mem_cons_of_mem _ (inr (inl h))
theorem imX7_draw_c_X7_drawnAct : ∀ w ∈ (wsV RX7 80 RX7 yX7_drawnAct wtX7_drawnAct : List Cond), w ∈ wtX7_draw := fun w h => List.mem_cons_of_mem _ (inr (inr (inl h)))
theorem gdX7_draw : ∀ w ∈ wtX7_draw, Gd w := gdc rfl (gda (gdl (by decide +kernel)) (gda (gda (gdl (by decide +kernel)) gdX7_begin) (gda (gda (gdl (by decide +kernel)) gdX7_drawnAct) gdn)))
theorem gcX7_draw_X7_begin : GoodIn wtX7_draw (wsV RX7 32 RX7 yX7_begin wtX7_begin) := fun w h => ⟨imX7_draw_c_X7_begin w h, (gda (gdl (by decide +kernel)) gdX7_begin) w h⟩
theorem gcX7_draw_X7_drawnAct : GoodIn wtX7_draw (wsV RX7 80 RX7 yX7_drawnAct wtX7_drawnAct) := fun w h => ⟨imX7_draw_c_X7_drawnAct w h, (gda (gdl (by decide +kernel)) gdX7_drawnAct) w h⟩
def fX7_draw_11 (v_acts : Int32) (v_why : Int32) (v_wreck : Nat → Int32) (v_wood : Nat → Int32) (v_length : Nat → Int32) (v_left : Nat → Int32) (v_right : Nat → Int32) (v_rings : Nat → Int32) (v_count : Int32) (v_house : Nat → Int32) (v_reach : Nat → Int32) (v_sounded : Nat → Int32) (x2 : Int32) : Nat → Int32 → Int32 → (Nat → Int32) → (Nat → Int32) → (Nat → Int32) → (Nat → Int32) → Int32 → Int32 → Option (Int32 × Int32 × Int32 × Int32 × (Nat → Int32) × (Nat → Int32) × (Nat → Int32) × (Nat → Int32) × (Nat → Int32) × (Nat → Int32) × (Nat → Int32) × (Nat → Int32) × (Nat → Int32) × (Nat → Int32) × Int32 × (Nat → Int32) × (Nat → Int32) × (Nat → Int32))
  | 0, _, _, _, _, _, _, _, _ => none
  | n + 1, v_weddings, v_year, v_place, v_piece, v_partner, v_children, x4, x5 =>
    if x2 ≤ x5 then
      some (v_acts, v_why, v_weddings, v_year, v_wreck, v_wood, v_length, v_left, v_right, v_place, v_rings, v_piece, v_partner, v_children, v_count, v_house, v_reach, v_sounded)
    else
      bnd (jrem (jrem (((75 : Int32) * x4) + (74 : Int32)) (65537 : Int32)) (8 : Int32)) (fun t1002 =>
        bnd ((jrem (((75 : Int32) * x4) + (74 : Int32)) (65537 : Int32)) / (8 : Int32)) (fun t1003 =>
          bnd ((jrem (((75 : Int32) * x4) + (74 : Int32)) (65537 : Int32)) / (8 : Int32)) (fun t1004 =>
            bnd ((jrem (((75 : Int32) * x4) + (74 : Int32)) (65537 : Int32)) / (64 : Int32)) (fun t1005 =>
              (fX7_drawnAct v_weddings v_year v_wreck v_place v_piece v_partner v_children t1002 (jrem t1003 (10 : Int32)) (jrem t1004 (8 : Int32)) (jrem t1005 (8 : Int32))).bind (fun r1006 =>
                fX7_draw_11 v_acts v_why v_wreck v_wood v_length v_left v_right v_rings v_count v_house v_reach v_sounded x2 n r1006.1 r1006.2.1 r1006.2.2.1 r1006.2.2.2.1 r1006.2.2.2.2.1 r1006.2.2.2.2.2 (jrem (((75 : Int32) * x4) + (74 : Int32)) (65537 : Int32)) (x5 + (1 : Int32)))))))
def fX7_draw (v_acts : Int32) (v_why : Int32) (v_weddings : Int32) (v_year : Int32) (v_wreck : Nat → Int32) (v_wood : Nat → Int32) (v_length : Nat → Int32) (v_left : Nat → Int32) (v_right : Nat → Int32) (v_place : Nat → Int32) (v_rings : Nat → Int32) (v_piece : Nat → Int32) (v_partner : Nat → Int32) (v_children : Nat → Int32) (v_count : Int32) (v_house : Nat → Int32) (v_reach : Nat → Int32) (v_sounded : Nat → Int32) (v_year2 : Int32) (v_wreck2 : Nat → Int32) (v_wood2 : Nat → Int32) (v_length2 : Nat → Int32) (v_left2 : Nat → Int32) (v_right2 : Nat → Int32) (v_place2 : Nat → Int32) (v_rings2 : Nat → Int32) (v_piece2 : Nat → Int32) (v_partner2 : Nat → Int32) (v_children2 : Nat → Int32) (v_count2 : Int32) (v_house2 : Nat → Int32) (v_reach2 : Nat → Int32) (v_sounded2 : Nat → Int32) (x1 : Int32) (x2 : Int32) : Option (Int32 × Int32 × Int32 × Int32 × (Nat → Int32) × (Nat → Int32) × (Nat → Int32) × (Nat → Int32) × (Nat → Int32) × (Nat → Int32) × (Nat → Int32) × (Nat → Int32) × (Nat → Int32) × (Nat → Int32) × Int32 × (Nat → Int32) × (Nat → Int32) × (Nat → Int32)) :=
  (fX7_begin v_acts v_why v_weddings v_year v_wreck v_wood v_length v_left v_right v_place v_rings v_piece v_partner v_children v_count v_house v_reach v_sounded v_year2 v_wreck2 v_wood2 v_length2 v_left2 v_right2 v_place2 v_rings2 v_piece2 v_partner2 v_children2 v_count2 v_house2 v_reach2 v_sounded2).bind (fun r1 =>
    fX7_draw_11 r1.1 r1.2.1 r1.2.2.2.2.1 r1.2.2.2.2.2.1 r1.2.2.2.2.2.2.1 r1.2.2.2.2.2.2.2.1 r1.2.2.2.2.2.2.2.2.1 r1.2.2.2.2.2.2.2.2.2.2.1 r1.2.2.2.2.2.2.2.2.2.2.2.2.2.2.1 r1.2.2.2.2.2.2.2.2.2.2.2.2.2.2.2.1 r1.2.2.2.2.2.2.2.2.2.2.2.2.2.2.2.2.1 r1.2.2.2.2.2.2.2.2.2.2.2.2.2.2.2.2.2 x2 2000 r1.2.2.1 r1.2.2.2.1 r1.2.2.2.2.2.2.2.2.2.1 r1.2.2.2.2.2.2.2.2.2.2.2.1 r1.2.2.2.2.2.2.2.2.2.2.2.2.1 r1.2.2.2.2.2.2.2.2.2.2.2.2.2.1 x1 (0 : Int32))
def wdX7_draw (cI cZ : ClassId) (q0 : Nat) (q1 : Nat) (q2 : Nat) (q3 : Nat) (q4 : Nat) (q5 : Nat) (q6 : Nat) (q7 : Nat) (q8 : Nat) (q9 : Nat) (q10 : Nat) (q11 : Nat) (q12 : Nat) (q13 : Nat) (q14 : Nat) (q15 : Nat) (q16 : Nat) (q17 : Nat) (q18 : Nat) (q19 : Nat) (q20 : Nat) (q21 : Nat) (q22 : Nat) (q23 : Nat) (q24 : Nat) (q25 : Nat) (q26 : Nat) (q27 : Nat) (q28 : Nat) (q29 : Nat) (q30 : Nat) (q31 : Nat) (q32 : Nat) (q33 : Nat) (q34 : Nat)  (v_acts : Int32) (v_why : Int32) (v_weddings : Int32) (v_year : Int32) (v_wreck : Nat → Int32) (v_wood : Nat → Int32) (v_length : Nat → Int32) (v_left : Nat → Int32) (v_right : Nat → Int32) (v_place : Nat → Int32) (v_rings : Nat → Int32) (v_piece : Nat → Int32) (v_partner : Nat → Int32) (v_children : Nat → Int32) (v_count : Int32) (v_house : Nat → Int32) (v_reach : Nat → Int32) (v_sounded : Nat → Int32) (v_year2 : Int32) (v_wreck2 : Nat → Int32) (v_wood2 : Nat → Int32) (v_length2 : Nat → Int32) (v_left2 : Nat → Int32) (v_right2 : Nat → Int32) (v_place2 : Nat → Int32) (v_rings2 : Nat → Int32) (v_piece2 : Nat → Int32) (v_partner2 : Nat → Int32) (v_children2 : Nat → Int32) (v_count2 : Int32) (v_house2 : Nat → Int32) (v_reach2 : Nat → Int32) (v_sounded2 : Nat → Int32) : va_W := [(q0, .inr (7, [.ref q1, .int v_acts, .int v_why, .int v_weddings])), (q1, .inr (5, [.ref q2, .ref q10, .ref q14, .int v_year])), (q2, .inr (3, [.ref q3, .ref q4, .ref q5, .ref q6, .ref q7, .ref q8, .ref q9])), (q3, .inl (cI, 10, .inl v_wreck)), (q4, .inl (cI, 10, .inl v_wood)), (q5, .inl (cI, 10, .inl v_length)), (q6, .inl (cI, 10, .inl v_left)), (q7, .inl (cI, 10, .inl v_right)), (q8, .inl (cI, 10, .inl v_place)), (q9, .inl (cI, 10, .inl v_rings)), (q10, .inr (0, [.ref q11, .ref q12, .ref q13])), (q11, .inl (cI, 8, .inl v_piece)), (q12, .inl (cI, 8, .inl v_partner)), (q13, .inl (cI, 8, .inl v_children)), (q14, .inr (6, [.ref q15, .ref q16, .ref q17, .int v_count])), (q15, .inl (cI, 8, .inl v_house)), (q16, .inl (cI, 8, .inl v_reach)), (q17, .inl (cI, 8, .inl v_sounded)), (q18, .inr (5, [.ref q19, .ref q27, .ref q31, .int v_year2])), (q19, .inr (3, [.ref q20, .ref q21, .ref q22, .ref q23, .ref q24, .ref q25, .ref q26])), (q20, .inl (cI, 10, .inl v_wreck2)), (q21, .inl (cI, 10, .inl v_wood2)), (q22, .inl (cI, 10, .inl v_length2)), (q23, .inl (cI, 10, .inl v_left2)), (q24, .inl (cI, 10, .inl v_right2)), (q25, .inl (cI, 10, .inl v_place2)), (q26, .inl (cI, 10, .inl v_rings2)), (q27, .inr (0, [.ref q28, .ref q29, .ref q30])), (q28, .inl (cI, 8, .inl v_piece2)), (q29, .inl (cI, 8, .inl v_partner2)), (q30, .inl (cI, 8, .inl v_children2)), (q31, .inr (6, [.ref q32, .ref q33, .ref q34, .int v_count2])), (q32, .inl (cI, 8, .inl v_house2)), (q33, .inl (cI, 8, .inl v_reach2)), (q34, .inl (cI, 8, .inl v_sounded2))]
abbrev rmX7_draw : Jvm.Room := { frames := 5, cells := 0, slots := 0, locals := 111 }
theorem hyX7_draw : yX7_draw.cls ≠ "java/lang/invoke/MethodHandle" ∧ yX7_draw.cls ≠ "java/lang/invoke/VarHandle" ∧ (parseMethodDescriptor yX7_draw.desc).map (fun d => d.parameters.length) = some 3 := by decide +kernel
set_option maxHeartbeats 4000000 in
set_option maxRecDepth 100000 in
theorem mX7_draw (l : Launch) (D : va_G) (cI cZ : ClassId) (q0 : Nat) (q1 : Nat) (q2 : Nat) (q3 : Nat) (q4 : Nat) (q5 : Nat) (q6 : Nat) (q7 : Nat) (q8 : Nat) (q9 : Nat) (q10 : Nat) (q11 : Nat) (q12 : Nat) (q13 : Nat) (q14 : Nat) (q15 : Nat) (q16 : Nat) (q17 : Nat) (q18 : Nat) (q19 : Nat) (q20 : Nat) (q21 : Nat) (q22 : Nat) (q23 : Nat) (q24 : Nat) (q25 : Nat) (q26 : Nat) (q27 : Nat) (q28 : Nat) (q29 : Nat) (q30 : Nat) (q31 : Nat) (q32 : Nat) (q33 : Nat) (q34 : Nat) (v_acts : Int32) (v_why : Int32) (v_weddings : Int32) (v_year : Int32) (v_wreck : Nat → Int32) (v_wood : Nat → Int32) (v_length : Nat → Int32) (v_left : Nat → Int32) (v_right : Nat → Int32) (v_place : Nat → Int32) (v_rings : Nat → Int32) (v_piece : Nat → Int32) (v_partner : Nat → Int32) (v_children : Nat → Int32) (v_count : Int32) (v_house : Nat → Int32) (v_reach : Nat → Int32) (v_sounded : Nat → Int32) (v_year2 : Int32) (v_wreck2 : Nat → Int32) (v_wood2 : Nat → Int32) (v_length2 : Nat → Int32) (v_left2 : Nat → Int32) (v_right2 : Nat → Int32) (v_place2 : Nat → Int32) (v_rings2 : Nat → Int32) (v_piece2 : Nat → Int32) (v_partner2 : Nat → Int32) (v_children2 : Nat → Int32) (v_count2 : Int32) (v_house2 : Nat → Int32) (v_reach2 : Nat → Int32) (v_sounded2 : Nat → Int32) (x1 : Int32) (x2 : Int32) (z : Int32 × Int32 × Int32 × Int32 × (Nat → Int32) × (Nat → Int32) × (Nat → Int32) × (Nat → Int32) × (Nat → Int32) × (Nat → Int32) × (Nat → Int32) × (Nat → Int32) × (Nat → Int32) × (Nat → Int32) × Int32 × (Nat → Int32) × (Nat → Int32) × (Nat → Int32)) (hF : fX7_draw v_acts v_why v_weddings v_year v_wreck v_wood v_length v_left v_right v_place v_rings v_piece v_partner v_children v_count v_house v_reach v_sounded v_year2 v_wreck2 v_wood2 v_length2 v_left2 v_right2 v_place2 v_rings2 v_piece2 v_partner2 v_children2 v_count2 v_house2 v_reach2 v_sounded2 x1 x2 = some z) : mp l yX7_draw wtX7_draw rmX7_draw D cI cZ [.ref q0, .int x1, .int x2, .ref q18] (wdX7_draw cI cZ q0 q1 q2 q3 q4 q5 q6 q7 q8 q9 q10 q11 q12 q13 q14 q15 q16 q17 q18 q19 q20 q21 q22 q23 q24 q25 q26 q27 q28 q29 q30 q31 q32 q33 q34 v_acts v_why v_weddings v_year v_wreck v_wood v_length v_left v_right v_place v_rings v_piece v_partner v_children v_count v_house v_reach v_sounded v_year2 v_wreck2 v_wood2 v_length2 v_left2 v_right2 v_place2 v_rings2 v_piece2 v_partner2 v_children2 v_count2 v_house2 v_reach2 v_sounded2) none (wdX7_draw cI cZ q0 q1 q2 q3 q4 q5 q6 q7 q8 q9 q10 q11 q12 q13 q14 q15 q16 q17 q18 q19 q20 q21 q22 q23 q24 q25 q26 q27 q28 q29 q30 q31 q32 q33 q34 z.1 z.2.1 z.2.2.1 z.2.2.2.1 z.2.2.2.2.1 z.2.2.2.2.2.1 z.2.2.2.2.2.2.1 z.2.2.2.2.2.2.2.1 z.2.2.2.2.2.2.2.2.1 z.2.2.2.2.2.2.2.2.2.1 z.2.2.2.2.2.2.2.2.2.2.1 z.2.2.2.2.2.2.2.2.2.2.2.1 z.2.2.2.2.2.2.2.2.2.2.2.2.1 z.2.2.2.2.2.2.2.2.2.2.2.2.2.1 z.2.2.2.2.2.2.2.2.2.2.2.2.2.2.1 z.2.2.2.2.2.2.2.2.2.2.2.2.2.2.2.1 z.2.2.2.2.2.2.2.2.2.2.2.2.2.2.2.2.1 z.2.2.2.2.2.2.2.2.2.2.2.2.2.2.2.2.2 v_year2 v_wreck2 v_wood2 v_length2 v_left2 v_right2 v_place2 v_rings2 v_piece2 v_partner2 v_children2 v_count2 v_house2 v_reach2 v_sounded2) := by
  refine mp_v (lv0 := [(0, .ref q0), (1, .int x1), (2, .int x2), (3, .ref q18)]) cX7_draw 6 (by decide) rfl (Nat.le_of_ble_eq_true rfl) rfl (fun E h hend0 => ?_)
  have hend : ∀ (z' : Int32 × Int32 × Int32 × Int32 × (Nat → Int32) × (Nat → Int32) × (Nat → Int32) × (Nat → Int32) × (Nat → Int32) × (Nat → Int32) × (Nat → Int32) × (Nat → Int32) × (Nat → Int32) × (Nat → Int32) × Int32 × (Nat → Int32) × (Nat → Int32) × (Nat → Int32)), some z' = some z → ∀ (pc : Nat) (lv : List (Nat × Value)), decode cX7_draw pc = .ok (.return_, 1) → G l D E 6 0 0 (wdX7_draw cI cZ q0 q1 q2 q3 q4 q5 q6 q7 q8 q9 q10 q11 q12 q13 q14 q15 q16 q17 q18 q19 q20 q21 q22 q23 q24 q25 q26 q27 q28 q29 q30 q31 q32 q33 q34 (z'.1) (z'.2.1) (z'.2.2.1) (z'.2.2.2.1) (z'.2.2.2.2.1) (z'.2.2.2.2.2.1) (z'.2.2.2.2.2.2.1) (z'.2.2.2.2.2.2.2.1) (z'.2.2.2.2.2.2.2.2.1) (z'.2.2.2.2.2.2.2.2.2.1) (z'.2.2.2.2.2.2.2.2.2.2.1) (z'.2.2.2.2.2.2.2.2.2.2.2.1) (z'.2.2.2.2.2.2.2.2.2.2.2.2.1) (z'.2.2.2.2.2.2.2.2.2.2.2.2.2.1) (z'.2.2.2.2.2.2.2.2.2.2.2.2.2.2.1) (z'.2.2.2.2.2.2.2.2.2.2.2.2.2.2.2.1) (z'.2.2.2.2.2.2.2.2.2.2.2.2.2.2.2.2.1) (z'.2.2.2.2.2.2.2.2.2.2.2.2.2.2.2.2.2) v_year2 v_wreck2 v_wood2 v_length2 v_left2 v_right2 v_place2 v_rings2 v_piece2 v_partner2 v_children2 v_count2 v_house2 v_reach2 v_sounded2) pc lv [] := fun z' e => by cases e; exact hend0
  clear hend0
  have hL11 : ∀ (n11 : Nat) (v_acts : Int32) (v_why : Int32) (v_weddings : Int32) (v_year : Int32) (v_wreck : Nat → Int32) (v_wood : Nat → Int32) (v_length : Nat → Int32) (v_left : Nat → Int32) (v_right : Nat → Int32) (v_place : Nat → Int32) (v_rings : Nat → Int32) (v_piece : Nat → Int32) (v_partner : Nat → Int32) (v_children : Nat → Int32) (v_count : Int32) (v_house : Nat → Int32) (v_reach : Nat → Int32) (v_sounded : Nat → Int32) (x4 : Int32) (x5 : Int32), fX7_draw_11 v_acts v_why v_wreck v_wood v_length v_left v_right v_rings v_count v_house v_reach v_sounded x2 n11 v_weddings v_year v_place v_piece v_partner v_children x4 x5 = some z → G l D E 6 0 0 (wdX7_draw cI cZ q0 q1 q2 q3 q4 q5 q6 q7 q8 q9 q10 q11 q12 q13 q14 q15 q16 q17 q18 q19 q20 q21 q22 q23 q24 q25 q26 q27 q28 q29 q30 q31 q32 q33 q34 v_acts v_why v_weddings v_year v_wreck v_wood v_length v_left v_right v_place v_rings v_piece v_partner v_children v_count v_house v_reach v_sounded v_year2 v_wreck2 v_wood2 v_length2 v_left2 v_right2 v_place2 v_rings2 v_piece2 v_partner2 v_children2 v_count2 v_house2 v_reach2 v_sounded2) 11 [(0, .ref q0), (2, .int x2), (3, .ref q18), (4, .int x4), (5, .int x5)] [] := by
    intro n11
    induction n11 with
    | zero =>
      intro v_acts v_why v_weddings v_year v_wreck v_wood v_length v_left v_right v_place v_rings v_piece v_partner v_children v_count v_house v_reach v_sounded x4 x5 hF
      rw [fX7_draw_11] at hF
      cases hF
    | succ n11 ih11 =>
      intro v_acts v_why v_weddings v_year v_wreck v_wood v_length v_left v_right v_place v_rings v_piece v_partner v_children v_count v_house v_reach v_sounded x4 x5 hF
      rw [fX7_draw_11] at hF
      refine g_iload (np := 13) h 4 rfl dX7_draw_11 rfl ?_
      refine g_iload_n (np := 14) h 1 rfl rfl dX7_draw_13 rfl ?_
      refine g_icmp_ge h hF dX7_draw_14 (np := 17) rfl (tg := 69) rfl (fun c1001 hF => ?_) (fun c1001 hF => ?_)
      · exact hend _ hF _ _ dX7_draw_69
      · refine g_bipush (np := 19) (v := (75 : Int32)) h (by decide) dX7_draw_17 rfl ?_
        refine g_iload (np := 21) h 3 rfl dX7_draw_19 rfl ?_
        refine g_imul (np := 22) h dX7_draw_21 rfl ?_
        refine g_bipush (np := 24) (v := (74 : Int32)) h (by decide) dX7_draw_22 rfl ?_
        refine g_iadd (np := 25) h dX7_draw_24 rfl ?_
        refine g_ldc (np := 27) (v := (65537 : Int32)) h (imX7_draw_own _ (List.mem_of_getElem? (i := 0) rfl)) dX7_draw_25 rfl ?_
        refine g_irem (np := 28) h (by decide) dX7_draw_27 rfl ?_
        refine g_istore (np := 30) (lv' := [(4, .int (jrem (((75 : Int32) * x4) + (74 : Int32)) (65537 : Int32))), (0, .ref q0), (2, .int x2), (3, .ref q18), (5, .int x5)]) h (by decide) rfl dX7_draw_28 rfl ?_
        refine g_aload_n (np := 31) h 1 rfl rfl dX7_draw_30 rfl ?_
        refine g_iload (np := 33) h 0 rfl dX7_draw_31 rfl ?_
        refine g_bipush (np := 35) (v := (8 : Int32)) h (by decide) dX7_draw_33 rfl ?_
        refine g_irem (np := 36) h (by decide) dX7_draw_35 rfl ?_
        refine g_top hF (fun t1002 et1002 hF => ?_)
        refine g_iload (np := 38) h 0 rfl dX7_draw_36 rfl ?_
        refine g_bipush (np := 40) (v := (8 : Int32)) h (by decide) dX7_draw_38 rfl ?_
        refine g_idiv (np := 41) h (by decide) dX7_draw_40 rfl ?_
        refine g_top hF (fun t1003 et1003 hF => ?_)
        refine g_bipush (np := 43) (v := (10 : Int32)) h (by decide) dX7_draw_41 rfl ?_
        refine g_irem (np := 44) h (by decide) dX7_draw_43 rfl ?_
        refine g_iload (np := 46) h 0 rfl dX7_draw_44 rfl ?_
        refine g_bipush (np := 48) (v := (8 : Int32)) h (by decide) dX7_draw_46 rfl ?_
        refine g_idiv (np := 49) h (by decide) dX7_draw_48 rfl ?_
        refine g_top hF (fun t1004 et1004 hF => ?_)
        refine g_bipush (np := 51) (v := (8 : Int32)) h (by decide) dX7_draw_49 rfl ?_
        refine g_irem (np := 52) h (by decide) dX7_draw_51 rfl ?_
        refine g_iload (np := 54) h 0 rfl dX7_draw_52 rfl ?_
        refine g_bipush (np := 56) (v := (64 : Int32)) h (by decide) dX7_draw_54 rfl ?_
        refine g_idiv (np := 57) h (by decide) dX7_draw_56 rfl ?_
        refine g_top hF (fun t1005 et1005 hF => ?_)
        refine g_bipush (np := 59) (v := (8 : Int32)) h (by decide) dX7_draw_57 rfl ?_
        refine g_irem (np := 60) h (by decide) dX7_draw_59 rfl ?_
        obtain ⟨r1006, hr1006, hF⟩ := Option.bind_eq_some_iff.mp hF
        refine g_callV (np := 63) (Wd' := (wdX7_draw cI cZ q0 q1 q2 q3 q4 q5 q6 q7 q8 q9 q10 q11 q12 q13 q14 q15 q16 q17 q18 q19 q20 q21 q22 q23 q24 q25 q26 q27 q28 q29 q30 q31 q32 q33 q34 v_acts v_why r1006.1 r1006.2.1 v_wreck v_wood v_length v_left v_right r1006.2.2.1 v_rings r1006.2.2.2.1 r1006.2.2.2.2.1 r1006.2.2.2.2.2 v_count v_house v_reach v_sounded v_year2 v_wreck2 v_wood2 v_length2 v_left2 v_right2 v_place2 v_rings2 v_piece2 v_partner2 v_children2 v_count2 v_house2 v_reach2 v_sounded2)) (As := [.int t1002, .int (jrem t1003 (10 : Int32)), .int (jrem t1004 (8 : Int32)), .int (jrem t1005 (8 : Int32))]) h (mX7_drawnAct l D cI cZ q0 q1 q2 q3 q8 q10 q11 q12 q13 q14 q4 q5 q6 q7 q9 v_weddings v_year v_wreck v_place v_piece v_partner v_children v_acts v_why t1002 (jrem t1003 (10 : Int32)) (jrem t1004 (8 : Int32)) (jrem t1005 (8 : Int32)) r1006 hr1006) gcX7_draw_X7_drawnAct rfl ⟨rfl, rfl⟩ ⟨rfl, hyX7_drawnAct⟩ rfl 7 0 rfl rfl rfl rfl rfl rfl ⟨Nat.zero_le _, Nat.zero_le _⟩ [0, 1, 2, 3, 8, 10, 11, 12, 13] [4, 5, 6, 7, 9, 14, 15, 16, 17, 18, 19, 20, 21, 22, 23, 24, 25, 26, 27, 28, 29, 30, 31, 32, 33, 34] (N := 35) (by decide +kernel) rfl rfl rfl rfl rfl dX7_draw_60 rfl ?_
        refine g_iinc (np := 66) (v := (x5 + (1 : Int32))) (lv' := [(5, .int (x5 + (1 : Int32))), (4, .int (jrem (((75 : Int32) * x4) + (74 : Int32)) (65537 : Int32))), (0, .ref q0), (2, .int x2), (3, .ref q18)]) h 4 rfl rfl (by decide) rfl dX7_draw_63 rfl ?_
        refine g_goto h dX7_draw_66 (np := 11) rfl ?_
        refine g_lv [2, 3, 4, 1, 0] rfl ?_
        exact ih11 v_acts v_why r1006.1 r1006.2.1 v_wreck v_wood v_length v_left v_right r1006.2.2.1 v_rings r1006.2.2.2.1 r1006.2.2.2.2.1 r1006.2.2.2.2.2 v_count v_house v_reach v_sounded (jrem (((75 : Int32) * x4) + (74 : Int32)) (65537 : Int32)) (x5 + (1 : Int32)) hF
  unfold fX7_draw at hF
  refine g_aload_n (np := 1) h 0 rfl rfl dX7_draw_0 rfl ?_
  refine g_aload_n (np := 2) h 3 rfl rfl dX7_draw_1 rfl ?_
  obtain ⟨r1, hr1, hF⟩ := Option.bind_eq_some_iff.mp hF
  refine g_callV (np := 5) (Wd' := (wdX7_draw cI cZ q0 q1 q2 q3 q4 q5 q6 q7 q8 q9 q10 q11 q12 q13 q14 q15 q16 q17 q18 q19 q20 q21 q22 q23 q24 q25 q26 q27 q28 q29 q30 q31 q32 q33 q34 r1.1 r1.2.1 r1.2.2.1 r1.2.2.2.1 r1.2.2.2.2.1 r1.2.2.2.2.2.1 r1.2.2.2.2.2.2.1 r1.2.2.2.2.2.2.2.1 r1.2.2.2.2.2.2.2.2.1 r1.2.2.2.2.2.2.2.2.2.1 r1.2.2.2.2.2.2.2.2.2.2.1 r1.2.2.2.2.2.2.2.2.2.2.2.1 r1.2.2.2.2.2.2.2.2.2.2.2.2.1 r1.2.2.2.2.2.2.2.2.2.2.2.2.2.1 r1.2.2.2.2.2.2.2.2.2.2.2.2.2.2.1 r1.2.2.2.2.2.2.2.2.2.2.2.2.2.2.2.1 r1.2.2.2.2.2.2.2.2.2.2.2.2.2.2.2.2.1 r1.2.2.2.2.2.2.2.2.2.2.2.2.2.2.2.2.2 v_year2 v_wreck2 v_wood2 v_length2 v_left2 v_right2 v_place2 v_rings2 v_piece2 v_partner2 v_children2 v_count2 v_house2 v_reach2 v_sounded2)) (As := [.ref q18]) h (mX7_begin l D cI cZ q0 q1 q2 q3 q4 q5 q6 q7 q8 q9 q10 q11 q12 q13 q14 q15 q16 q17 q18 q19 q20 q21 q22 q23 q24 q25 q26 q27 q28 q29 q30 q31 q32 q33 q34 v_acts v_why v_weddings v_year v_wreck v_wood v_length v_left v_right v_place v_rings v_piece v_partner v_children v_count v_house v_reach v_sounded v_year2 v_wreck2 v_wood2 v_length2 v_left2 v_right2 v_place2 v_rings2 v_piece2 v_partner2 v_children2 v_count2 v_house2 v_reach2 v_sounded2 r1 hr1) gcX7_draw_X7_begin rfl ⟨rfl, rfl⟩ ⟨rfl, hyX7_begin⟩ rfl 7 0 rfl rfl rfl rfl rfl rfl ⟨Nat.zero_le _, Nat.zero_le _⟩ [0, 1, 2, 3, 4, 5, 6, 7, 8, 9, 10, 11, 12, 13, 14, 15, 16, 17, 18, 19, 20, 21, 22, 23, 24, 25, 26, 27, 28, 29, 30, 31, 32, 33, 34] [] (N := 35) (by decide +kernel) rfl rfl rfl rfl rfl dX7_draw_2 rfl ?_
  refine g_iload_n (np := 6) h 1 rfl rfl dX7_draw_5 rfl ?_
  refine g_istore (np := 8) (lv' := [(4, .int x1), (0, .ref q0), (1, .int x1), (2, .int x2), (3, .ref q18)]) h (by decide) rfl dX7_draw_6 rfl ?_
  refine g_iconst (np := 9) (v := (0 : Int32)) h (by decide) dX7_draw_8 rfl ?_
  refine g_istore (np := 11) (lv' := [(5, .int (0 : Int32)), (4, .int x1), (0, .ref q0), (1, .int x1), (2, .int x2), (3, .ref q18)]) h (by decide) rfl dX7_draw_9 rfl ?_
  refine g_lv [2, 4, 5, 1, 0] rfl ?_
  exact hL11 _ r1.1 r1.2.1 r1.2.2.1 r1.2.2.2.1 r1.2.2.2.2.1 r1.2.2.2.2.2.1 r1.2.2.2.2.2.2.1 r1.2.2.2.2.2.2.2.1 r1.2.2.2.2.2.2.2.2.1 r1.2.2.2.2.2.2.2.2.2.1 r1.2.2.2.2.2.2.2.2.2.2.1 r1.2.2.2.2.2.2.2.2.2.2.2.1 r1.2.2.2.2.2.2.2.2.2.2.2.2.1 r1.2.2.2.2.2.2.2.2.2.2.2.2.2.1 r1.2.2.2.2.2.2.2.2.2.2.2.2.2.2.1 r1.2.2.2.2.2.2.2.2.2.2.2.2.2.2.2.1 r1.2.2.2.2.2.2.2.2.2.2.2.2.2.2.2.2.1 r1.2.2.2.2.2.2.2.2.2.2.2.2.2.2.2.2.2 x1 (0 : Int32) hF
