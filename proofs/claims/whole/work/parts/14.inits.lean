theorem dX0_init_0 : decode cX0_init 0 = .ok (.aload_n 0, 1) := by decide +kernel
theorem dX0_init_1 : decode cX0_init 1 = .ok (.invokespecial 3, 3) := by decide +kernel
theorem dX0_init_4 : decode cX0_init 4 = .ok (.aload_n 0, 1) := by decide +kernel
theorem dX0_init_5 : decode cX0_init 5 = .ok (.bipush 8, 2) := by decide +kernel
theorem dX0_init_7 : decode cX0_init 7 = .ok (.newarray .int, 2) := by decide +kernel
theorem dX0_init_9 : decode cX0_init 9 = .ok (.putfield 9, 3) := by decide +kernel
theorem dX0_init_12 : decode cX0_init 12 = .ok (.aload_n 0, 1) := by decide +kernel
theorem dX0_init_13 : decode cX0_init 13 = .ok (.bipush 8, 2) := by decide +kernel
theorem dX0_init_15 : decode cX0_init 15 = .ok (.newarray .int, 2) := by decide +kernel
theorem dX0_init_17 : decode cX0_init 17 = .ok (.putfield 15, 3) := by decide +kernel
theorem dX0_init_20 : decode cX0_init 20 = .ok (.aload_n 0, 1) := by decide +kernel
theorem dX0_init_21 : decode cX0_init 21 = .ok (.bipush 8, 2) := by decide +kernel
theorem dX0_init_23 : decode cX0_init 23 = .ok (.newarray .int, 2) := by decide +kernel
theorem dX0_init_25 : decode cX0_init 25 = .ok (.putfield 18, 3) := by decide +kernel
theorem dX0_init_28 : decode cX0_init 28 = .ok (.aload_n 0, 1) := by decide +kernel
theorem dX0_init_29 : decode cX0_init 29 = .ok (.getfield 9, 3) := by decide +kernel
theorem dX0_init_32 : decode cX0_init 32 = .ok (.bipush (-6), 2) := by decide +kernel
theorem dX0_init_34 : decode cX0_init 34 = .ok (.invokestatic 21, 3) := by decide +kernel
theorem dX0_init_37 : decode cX0_init 37 = .ok (.aload_n 0, 1) := by decide +kernel
theorem dX0_init_38 : decode cX0_init 38 = .ok (.getfield 15, 3) := by decide +kernel
theorem dX0_init_41 : decode cX0_init 41 = .ok (.bipush (-6), 2) := by decide +kernel
theorem dX0_init_43 : decode cX0_init 43 = .ok (.invokestatic 21, 3) := by decide +kernel
theorem dX0_init_46 : decode cX0_init 46 = .ok (.return_, 1) := by decide +kernel
def wtX0_init : List Cond := .code yX0_init cX0_init 1 none :: (([.methodLink RX0 3 objectInit, .instanceMethod objectInit, .code objectInit ⟨#[0xb1]⟩ 1 none, .arrayClass .int, .fieldLink RX0 9 "DriftKin$Houses" "piece" "[I", .fieldLink RX0 15 "DriftKin$Houses" "partner" "[I", .fieldLink RX0 18 "DriftKin$Houses" "children" "[I", .static yX8_fill, .initialized RX8]) ++ ((u_ws RX0 TX0 3) ++ ((wtX8_fill) ++ [])))
theorem imX0_init_own : ∀ w ∈ ([.methodLink RX0 3 objectInit, .instanceMethod objectInit, .code objectInit ⟨#[0xb1]⟩ 1 none, .arrayClass .int, .fieldLink RX0 9 "DriftKin$Houses" "piece" "[I", .fieldLink RX0 15 "DriftKin$Houses" "partner" "[I", .fieldLink RX0 18 "DriftKin$Houses" "children" "[I", .static yX8_fill, .initialized RX8] : List Cond), w ∈ wtX0_init := fun w h => List.mem_cons_of_mem _ (inl h)
theorem imX0_init_u_X0 : ∀ w ∈ (u_ws RX0 TX0 3 : List Cond), w ∈ wtX0_init := fun w h => List.mem_cons_of_mem _ (inr (inl h))
theorem imX0_init_c_X8_fill : ∀ w ∈ (wtX8_fill : List Cond), w ∈ wtX0_init := fun w h => List.mem_cons_of_mem _ (inr (inr (inl h)))
theorem gdX0_init : ∀ w ∈ wtX0_init, Gd w := gdc rfl (gda (gdl (by decide +kernel)) (gda (gdu _ _ _) (gda gdX8_fill gdn)))
theorem gcX0_init_X8_fill : GoodIn wtX0_init (wtX8_fill) := fun w h => ⟨imX0_init_c_X8_fill w h, gdX8_fill w h⟩
def wdX0_init (cI cZ : ClassId) (q0 : Nat) (q1 : Nat) (q2 : Nat) (q3 : Nat)  (v_piece : Nat → Int32) (v_partner : Nat → Int32) (v_children : Nat → Int32) : va_W := [(q0, .inr (0, [.ref q1, .ref q2, .ref q3])), (q1, .inl (cI, 8, .inl v_piece)), (q2, .inl (cI, 8, .inl v_partner)), (q3, .inl (cI, 8, .inl v_children))]
def fX0_init : Option ((Nat → Int32) × (Nat → Int32)) :=
  (fX8_fill 8 (fun _ => 0) (-6 : Int32)).bind (fun r1 =>
    (fX8_fill 8 (fun _ => 0) (-6 : Int32)).bind (fun r2 =>
      some (r1, r2)))
def icX0_init (cI cZ : ClassId) (h0 : Nat) (u : Nat → Nat) (r0 : Nat → Int32) (r1 : Nat → Int32) : va_W := [(h0, .inr (0, [.ref (u 0), .ref (u 1), .ref (u 2)])), (u 0, .inl (cI, 8, .inl r0)), (u 1, .inl (cI, 8, .inl r1)), (u 2, .inl (cI, 8, .inl (fun _ => 0)))]
abbrev rmX0_init : Jvm.Room := { frames := 1, cells := 3, slots := 24, locals := 22 }
theorem hyX0_init : yX0_init.cls ≠ "java/lang/invoke/MethodHandle" ∧ yX0_init.cls ≠ "java/lang/invoke/VarHandle" ∧ (parseMethodDescriptor yX0_init.desc).map (fun d => d.parameters.length) = some 0 := by decide +kernel
set_option maxHeartbeats 4000000 in
set_option maxRecDepth 100000 in
theorem mX0_init (l : Launch) (D : va_G) (cI cZ : ClassId) (q0 : Nat) (z : (Nat → Int32) × (Nat → Int32)) (hF : fX0_init = some z) : mpC l yX0_init wtX0_init rmX0_init D cI cZ [.ref q0] [(q0, .inr (0, [.null, .null, .null]))] none (fun u => icX0_init cI cZ q0 u z.1 z.2) 3 24 := by
  refine mp_c (lv0 := [(0, .ref q0)]) cX0_init 1 (by decide) rfl (Nat.le_of_ble_eq_true rfl) rfl (fun E h hend0 => ?_)
  unfold fX0_init at hF
  refine g_aload_n (np := 1) h 0 rfl rfl dX0_init_0 rfl ?_
  refine g_objI (np := 4) h (imX0_init_own _ (List.mem_of_getElem? (i := 0) rfl)) (imX0_init_own _ (List.mem_of_getElem? (i := 1) rfl)) (imX0_init_own _ (List.mem_of_getElem? (i := 2) rfl)) rfl rfl dX0_init_1 rfl ?_
  refine g_aload_n (np := 5) h 0 rfl rfl dX0_init_4 rfl ?_
  refine g_bipush (np := 7) (v := (8 : Int32)) h (by decide) dX0_init_5 rfl ?_
  refine g_newa (np := 9) (N := 8) (k' := 1) (n' := 8) h (imX0_init_own _ (List.mem_of_getElem? (i := 3) rfl)) (by decide) (by decide) rfl rfl rfl rfl dX0_init_7 rfl (fun q1 => ?_)
  refine g_wd (Wd' := [(q0, .inr (0, [.null, .null, .null])), (q1, .inl (cI, 8, .inl (fun _ => 0)))]) rfl ?_
  refine g_putF (np := 12) (T := TX0) (Wd' := [(q0, .inr (0, [.ref q1, .null, .null])), (q1, .inl (cI, 8, .inl (fun _ => 0)))]) h imX0_init_u_X0 tyX0_ok nmX0 0 0 rfl rfl 0 (by decide) (imX0_init_own _ (List.mem_of_getElem? (i := 4) rfl)) rfl rfl rfl rfl rfl (Nat.le_of_ble_eq_true rfl) rfl dX0_init_9 rfl ?_
  refine g_aload_n (np := 13) h 0 rfl rfl dX0_init_12 rfl ?_
  refine g_bipush (np := 15) (v := (8 : Int32)) h (by decide) dX0_init_13 rfl ?_
  refine g_newa (np := 17) (N := 8) (k' := 2) (n' := 16) h (imX0_init_own _ (List.mem_of_getElem? (i := 3) rfl)) (by decide) (by decide) rfl rfl rfl rfl dX0_init_15 rfl (fun q2 => ?_)
  refine g_wd (Wd' := [(q0, .inr (0, [.ref q1, .null, .null])), (q1, .inl (cI, 8, .inl (fun _ => 0))), (q2, .inl (cI, 8, .inl (fun _ => 0)))]) rfl ?_
  refine g_putF (np := 20) (T := TX0) (Wd' := [(q0, .inr (0, [.ref q1, .ref q2, .null])), (q1, .inl (cI, 8, .inl (fun _ => 0))), (q2, .inl (cI, 8, .inl (fun _ => 0)))]) h imX0_init_u_X0 tyX0_ok nmX0 0 0 rfl rfl 1 (by decide) (imX0_init_own _ (List.mem_of_getElem? (i := 5) rfl)) rfl rfl rfl rfl rfl (Nat.le_of_ble_eq_true rfl) rfl dX0_init_17 rfl ?_
  refine g_aload_n (np := 21) h 0 rfl rfl dX0_init_20 rfl ?_
  refine g_bipush (np := 23) (v := (8 : Int32)) h (by decide) dX0_init_21 rfl ?_
  refine g_newa (np := 25) (N := 8) (k' := 3) (n' := 24) h (imX0_init_own _ (List.mem_of_getElem? (i := 3) rfl)) (by decide) (by decide) rfl rfl rfl rfl dX0_init_23 rfl (fun q3 => ?_)
  refine g_wd (Wd' := [(q0, .inr (0, [.ref q1, .ref q2, .null])), (q1, .inl (cI, 8, .inl (fun _ => 0))), (q2, .inl (cI, 8, .inl (fun _ => 0))), (q3, .inl (cI, 8, .inl (fun _ => 0)))]) rfl ?_
  refine g_putF (np := 28) (T := TX0) (Wd' := [(q0, .inr (0, [.ref q1, .ref q2, .ref q3])), (q1, .inl (cI, 8, .inl (fun _ => 0))), (q2, .inl (cI, 8, .inl (fun _ => 0))), (q3, .inl (cI, 8, .inl (fun _ => 0)))]) h imX0_init_u_X0 tyX0_ok nmX0 0 0 rfl rfl 2 (by decide) (imX0_init_own _ (List.mem_of_getElem? (i := 6) rfl)) rfl rfl rfl rfl rfl (Nat.le_of_ble_eq_true rfl) rfl dX0_init_25 rfl ?_
  refine g_wd (Wd' := (wdX0_init cI cZ q0 q1 q2 q3 (fun _ => 0) (fun _ => 0) (fun _ => 0))) rfl ?_
  have hend : ∀ (z' : (Nat → Int32) × (Nat → Int32)), some z' = some z → ∀ (pc : Nat) (lv : List (Nat × Value)), decode cX0_init pc = .ok (.return_, 1) → G l D E 1 3 24 (wdX0_init cI cZ q0 q1 q2 q3 (z'.1) (z'.2) (fun _ => 0)) pc lv [] := fun z' e pc lv hd => by cases e; exact hend0 (fun k => ([q1, q2, q3] : List Nat).getD k 0) pc lv hd
  refine g_aload_n (np := 29) h 0 rfl rfl dX0_init_28 rfl ?_
  refine g_get (np := 32) (T := TX0) h imX0_init_u_X0 0 0 rfl rfl 0 (by decide) (imX0_init_own _ (List.mem_of_getElem? (i := 4) rfl)) rfl dX0_init_29 rfl ?_
  refine g_bipush (np := 34) (v := (-6 : Int32)) h (by decide) dX0_init_32 rfl ?_
  obtain ⟨r1, hr1, hF⟩ := Option.bind_eq_some_iff.mp hF
  refine g_callN (np := 37) (Wd' := (wdX0_init cI cZ q0 q1 q2 q3 r1 (fun _ => 0) (fun _ => 0))) (As := [.ref q1, .int (-6 : Int32)]) h (mX8_fill l D cI cZ q1 8 (fun _ => 0) (-6 : Int32) r1 hr1) gcX0_init_X8_fill rfl ⟨rfl, rfl⟩ (List.mem_of_getElem? (i := 2) rfl) (imX0_init_own _ (List.mem_of_getElem? (i := 8) rfl)) (imX0_init_own _ (List.mem_of_getElem? (i := 7) rfl)) hyX8_fill rfl rfl rfl rfl ⟨Nat.le_of_ble_eq_true rfl, Nat.le_of_ble_eq_true rfl⟩ [1] [0, 2, 3] (N := 4) (by decide +kernel) rfl rfl rfl rfl rfl dX0_init_34 rfl ?_
  refine g_aload_n (np := 38) h 0 rfl rfl dX0_init_37 rfl ?_
  refine g_get (np := 41) (T := TX0) h imX0_init_u_X0 0 0 rfl rfl 1 (by decide) (imX0_init_own _ (List.mem_of_getElem? (i := 5) rfl)) rfl dX0_init_38 rfl ?_
  refine g_bipush (np := 43) (v := (-6 : Int32)) h (by decide) dX0_init_41 rfl ?_
  obtain ⟨r2, hr2, hF⟩ := Option.bind_eq_some_iff.mp hF
  refine g_callN (np := 46) (Wd' := (wdX0_init cI cZ q0 q1 q2 q3 r1 r2 (fun _ => 0))) (As := [.ref q2, .int (-6 : Int32)]) h (mX8_fill l D cI cZ q2 8 (fun _ => 0) (-6 : Int32) r2 hr2) gcX0_init_X8_fill rfl ⟨rfl, rfl⟩ (List.mem_of_getElem? (i := 2) rfl) (imX0_init_own _ (List.mem_of_getElem? (i := 8) rfl)) (imX0_init_own _ (List.mem_of_getElem? (i := 7) rfl)) hyX8_fill rfl rfl rfl rfl ⟨Nat.le_of_ble_eq_true rfl, Nat.le_of_ble_eq_true rfl⟩ [2] [0, 1, 3] (N := 4) (by decide +kernel) rfl rfl rfl rfl rfl dX0_init_43 rfl ?_
  exact hend _ hF _ _ dX0_init_46
theorem dX1_init_0 : decode cX1_init 0 = .ok (.aload_n 0, 1) := by decide +kernel
theorem dX1_init_1 : decode cX1_init 1 = .ok (.invokespecial 3, 3) := by decide +kernel
theorem dX1_init_4 : decode cX1_init 4 = .ok (.aload_n 0, 1) := by decide +kernel
theorem dX1_init_5 : decode cX1_init 5 = .ok (.bipush 8, 2) := by decide +kernel
theorem dX1_init_7 : decode cX1_init 7 = .ok (.newarray .int, 2) := by decide +kernel
theorem dX1_init_9 : decode cX1_init 9 = .ok (.putfield 9, 3) := by decide +kernel
theorem dX1_init_12 : decode cX1_init 12 = .ok (.aload_n 0, 1) := by decide +kernel
theorem dX1_init_13 : decode cX1_init 13 = .ok (.sipush 256, 3) := by decide +kernel
theorem dX1_init_16 : decode cX1_init 16 = .ok (.newarray .int, 2) := by decide +kernel
theorem dX1_init_18 : decode cX1_init 18 = .ok (.putfield 15, 3) := by decide +kernel
theorem dX1_init_21 : decode cX1_init 21 = .ok (.aload_n 0, 1) := by decide +kernel
theorem dX1_init_22 : decode cX1_init 22 = .ok (.bipush 8, 2) := by decide +kernel
theorem dX1_init_24 : decode cX1_init 24 = .ok (.newarray .int, 2) := by decide +kernel
theorem dX1_init_26 : decode cX1_init 26 = .ok (.putfield 18, 3) := by decide +kernel
theorem dX1_init_29 : decode cX1_init 29 = .ok (.aload_n 0, 1) := by decide +kernel
theorem dX1_init_30 : decode cX1_init 30 = .ok (.iconst 0, 1) := by decide +kernel
theorem dX1_init_31 : decode cX1_init 31 = .ok (.putfield 21, 3) := by decide +kernel
theorem dX1_init_34 : decode cX1_init 34 = .ok (.return_, 1) := by decide +kernel
def wtX1_init : List Cond := .code yX1_init cX1_init 1 none :: (([.methodLink RX1 3 objectInit, .instanceMethod objectInit, .code objectInit ⟨#[0xb1]⟩ 1 none, .arrayClass .int, .fieldLink RX1 9 "DriftKin$Matches" "might" "[I", .fieldLink RX1 15 "DriftKin$Matches" "most" "[I", .fieldLink RX1 18 "DriftKin$Matches" "mate" "[I", .fieldLink RX1 21 "DriftKin$Matches" "count" "I"]) ++ ((u_ws RX1 TX1 4) ++ []))
theorem imX1_init_own : ∀ w ∈ ([.methodLink RX1 3 objectInit, .instanceMethod objectInit, .code objectInit ⟨#[0xb1]⟩ 1 none, .arrayClass .int, .fieldLink RX1 9 "DriftKin$Matches" "might" "[I", .fieldLink RX1 15 "DriftKin$Matches" "most" "[I", .fieldLink RX1 18 "DriftKin$Matches" "mate" "[I", .fieldLink RX1 21 "DriftKin$Matches" "count" "I"] : List Cond), w ∈ wtX1_init := fun w h => List.mem_cons_of_mem _ (inl h)
theorem imX1_init_u_X1 : ∀ w ∈ (u_ws RX1 TX1 4 : List Cond), w ∈ wtX1_init := fun w h => List.mem_cons_of_mem _ (inr (inl h))
theorem gdX1_init : ∀ w ∈ wtX1_init, Gd w := gdc rfl (gda (gdl (by decide +kernel)) (gda (gdu _ _ _) gdn))
def fX1_init : Option (Unit) :=
  some ()
def icX1_init (cI cZ : ClassId) (h0 : Nat) (u : Nat → Nat)  : va_W := [(h0, .inr (1, [.ref (u 0), .ref (u 1), .ref (u 2), .int (0 : Int32)])), (u 0, .inl (cI, 8, .inl (fun _ => 0))), (u 1, .inl (cI, 256, .inl (fun _ => 0))), (u 2, .inl (cI, 8, .inl (fun _ => 0)))]
abbrev rmX1_init : Jvm.Room := { frames := 1, cells := 3, slots := 272, locals := 12 }
theorem hyX1_init : yX1_init.cls ≠ "java/lang/invoke/MethodHandle" ∧ yX1_init.cls ≠ "java/lang/invoke/VarHandle" ∧ (parseMethodDescriptor yX1_init.desc).map (fun d => d.parameters.length) = some 0 := by decide +kernel
set_option maxHeartbeats 4000000 in
set_option maxRecDepth 100000 in
theorem mX1_init (l : Launch) (D : va_G) (cI cZ : ClassId) (q0 : Nat) (z : Unit) (hF : fX1_init = some z) : mpC l yX1_init wtX1_init rmX1_init D cI cZ [.ref q0] [(q0, .inr (1, [.null, .null, .null, .int 0]))] none (fun u => icX1_init cI cZ q0 u) 3 272 := by
  refine mp_c (lv0 := [(0, .ref q0)]) cX1_init 1 (by decide) rfl (Nat.le_of_ble_eq_true rfl) rfl (fun E h hend0 => ?_)
  unfold fX1_init at hF
  refine g_aload_n (np := 1) h 0 rfl rfl dX1_init_0 rfl ?_
  refine g_objI (np := 4) h (imX1_init_own _ (List.mem_of_getElem? (i := 0) rfl)) (imX1_init_own _ (List.mem_of_getElem? (i := 1) rfl)) (imX1_init_own _ (List.mem_of_getElem? (i := 2) rfl)) rfl rfl dX1_init_1 rfl ?_
  refine g_aload_n (np := 5) h 0 rfl rfl dX1_init_4 rfl ?_
  refine g_bipush (np := 7) (v := (8 : Int32)) h (by decide) dX1_init_5 rfl ?_
  refine g_newa (np := 9) (N := 8) (k' := 1) (n' := 8) h (imX1_init_own _ (List.mem_of_getElem? (i := 3) rfl)) (by decide) (by decide) rfl rfl rfl rfl dX1_init_7 rfl (fun q1 => ?_)
  refine g_wd (Wd' := [(q0, .inr (1, [.null, .null, .null, .int (0 : Int32)])), (q1, .inl (cI, 8, .inl (fun _ => 0)))]) rfl ?_
  refine g_putF (np := 12) (T := TX1) (Wd' := [(q0, .inr (1, [.ref q1, .null, .null, .int (0 : Int32)])), (q1, .inl (cI, 8, .inl (fun _ => 0)))]) h imX1_init_u_X1 tyX1_ok nmX1 0 1 rfl rfl 0 (by decide) (imX1_init_own _ (List.mem_of_getElem? (i := 4) rfl)) rfl rfl rfl rfl rfl (Nat.le_of_ble_eq_true rfl) rfl dX1_init_9 rfl ?_
  refine g_aload_n (np := 13) h 0 rfl rfl dX1_init_12 rfl ?_
  refine g_sipush (np := 16) (v := (256 : Int32)) h (by decide) dX1_init_13 rfl ?_
  refine g_newa (np := 18) (N := 256) (k' := 2) (n' := 264) h (imX1_init_own _ (List.mem_of_getElem? (i := 3) rfl)) (by decide) (by decide) rfl rfl rfl rfl dX1_init_16 rfl (fun q2 => ?_)
  refine g_wd (Wd' := [(q0, .inr (1, [.ref q1, .null, .null, .int (0 : Int32)])), (q1, .inl (cI, 8, .inl (fun _ => 0))), (q2, .inl (cI, 256, .inl (fun _ => 0)))]) rfl ?_
  refine g_putF (np := 21) (T := TX1) (Wd' := [(q0, .inr (1, [.ref q1, .ref q2, .null, .int (0 : Int32)])), (q1, .inl (cI, 8, .inl (fun _ => 0))), (q2, .inl (cI, 256, .inl (fun _ => 0)))]) h imX1_init_u_X1 tyX1_ok nmX1 0 1 rfl rfl 1 (by decide) (imX1_init_own _ (List.mem_of_getElem? (i := 5) rfl)) rfl rfl rfl rfl rfl (Nat.le_of_ble_eq_true rfl) rfl dX1_init_18 rfl ?_
  refine g_aload_n (np := 22) h 0 rfl rfl dX1_init_21 rfl ?_
  refine g_bipush (np := 24) (v := (8 : Int32)) h (by decide) dX1_init_22 rfl ?_
  refine g_newa (np := 26) (N := 8) (k' := 3) (n' := 272) h (imX1_init_own _ (List.mem_of_getElem? (i := 3) rfl)) (by decide) (by decide) rfl rfl rfl rfl dX1_init_24 rfl (fun q3 => ?_)
  refine g_wd (Wd' := [(q0, .inr (1, [.ref q1, .ref q2, .null, .int (0 : Int32)])), (q1, .inl (cI, 8, .inl (fun _ => 0))), (q2, .inl (cI, 256, .inl (fun _ => 0))), (q3, .inl (cI, 8, .inl (fun _ => 0)))]) rfl ?_
  refine g_putF (np := 29) (T := TX1) (Wd' := [(q0, .inr (1, [.ref q1, .ref q2, .ref q3, .int (0 : Int32)])), (q1, .inl (cI, 8, .inl (fun _ => 0))), (q2, .inl (cI, 256, .inl (fun _ => 0))), (q3, .inl (cI, 8, .inl (fun _ => 0)))]) h imX1_init_u_X1 tyX1_ok nmX1 0 1 rfl rfl 2 (by decide) (imX1_init_own _ (List.mem_of_getElem? (i := 6) rfl)) rfl rfl rfl rfl rfl (Nat.le_of_ble_eq_true rfl) rfl dX1_init_26 rfl ?_
  refine g_aload_n (np := 30) h 0 rfl rfl dX1_init_29 rfl ?_
  refine g_iconst (np := 31) (v := (0 : Int32)) h (by decide) dX1_init_30 rfl ?_
  refine g_put (np := 34) (T := TX1) (Wd' := [(q0, .inr (1, [.ref q1, .ref q2, .ref q3, .int (0 : Int32)])), (q1, .inl (cI, 8, .inl (fun _ => 0))), (q2, .inl (cI, 256, .inl (fun _ => 0))), (q3, .inl (cI, 8, .inl (fun _ => 0)))]) h imX1_init_u_X1 tyX1_ok nmX1 0 1 rfl rfl 3 (by decide) (imX1_init_own _ (List.mem_of_getElem? (i := 7) rfl)) rfl rfl rfl (Nat.le_of_ble_eq_true rfl) rfl dX1_init_31 rfl ?_
  exact hend0 (fun k => ([q1, q2, q3] : List Nat).getD k 0) _ _ dX1_init_34
theorem dX2_init_0 : decode cX2_init 0 = .ok (.aload_n 0, 1) := by decide +kernel
theorem dX2_init_1 : decode cX2_init 1 = .ok (.invokespecial 3, 3) := by decide +kernel
theorem dX2_init_4 : decode cX2_init 4 = .ok (.aload_n 0, 1) := by decide +kernel
theorem dX2_init_5 : decode cX2_init 5 = .ok (.bipush 60, 2) := by decide +kernel
theorem dX2_init_7 : decode cX2_init 7 = .ok (.newarray .int, 2) := by decide +kernel
theorem dX2_init_9 : decode cX2_init 9 = .ok (.putfield 9, 3) := by decide +kernel
theorem dX2_init_12 : decode cX2_init 12 = .ok (.aload_n 0, 1) := by decide +kernel
theorem dX2_init_13 : decode cX2_init 13 = .ok (.iconst 0, 1) := by decide +kernel
theorem dX2_init_14 : decode cX2_init 14 = .ok (.putfield 15, 3) := by decide +kernel
theorem dX2_init_17 : decode cX2_init 17 = .ok (.return_, 1) := by decide +kernel
def wtX2_init : List Cond := .code yX2_init cX2_init 1 none :: (([.methodLink RX2 3 objectInit, .instanceMethod objectInit, .code objectInit ⟨#[0xb1]⟩ 1 none, .arrayClass .int, .fieldLink RX2 9 "DriftKin$Pad" "signs" "[I", .fieldLink RX2 15 "DriftKin$Pad" "count" "I"]) ++ ((u_ws RX2 TX2 2) ++ []))
theorem imX2_init_own : ∀ w ∈ ([.methodLink RX2 3 objectInit, .instanceMethod objectInit, .code objectInit ⟨#[0xb1]⟩ 1 none, .arrayClass .int, .fieldLink RX2 9 "DriftKin$Pad" "signs" "[I", .fieldLink RX2 15 "DriftKin$Pad" "count" "I"] : List Cond), w ∈ wtX2_init := fun w h => List.mem_cons_of_mem _ (inl h)
theorem imX2_init_u_X2 : ∀ w ∈ (u_ws RX2 TX2 2 : List Cond), w ∈ wtX2_init := fun w h => List.mem_cons_of_mem _ (inr (inl h))
theorem gdX2_init : ∀ w ∈ wtX2_init, Gd w := gdc rfl (gda (gdl (by decide +kernel)) (gda (gdu _ _ _) gdn))
def fX2_init : Option (Unit) :=
  some ()
def icX2_init (cI cZ : ClassId) (h0 : Nat) (u : Nat → Nat)  : va_W := [(h0, .inr (2, [.ref (u 0), .int (0 : Int32)])), (u 0, .inl (cI, 60, .inl (fun _ => 0)))]
abbrev rmX2_init : Jvm.Room := { frames := 1, cells := 1, slots := 60, locals := 12 }
theorem hyX2_init : yX2_init.cls ≠ "java/lang/invoke/MethodHandle" ∧ yX2_init.cls ≠ "java/lang/invoke/VarHandle" ∧ (parseMethodDescriptor yX2_init.desc).map (fun d => d.parameters.length) = some 0 := by decide +kernel
set_option maxHeartbeats 4000000 in
set_option maxRecDepth 100000 in
theorem mX2_init (l : Launch) (D : va_G) (cI cZ : ClassId) (q0 : Nat) (z : Unit) (hF : fX2_init = some z) : mpC l yX2_init wtX2_init rmX2_init D cI cZ [.ref q0] [(q0, .inr (2, [.null, .int 0]))] none (fun u => icX2_init cI cZ q0 u) 1 60 := by
  refine mp_c (lv0 := [(0, .ref q0)]) cX2_init 1 (by decide) rfl (Nat.le_of_ble_eq_true rfl) rfl (fun E h hend0 => ?_)
  unfold fX2_init at hF
  refine g_aload_n (np := 1) h 0 rfl rfl dX2_init_0 rfl ?_
  refine g_objI (np := 4) h (imX2_init_own _ (List.mem_of_getElem? (i := 0) rfl)) (imX2_init_own _ (List.mem_of_getElem? (i := 1) rfl)) (imX2_init_own _ (List.mem_of_getElem? (i := 2) rfl)) rfl rfl dX2_init_1 rfl ?_
  refine g_aload_n (np := 5) h 0 rfl rfl dX2_init_4 rfl ?_
  refine g_bipush (np := 7) (v := (60 : Int32)) h (by decide) dX2_init_5 rfl ?_
  refine g_newa (np := 9) (N := 60) (k' := 1) (n' := 60) h (imX2_init_own _ (List.mem_of_getElem? (i := 3) rfl)) (by decide) (by decide) rfl rfl rfl rfl dX2_init_7 rfl (fun q1 => ?_)
  refine g_wd (Wd' := [(q0, .inr (2, [.null, .int (0 : Int32)])), (q1, .inl (cI, 60, .inl (fun _ => 0)))]) rfl ?_
  refine g_putF (np := 12) (T := TX2) (Wd' := [(q0, .inr (2, [.ref q1, .int (0 : Int32)])), (q1, .inl (cI, 60, .inl (fun _ => 0)))]) h imX2_init_u_X2 tyX2_ok nmX2 0 2 rfl rfl 0 (by decide) (imX2_init_own _ (List.mem_of_getElem? (i := 4) rfl)) rfl rfl rfl rfl rfl (Nat.le_of_ble_eq_true rfl) rfl dX2_init_9 rfl ?_
  refine g_aload_n (np := 13) h 0 rfl rfl dX2_init_12 rfl ?_
  refine g_iconst (np := 14) (v := (0 : Int32)) h (by decide) dX2_init_13 rfl ?_
  refine g_put (np := 17) (T := TX2) (Wd' := [(q0, .inr (2, [.ref q1, .int (0 : Int32)])), (q1, .inl (cI, 60, .inl (fun _ => 0)))]) h imX2_init_u_X2 tyX2_ok nmX2 0 2 rfl rfl 1 (by decide) (imX2_init_own _ (List.mem_of_getElem? (i := 5) rfl)) rfl rfl rfl (Nat.le_of_ble_eq_true rfl) rfl dX2_init_14 rfl ?_
  exact hend0 (fun k => ([q1] : List Nat).getD k 0) _ _ dX2_init_17
theorem dX3_init_0 : decode cX3_init 0 = .ok (.aload_n 0, 1) := by decide +kernel
theorem dX3_init_1 : decode cX3_init 1 = .ok (.invokespecial 3, 3) := by decide +kernel
theorem dX3_init_4 : decode cX3_init 4 = .ok (.aload_n 0, 1) := by decide +kernel
theorem dX3_init_5 : decode cX3_init 5 = .ok (.bipush 10, 2) := by decide +kernel
theorem dX3_init_7 : decode cX3_init 7 = .ok (.newarray .int, 2) := by decide +kernel
theorem dX3_init_9 : decode cX3_init 9 = .ok (.putfield 9, 3) := by decide +kernel
theorem dX3_init_12 : decode cX3_init 12 = .ok (.aload_n 0, 1) := by decide +kernel
theorem dX3_init_13 : decode cX3_init 13 = .ok (.bipush 10, 2) := by decide +kernel
theorem dX3_init_15 : decode cX3_init 15 = .ok (.newarray .int, 2) := by decide +kernel
theorem dX3_init_17 : decode cX3_init 17 = .ok (.putfield 15, 3) := by decide +kernel
theorem dX3_init_20 : decode cX3_init 20 = .ok (.aload_n 0, 1) := by decide +kernel
theorem dX3_init_21 : decode cX3_init 21 = .ok (.bipush 10, 2) := by decide +kernel
theorem dX3_init_23 : decode cX3_init 23 = .ok (.newarray .int, 2) := by decide +kernel
theorem dX3_init_25 : decode cX3_init 25 = .ok (.putfield 18, 3) := by decide +kernel
theorem dX3_init_28 : decode cX3_init 28 = .ok (.aload_n 0, 1) := by decide +kernel
theorem dX3_init_29 : decode cX3_init 29 = .ok (.bipush 10, 2) := by decide +kernel
theorem dX3_init_31 : decode cX3_init 31 = .ok (.newarray .int, 2) := by decide +kernel
theorem dX3_init_33 : decode cX3_init 33 = .ok (.putfield 21, 3) := by decide +kernel
theorem dX3_init_36 : decode cX3_init 36 = .ok (.aload_n 0, 1) := by decide +kernel
theorem dX3_init_37 : decode cX3_init 37 = .ok (.bipush 10, 2) := by decide +kernel
theorem dX3_init_39 : decode cX3_init 39 = .ok (.newarray .int, 2) := by decide +kernel
theorem dX3_init_41 : decode cX3_init 41 = .ok (.putfield 24, 3) := by decide +kernel
theorem dX3_init_44 : decode cX3_init 44 = .ok (.aload_n 0, 1) := by decide +kernel
theorem dX3_init_45 : decode cX3_init 45 = .ok (.bipush 10, 2) := by decide +kernel
theorem dX3_init_47 : decode cX3_init 47 = .ok (.newarray .int, 2) := by decide +kernel
theorem dX3_init_49 : decode cX3_init 49 = .ok (.putfield 27, 3) := by decide +kernel
theorem dX3_init_52 : decode cX3_init 52 = .ok (.aload_n 0, 1) := by decide +kernel
theorem dX3_init_53 : decode cX3_init 53 = .ok (.bipush 10, 2) := by decide +kernel
theorem dX3_init_55 : decode cX3_init 55 = .ok (.newarray .int, 2) := by decide +kernel
theorem dX3_init_57 : decode cX3_init 57 = .ok (.putfield 30, 3) := by decide +kernel
theorem dX3_init_60 : decode cX3_init 60 = .ok (.aload_n 0, 1) := by decide +kernel
theorem dX3_init_61 : decode cX3_init 61 = .ok (.getfield 18, 3) := by decide +kernel
theorem dX3_init_64 : decode cX3_init 64 = .ok (.iconst 1, 1) := by decide +kernel
theorem dX3_init_65 : decode cX3_init 65 = .ok (.invokestatic 33, 3) := by decide +kernel
theorem dX3_init_68 : decode cX3_init 68 = .ok (.iconst 0, 1) := by decide +kernel
theorem dX3_init_69 : decode cX3_init 69 = .ok (.istore_n 1, 1) := by decide +kernel
theorem dX3_init_70 : decode cX3_init 70 = .ok (.iload_n 1, 1) := by decide +kernel
theorem dX3_init_71 : decode cX3_init 71 = .ok (.aload_n 0, 1) := by decide +kernel
theorem dX3_init_72 : decode cX3_init 72 = .ok (.getfield 9, 3) := by decide +kernel
theorem dX3_init_75 : decode cX3_init 75 = .ok (.arraylength, 1) := by decide +kernel
theorem dX3_init_76 : decode cX3_init 76 = .ok (.if_icmp .ge 16, 3) := by decide +kernel
theorem dX3_init_79 : decode cX3_init 79 = .ok (.aload_n 0, 1) := by decide +kernel
theorem dX3_init_80 : decode cX3_init 80 = .ok (.getfield 9, 3) := by decide +kernel
theorem dX3_init_83 : decode cX3_init 83 = .ok (.iload_n 1, 1) := by decide +kernel
theorem dX3_init_84 : decode cX3_init 84 = .ok (.iload_n 1, 1) := by decide +kernel
theorem dX3_init_85 : decode cX3_init 85 = .ok (.iastore, 1) := by decide +kernel
theorem dX3_init_86 : decode cX3_init 86 = .ok (.iinc 1 1, 3) := by decide +kernel
theorem dX3_init_89 : decode cX3_init 89 = .ok (.goto (-19), 3) := by decide +kernel
theorem dX3_init_92 : decode cX3_init 92 = .ok (.return_, 1) := by decide +kernel
def wtX3_init : List Cond := .code yX3_init cX3_init 2 none :: (([.methodLink RX3 3 objectInit, .instanceMethod objectInit, .code objectInit ⟨#[0xb1]⟩ 1 none, .arrayClass .int, .fieldLink RX3 9 "DriftKin$Pieces" "wreck" "[I", .fieldLink RX3 15 "DriftKin$Pieces" "wood" "[I", .fieldLink RX3 18 "DriftKin$Pieces" "length" "[I", .fieldLink RX3 21 "DriftKin$Pieces" "left" "[I", .fieldLink RX3 24 "DriftKin$Pieces" "right" "[I", .fieldLink RX3 27 "DriftKin$Pieces" "place" "[I", .fieldLink RX3 30 "DriftKin$Pieces" "rings" "[I", .static yX8_fill, .initialized RX8]) ++ ((u_ws RX3 TX3 7) ++ ((wtX8_fill) ++ [])))
theorem imX3_init_own : ∀ w ∈ ([.methodLink RX3 3 objectInit, .instanceMethod objectInit, .code objectInit ⟨#[0xb1]⟩ 1 none, .arrayClass .int, .fieldLink RX3 9 "DriftKin$Pieces" "wreck" "[I", .fieldLink RX3 15 "DriftKin$Pieces" "wood" "[I", .fieldLink RX3 18 "DriftKin$Pieces" "length" "[I", .fieldLink RX3 21 "DriftKin$Pieces" "left" "[I", .fieldLink RX3 24 "DriftKin$Pieces" "right" "[I", .fieldLink RX3 27 "DriftKin$Pieces" "place" "[I", .fieldLink RX3 30 "DriftKin$Pieces" "rings" "[I", .static yX8_fill, .initialized RX8] : List Cond), w ∈ wtX3_init := fun w h => List.mem_cons_of_mem _ (inl h)
theorem imX3_init_u_X3 : ∀ w ∈ (u_ws RX3 TX3 7 : List Cond), w ∈ wtX3_init := fun w h => List.mem_cons_of_mem _ (inr (inl h))
theorem imX3_init_c_X8_fill : ∀ w ∈ (wtX8_fill : List Cond), w ∈ wtX3_init := fun w h => List.mem_cons_of_mem _ (inr (inr (inl h)))
theorem gdX3_init : ∀ w ∈ wtX3_init, Gd w := gdc rfl (gda (gdl (by decide +kernel)) (gda (gdu _ _ _) (gda gdX8_fill gdn)))
theorem gcX3_init_X8_fill : GoodIn wtX3_init (wtX8_fill) := fun w h => ⟨imX3_init_c_X8_fill w h, gdX8_fill w h⟩
def fX3_init_70 (v_length : Nat → Int32) : Nat → (Nat → Int32) → Int32 → Option ((Nat → Int32) × (Nat → Int32))
  | 0, _, _ => none
  | n + 1, v_wreck, x1 =>
    if (10 : Int32) ≤ x1 then
      some (v_wreck, v_length)
    else
      chk x1 10 (
        fX3_init_70 v_length n (wr v_wreck x1 x1) (x1 + (1 : Int32)))
def wdX3_init (cI cZ : ClassId) (q0 : Nat) (q1 : Nat) (q2 : Nat) (q3 : Nat) (q4 : Nat) (q5 : Nat) (q6 : Nat) (q7 : Nat)  (v_wreck : Nat → Int32) (v_wood : Nat → Int32) (v_length : Nat → Int32) (v_left : Nat → Int32) (v_right : Nat → Int32) (v_place : Nat → Int32) (v_rings : Nat → Int32) : va_W := [(q0, .inr (3, [.ref q1, .ref q2, .ref q3, .ref q4, .ref q5, .ref q6, .ref q7])), (q1, .inl (cI, 10, .inl v_wreck)), (q2, .inl (cI, 10, .inl v_wood)), (q3, .inl (cI, 10, .inl v_length)), (q4, .inl (cI, 10, .inl v_left)), (q5, .inl (cI, 10, .inl v_right)), (q6, .inl (cI, 10, .inl v_place)), (q7, .inl (cI, 10, .inl v_rings))]
def fX3_init : Option ((Nat → Int32) × (Nat → Int32)) :=
  (fX8_fill 10 (fun _ => 0) (1 : Int32)).bind (fun r1 =>
    fX3_init_70 r1 2000 (fun _ => 0) (0 : Int32))
def icX3_init (cI cZ : ClassId) (h0 : Nat) (u : Nat → Nat) (r0 : Nat → Int32) (r1 : Nat → Int32) : va_W := [(h0, .inr (3, [.ref (u 0), .ref (u 1), .ref (u 2), .ref (u 3), .ref (u 4), .ref (u 5), .ref (u 6)])), (u 0, .inl (cI, 10, .inl r0)), (u 1, .inl (cI, 10, .inl (fun _ => 0))), (u 2, .inl (cI, 10, .inl r1)), (u 3, .inl (cI, 10, .inl (fun _ => 0))), (u 4, .inl (cI, 10, .inl (fun _ => 0))), (u 5, .inl (cI, 10, .inl (fun _ => 0))), (u 6, .inl (cI, 10, .inl (fun _ => 0)))]
abbrev rmX3_init : Jvm.Room := { frames := 1, cells := 7, slots := 70, locals := 22 }
theorem hyX3_init : yX3_init.cls ≠ "java/lang/invoke/MethodHandle" ∧ yX3_init.cls ≠ "java/lang/invoke/VarHandle" ∧ (parseMethodDescriptor yX3_init.desc).map (fun d => d.parameters.length) = some 0 := by decide +kernel
set_option maxHeartbeats 4000000 in
set_option maxRecDepth 100000 in
theorem mX3_init (l : Launch) (D : va_G) (cI cZ : ClassId) (q0 : Nat) (z : (Nat → Int32) × (Nat → Int32)) (hF : fX3_init = some z) : mpC l yX3_init wtX3_init rmX3_init D cI cZ [.ref q0] [(q0, .inr (3, [.null, .null, .null, .null, .null, .null, .null]))] none (fun u => icX3_init cI cZ q0 u z.1 z.2) 7 70 := by
  refine mp_c (lv0 := [(0, .ref q0)]) cX3_init 2 (by decide) rfl (Nat.le_of_ble_eq_true rfl) rfl (fun E h hend0 => ?_)
  unfold fX3_init at hF
  refine g_aload_n (np := 1) h 0 rfl rfl dX3_init_0 rfl ?_
  refine g_objI (np := 4) h (imX3_init_own _ (List.mem_of_getElem? (i := 0) rfl)) (imX3_init_own _ (List.mem_of_getElem? (i := 1) rfl)) (imX3_init_own _ (List.mem_of_getElem? (i := 2) rfl)) rfl rfl dX3_init_1 rfl ?_
  refine g_aload_n (np := 5) h 0 rfl rfl dX3_init_4 rfl ?_
  refine g_bipush (np := 7) (v := (10 : Int32)) h (by decide) dX3_init_5 rfl ?_
  refine g_newa (np := 9) (N := 10) (k' := 1) (n' := 10) h (imX3_init_own _ (List.mem_of_getElem? (i := 3) rfl)) (by decide) (by decide) rfl rfl rfl rfl dX3_init_7 rfl (fun q1 => ?_)
  refine g_wd (Wd' := [(q0, .inr (3, [.null, .null, .null, .null, .null, .null, .null])), (q1, .inl (cI, 10, .inl (fun _ => 0)))]) rfl ?_
  refine g_putF (np := 12) (T := TX3) (Wd' := [(q0, .inr (3, [.ref q1, .null, .null, .null, .null, .null, .null])), (q1, .inl (cI, 10, .inl (fun _ => 0)))]) h imX3_init_u_X3 tyX3_ok nmX3 0 3 rfl rfl 0 (by decide) (imX3_init_own _ (List.mem_of_getElem? (i := 4) rfl)) rfl rfl rfl rfl rfl (Nat.le_of_ble_eq_true rfl) rfl dX3_init_9 rfl ?_
  refine g_aload_n (np := 13) h 0 rfl rfl dX3_init_12 rfl ?_
  refine g_bipush (np := 15) (v := (10 : Int32)) h (by decide) dX3_init_13 rfl ?_
  refine g_newa (np := 17) (N := 10) (k' := 2) (n' := 20) h (imX3_init_own _ (List.mem_of_getElem? (i := 3) rfl)) (by decide) (by decide) rfl rfl rfl rfl dX3_init_15 rfl (fun q2 => ?_)
  refine g_wd (Wd' := [(q0, .inr (3, [.ref q1, .null, .null, .null, .null, .null, .null])), (q1, .inl (cI, 10, .inl (fun _ => 0))), (q2, .inl (cI, 10, .inl (fun _ => 0)))]) rfl ?_
  refine g_putF (np := 20) (T := TX3) (Wd' := [(q0, .inr (3, [.ref q1, .ref q2, .null, .null, .null, .null, .null])), (q1, .inl (cI, 10, .inl (fun _ => 0))), (q2, .inl (cI, 10, .inl (fun _ => 0)))]) h imX3_init_u_X3 tyX3_ok nmX3 0 3 rfl rfl 1 (by decide) (imX3_init_own _ (List.mem_of_getElem? (i := 5) rfl)) rfl rfl rfl rfl rfl (Nat.le_of_ble_eq_true rfl) rfl dX3_init_17 rfl ?_
  refine g_aload_n (np := 21) h 0 rfl rfl dX3_init_20 rfl ?_
  refine g_bipush (np := 23) (v := (10 : Int32)) h (by decide) dX3_init_21 rfl ?_
  refine g_newa (np := 25) (N := 10) (k' := 3) (n' := 30) h (imX3_init_own _ (List.mem_of_getElem? (i := 3) rfl)) (by decide) (by decide) rfl rfl rfl rfl dX3_init_23 rfl (fun q3 => ?_)
  refine g_wd (Wd' := [(q0, .inr (3, [.ref q1, .ref q2, .null, .null, .null, .null, .null])), (q1, .inl (cI, 10, .inl (fun _ => 0))), (q2, .inl (cI, 10, .inl (fun _ => 0))), (q3, .inl (cI, 10, .inl (fun _ => 0)))]) rfl ?_
  refine g_putF (np := 28) (T := TX3) (Wd' := [(q0, .inr (3, [.ref q1, .ref q2, .ref q3, .null, .null, .null, .null])), (q1, .inl (cI, 10, .inl (fun _ => 0))), (q2, .inl (cI, 10, .inl (fun _ => 0))), (q3, .inl (cI, 10, .inl (fun _ => 0)))]) h imX3_init_u_X3 tyX3_ok nmX3 0 3 rfl rfl 2 (by decide) (imX3_init_own _ (List.mem_of_getElem? (i := 6) rfl)) rfl rfl rfl rfl rfl (Nat.le_of_ble_eq_true rfl) rfl dX3_init_25 rfl ?_
  refine g_aload_n (np := 29) h 0 rfl rfl dX3_init_28 rfl ?_
  refine g_bipush (np := 31) (v := (10 : Int32)) h (by decide) dX3_init_29 rfl ?_
  refine g_newa (np := 33) (N := 10) (k' := 4) (n' := 40) h (imX3_init_own _ (List.mem_of_getElem? (i := 3) rfl)) (by decide) (by decide) rfl rfl rfl rfl dX3_init_31 rfl (fun q4 => ?_)
  refine g_wd (Wd' := [(q0, .inr (3, [.ref q1, .ref q2, .ref q3, .null, .null, .null, .null])), (q1, .inl (cI, 10, .inl (fun _ => 0))), (q2, .inl (cI, 10, .inl (fun _ => 0))), (q3, .inl (cI, 10, .inl (fun _ => 0))), (q4, .inl (cI, 10, .inl (fun _ => 0)))]) rfl ?_
  refine g_putF (np := 36) (T := TX3) (Wd' := [(q0, .inr (3, [.ref q1, .ref q2, .ref q3, .ref q4, .null, .null, .null])), (q1, .inl (cI, 10, .inl (fun _ => 0))), (q2, .inl (cI, 10, .inl (fun _ => 0))), (q3, .inl (cI, 10, .inl (fun _ => 0))), (q4, .inl (cI, 10, .inl (fun _ => 0)))]) h imX3_init_u_X3 tyX3_ok nmX3 0 3 rfl rfl 3 (by decide) (imX3_init_own _ (List.mem_of_getElem? (i := 7) rfl)) rfl rfl rfl rfl rfl (Nat.le_of_ble_eq_true rfl) rfl dX3_init_33 rfl ?_
  refine g_aload_n (np := 37) h 0 rfl rfl dX3_init_36 rfl ?_
  refine g_bipush (np := 39) (v := (10 : Int32)) h (by decide) dX3_init_37 rfl ?_
  refine g_newa (np := 41) (N := 10) (k' := 5) (n' := 50) h (imX3_init_own _ (List.mem_of_getElem? (i := 3) rfl)) (by decide) (by decide) rfl rfl rfl rfl dX3_init_39 rfl (fun q5 => ?_)
  refine g_wd (Wd' := [(q0, .inr (3, [.ref q1, .ref q2, .ref q3, .ref q4, .null, .null, .null])), (q1, .inl (cI, 10, .inl (fun _ => 0))), (q2, .inl (cI, 10, .inl (fun _ => 0))), (q3, .inl (cI, 10, .inl (fun _ => 0))), (q4, .inl (cI, 10, .inl (fun _ => 0))), (q5, .inl (cI, 10, .inl (fun _ => 0)))]) rfl ?_
  refine g_putF (np := 44) (T := TX3) (Wd' := [(q0, .inr (3, [.ref q1, .ref q2, .ref q3, .ref q4, .ref q5, .null, .null])), (q1, .inl (cI, 10, .inl (fun _ => 0))), (q2, .inl (cI, 10, .inl (fun _ => 0))), (q3, .inl (cI, 10, .inl (fun _ => 0))), (q4, .inl (cI, 10, .inl (fun _ => 0))), (q5, .inl (cI, 10, .inl (fun _ => 0)))]) h imX3_init_u_X3 tyX3_ok nmX3 0 3 rfl rfl 4 (by decide) (imX3_init_own _ (List.mem_of_getElem? (i := 8) rfl)) rfl rfl rfl rfl rfl (Nat.le_of_ble_eq_true rfl) rfl dX3_init_41 rfl ?_
  refine g_aload_n (np := 45) h 0 rfl rfl dX3_init_44 rfl ?_
  refine g_bipush (np := 47) (v := (10 : Int32)) h (by decide) dX3_init_45 rfl ?_
  refine g_newa (np := 49) (N := 10) (k' := 6) (n' := 60) h (imX3_init_own _ (List.mem_of_getElem? (i := 3) rfl)) (by decide) (by decide) rfl rfl rfl rfl dX3_init_47 rfl (fun q6 => ?_)
  refine g_wd (Wd' := [(q0, .inr (3, [.ref q1, .ref q2, .ref q3, .ref q4, .ref q5, .null, .null])), (q1, .inl (cI, 10, .inl (fun _ => 0))), (q2, .inl (cI, 10, .inl (fun _ => 0))), (q3, .inl (cI, 10, .inl (fun _ => 0))), (q4, .inl (cI, 10, .inl (fun _ => 0))), (q5, .inl (cI, 10, .inl (fun _ => 0))), (q6, .inl (cI, 10, .inl (fun _ => 0)))]) rfl ?_
  refine g_putF (np := 52) (T := TX3) (Wd' := [(q0, .inr (3, [.ref q1, .ref q2, .ref q3, .ref q4, .ref q5, .ref q6, .null])), (q1, .inl (cI, 10, .inl (fun _ => 0))), (q2, .inl (cI, 10, .inl (fun _ => 0))), (q3, .inl (cI, 10, .inl (fun _ => 0))), (q4, .inl (cI, 10, .inl (fun _ => 0))), (q5, .inl (cI, 10, .inl (fun _ => 0))), (q6, .inl (cI, 10, .inl (fun _ => 0)))]) h imX3_init_u_X3 tyX3_ok nmX3 0 3 rfl rfl 5 (by decide) (imX3_init_own _ (List.mem_of_getElem? (i := 9) rfl)) rfl rfl rfl rfl rfl (Nat.le_of_ble_eq_true rfl) rfl dX3_init_49 rfl ?_
  refine g_aload_n (np := 53) h 0 rfl rfl dX3_init_52 rfl ?_
  refine g_bipush (np := 55) (v := (10 : Int32)) h (by decide) dX3_init_53 rfl ?_
  refine g_newa (np := 57) (N := 10) (k' := 7) (n' := 70) h (imX3_init_own _ (List.mem_of_getElem? (i := 3) rfl)) (by decide) (by decide) rfl rfl rfl rfl dX3_init_55 rfl (fun q7 => ?_)
  refine g_wd (Wd' := [(q0, .inr (3, [.ref q1, .ref q2, .ref q3, .ref q4, .ref q5, .ref q6, .null])), (q1, .inl (cI, 10, .inl (fun _ => 0))), (q2, .inl (cI, 10, .inl (fun _ => 0))), (q3, .inl (cI, 10, .inl (fun _ => 0))), (q4, .inl (cI, 10, .inl (fun _ => 0))), (q5, .inl (cI, 10, .inl (fun _ => 0))), (q6, .inl (cI, 10, .inl (fun _ => 0))), (q7, .inl (cI, 10, .inl (fun _ => 0)))]) rfl ?_
  refine g_putF (np := 60) (T := TX3) (Wd' := [(q0, .inr (3, [.ref q1, .ref q2, .ref q3, .ref q4, .ref q5, .ref q6, .ref q7])), (q1, .inl (cI, 10, .inl (fun _ => 0))), (q2, .inl (cI, 10, .inl (fun _ => 0))), (q3, .inl (cI, 10, .inl (fun _ => 0))), (q4, .inl (cI, 10, .inl (fun _ => 0))), (q5, .inl (cI, 10, .inl (fun _ => 0))), (q6, .inl (cI, 10, .inl (fun _ => 0))), (q7, .inl (cI, 10, .inl (fun _ => 0)))]) h imX3_init_u_X3 tyX3_ok nmX3 0 3 rfl rfl 6 (by decide) (imX3_init_own _ (List.mem_of_getElem? (i := 10) rfl)) rfl rfl rfl rfl rfl (Nat.le_of_ble_eq_true rfl) rfl dX3_init_57 rfl ?_
  refine g_wd (Wd' := (wdX3_init cI cZ q0 q1 q2 q3 q4 q5 q6 q7 (fun _ => 0) (fun _ => 0) (fun _ => 0) (fun _ => 0) (fun _ => 0) (fun _ => 0) (fun _ => 0))) rfl ?_
  have hend : ∀ (z' : (Nat → Int32) × (Nat → Int32)), some z' = some z → ∀ (pc : Nat) (lv : List (Nat × Value)), decode cX3_init pc = .ok (.return_, 1) → G l D E 2 7 70 (wdX3_init cI cZ q0 q1 q2 q3 q4 q5 q6 q7 (z'.1) (fun _ => 0) (z'.2) (fun _ => 0) (fun _ => 0) (fun _ => 0) (fun _ => 0)) pc lv [] := fun z' e pc lv hd => by cases e; exact hend0 (fun k => ([q1, q2, q3, q4, q5, q6, q7] : List Nat).getD k 0) pc lv hd
  have hL70 : ∀ (n70 : Nat) (v_wreck : Nat → Int32) (v_length : Nat → Int32) (x1 : Int32), fX3_init_70 v_length n70 v_wreck x1 = some z → G l D E 2 7 70 (wdX3_init cI cZ q0 q1 q2 q3 q4 q5 q6 q7 v_wreck (fun _ => 0) v_length (fun _ => 0) (fun _ => 0) (fun _ => 0) (fun _ => 0)) 70 [(0, .ref q0), (1, .int x1)] [] := by
    intro n70
    induction n70 with
    | zero =>
      intro v_wreck v_length x1 hF
      rw [fX3_init_70] at hF
      cases hF
    | succ n70 ih70 =>
      intro v_wreck v_length x1 hF
      rw [fX3_init_70] at hF
      refine g_iload_n (np := 71) h 1 rfl rfl dX3_init_70 rfl ?_
      refine g_aload_n (np := 72) h 0 rfl rfl dX3_init_71 rfl ?_
      refine g_get (np := 75) (T := TX3) h imX3_init_u_X3 0 3 rfl rfl 0 (by decide) (imX3_init_own _ (List.mem_of_getElem? (i := 4) rfl)) rfl dX3_init_72 rfl ?_
      refine g_alen (np := 76) (v := (10 : Int32)) h 1 rfl (by decide) dX3_init_75 rfl ?_
      refine g_icmp_ge h hF dX3_init_76 (np := 79) rfl (tg := 92) rfl (fun c1001 hF => ?_) (fun c1001 hF => ?_)
      · exact hend _ hF _ _ dX3_init_92
      · refine g_aload_n (np := 80) h 0 rfl rfl dX3_init_79 rfl ?_
        refine g_get (np := 83) (T := TX3) h imX3_init_u_X3 0 3 rfl rfl 0 (by decide) (imX3_init_own _ (List.mem_of_getElem? (i := 4) rfl)) rfl dX3_init_80 rfl ?_
        refine g_iload_n (np := 84) h 1 rfl rfl dX3_init_83 rfl ?_
        refine g_iload_n (np := 85) h 1 rfl rfl dX3_init_84 rfl ?_
        refine g_iast (np := 86) (Wd' := (wdX3_init cI cZ q0 q1 q2 q3 q4 q5 q6 q7 (wr v_wreck x1 x1) (fun _ => 0) v_length (fun _ => 0) (fun _ => 0) (fun _ => 0) (fun _ => 0))) h 1 rfl hF rfl dX3_init_85 rfl (fun hi1002 hF => ?_)
        refine g_iinc (np := 89) (v := (x1 + (1 : Int32))) (lv' := [(1, .int (x1 + (1 : Int32))), (0, .ref q0)]) h 1 rfl rfl (by decide) rfl dX3_init_86 rfl ?_
        refine g_goto h dX3_init_89 (np := 70) rfl ?_
        refine g_lv [1, 0] rfl ?_
        exact ih70 (wr v_wreck x1 x1) v_length (x1 + (1 : Int32)) hF
  refine g_aload_n (np := 61) h 0 rfl rfl dX3_init_60 rfl ?_
  refine g_get (np := 64) (T := TX3) h imX3_init_u_X3 0 3 rfl rfl 2 (by decide) (imX3_init_own _ (List.mem_of_getElem? (i := 6) rfl)) rfl dX3_init_61 rfl ?_
  refine g_iconst (np := 65) (v := (1 : Int32)) h (by decide) dX3_init_64 rfl ?_
  obtain ⟨r1, hr1, hF⟩ := Option.bind_eq_some_iff.mp hF
  refine g_callN (np := 68) (Wd' := (wdX3_init cI cZ q0 q1 q2 q3 q4 q5 q6 q7 (fun _ => 0) (fun _ => 0) r1 (fun _ => 0) (fun _ => 0) (fun _ => 0) (fun _ => 0))) (As := [.ref q3, .int (1 : Int32)]) h (mX8_fill l D cI cZ q3 10 (fun _ => 0) (1 : Int32) r1 hr1) gcX3_init_X8_fill rfl ⟨rfl, rfl⟩ (List.mem_of_getElem? (i := 1) rfl) (imX3_init_own _ (List.mem_of_getElem? (i := 12) rfl)) (imX3_init_own _ (List.mem_of_getElem? (i := 11) rfl)) hyX8_fill rfl rfl rfl rfl ⟨Nat.le_of_ble_eq_true rfl, Nat.le_of_ble_eq_true rfl⟩ [3] [0, 1, 2, 4, 5, 6, 7] (N := 8) (by decide +kernel) rfl rfl rfl rfl rfl dX3_init_65 rfl ?_
  refine g_iconst (np := 69) (v := (0 : Int32)) h (by decide) dX3_init_68 rfl ?_
  refine g_istore_n (np := 70) (lv' := [(1, .int (0 : Int32)), (0, .ref q0)]) h rfl (by decide) rfl dX3_init_69 rfl ?_
  refine g_lv [1, 0] rfl ?_
  exact hL70 _ (fun _ => 0) r1 (0 : Int32) hF
theorem dX4_init_0 : decode cX4_init 0 = .ok (.aload_n 0, 1) := by decide +kernel
theorem dX4_init_1 : decode cX4_init 1 = .ok (.invokespecial 3, 3) := by decide +kernel
theorem dX4_init_4 : decode cX4_init 4 = .ok (.aload_n 0, 1) := by decide +kernel
theorem dX4_init_5 : decode cX4_init 5 = .ok (.bipush 10, 2) := by decide +kernel
theorem dX4_init_7 : decode cX4_init 7 = .ok (.newarray .int, 2) := by decide +kernel
theorem dX4_init_9 : decode cX4_init 9 = .ok (.putfield 9, 3) := by decide +kernel
theorem dX4_init_12 : decode cX4_init 12 = .ok (.aload_n 0, 1) := by decide +kernel
theorem dX4_init_13 : decode cX4_init 13 = .ok (.sipush 1024, 3) := by decide +kernel
theorem dX4_init_16 : decode cX4_init 16 = .ok (.newarray .int, 2) := by decide +kernel
theorem dX4_init_18 : decode cX4_init 18 = .ok (.putfield 15, 3) := by decide +kernel
theorem dX4_init_21 : decode cX4_init 21 = .ok (.aload_n 0, 1) := by decide +kernel
theorem dX4_init_22 : decode cX4_init 22 = .ok (.sipush 1024, 3) := by decide +kernel
theorem dX4_init_25 : decode cX4_init 25 = .ok (.newarray .int, 2) := by decide +kernel
theorem dX4_init_27 : decode cX4_init 27 = .ok (.putfield 18, 3) := by decide +kernel
theorem dX4_init_30 : decode cX4_init 30 = .ok (.aload_n 0, 1) := by decide +kernel
theorem dX4_init_31 : decode cX4_init 31 = .ok (.iconst 0, 1) := by decide +kernel
theorem dX4_init_32 : decode cX4_init 32 = .ok (.putfield 21, 3) := by decide +kernel
theorem dX4_init_35 : decode cX4_init 35 = .ok (.return_, 1) := by decide +kernel
def wtX4_init : List Cond := .code yX4_init cX4_init 1 none :: (([.methodLink RX4 3 objectInit, .instanceMethod objectInit, .code objectInit ⟨#[0xb1]⟩ 1 none, .arrayClass .int, .fieldLink RX4 9 "DriftKin$Planks" "before" "[I", .fieldLink RX4 15 "DriftKin$Planks" "fewest" "[I", .fieldLink RX4 18 "DriftKin$Planks" "lasts" "[I", .fieldLink RX4 21 "DriftKin$Planks" "usable" "I"]) ++ ((u_ws RX4 TX4 4) ++ []))
theorem imX4_init_own : ∀ w ∈ ([.methodLink RX4 3 objectInit, .instanceMethod objectInit, .code objectInit ⟨#[0xb1]⟩ 1 none, .arrayClass .int, .fieldLink RX4 9 "DriftKin$Planks" "before" "[I", .fieldLink RX4 15 "DriftKin$Planks" "fewest" "[I", .fieldLink RX4 18 "DriftKin$Planks" "lasts" "[I", .fieldLink RX4 21 "DriftKin$Planks" "usable" "I"] : List Cond), w ∈ wtX4_init := fun w h => List.mem_cons_of_mem _ (inl h)
theorem imX4_init_u_X4 : ∀ w ∈ (u_ws RX4 TX4 4 : List Cond), w ∈ wtX4_init := fun w h => List.mem_cons_of_mem _ (inr (inl h))
theorem gdX4_init : ∀ w ∈ wtX4_init, Gd w := gdc rfl (gda (gdl (by decide +kernel)) (gda (gdu _ _ _) gdn))
def fX4_init : Option (Unit) :=
  some ()
def icX4_init (cI cZ : ClassId) (h0 : Nat) (u : Nat → Nat)  : va_W := [(h0, .inr (4, [.ref (u 0), .ref (u 1), .ref (u 2), .int (0 : Int32)])), (u 0, .inl (cI, 10, .inl (fun _ => 0))), (u 1, .inl (cI, 1024, .inl (fun _ => 0))), (u 2, .inl (cI, 1024, .inl (fun _ => 0)))]
abbrev rmX4_init : Jvm.Room := { frames := 1, cells := 3, slots := 2058, locals := 12 }
theorem hyX4_init : yX4_init.cls ≠ "java/lang/invoke/MethodHandle" ∧ yX4_init.cls ≠ "java/lang/invoke/VarHandle" ∧ (parseMethodDescriptor yX4_init.desc).map (fun d => d.parameters.length) = some 0 := by decide +kernel
set_option maxHeartbeats 4000000 in
set_option maxRecDepth 100000 in
theorem mX4_init (l : Launch) (D : va_G) (cI cZ : ClassId) (q0 : Nat) (z : Unit) (hF : fX4_init = some z) : mpC l yX4_init wtX4_init rmX4_init D cI cZ [.ref q0] [(q0, .inr (4, [.null, .null, .null, .int 0]))] none (fun u => icX4_init cI cZ q0 u) 3 2058 := by
  refine mp_c (lv0 := [(0, .ref q0)]) cX4_init 1 (by decide) rfl (Nat.le_of_ble_eq_true rfl) rfl (fun E h hend0 => ?_)
  unfold fX4_init at hF
  refine g_aload_n (np := 1) h 0 rfl rfl dX4_init_0 rfl ?_
  refine g_objI (np := 4) h (imX4_init_own _ (List.mem_of_getElem? (i := 0) rfl)) (imX4_init_own _ (List.mem_of_getElem? (i := 1) rfl)) (imX4_init_own _ (List.mem_of_getElem? (i := 2) rfl)) rfl rfl dX4_init_1 rfl ?_
  refine g_aload_n (np := 5) h 0 rfl rfl dX4_init_4 rfl ?_
  refine g_bipush (np := 7) (v := (10 : Int32)) h (by decide) dX4_init_5 rfl ?_
  refine g_newa (np := 9) (N := 10) (k' := 1) (n' := 10) h (imX4_init_own _ (List.mem_of_getElem? (i := 3) rfl)) (by decide) (by decide) rfl rfl rfl rfl dX4_init_7 rfl (fun q1 => ?_)
  refine g_wd (Wd' := [(q0, .inr (4, [.null, .null, .null, .int (0 : Int32)])), (q1, .inl (cI, 10, .inl (fun _ => 0)))]) rfl ?_
  refine g_putF (np := 12) (T := TX4) (Wd' := [(q0, .inr (4, [.ref q1, .null, .null, .int (0 : Int32)])), (q1, .inl (cI, 10, .inl (fun _ => 0)))]) h imX4_init_u_X4 tyX4_ok nmX4 0 4 rfl rfl 0 (by decide) (imX4_init_own _ (List.mem_of_getElem? (i := 4) rfl)) rfl rfl rfl rfl rfl (Nat.le_of_ble_eq_true rfl) rfl dX4_init_9 rfl ?_
  refine g_aload_n (np := 13) h 0 rfl rfl dX4_init_12 rfl ?_
  refine g_sipush (np := 16) (v := (1024 : Int32)) h (by decide) dX4_init_13 rfl ?_
  refine g_newa (np := 18) (N := 1024) (k' := 2) (n' := 1034) h (imX4_init_own _ (List.mem_of_getElem? (i := 3) rfl)) (by decide) (by decide) rfl rfl rfl rfl dX4_init_16 rfl (fun q2 => ?_)
  refine g_wd (Wd' := [(q0, .inr (4, [.ref q1, .null, .null, .int (0 : Int32)])), (q1, .inl (cI, 10, .inl (fun _ => 0))), (q2, .inl (cI, 1024, .inl (fun _ => 0)))]) rfl ?_
  refine g_putF (np := 21) (T := TX4) (Wd' := [(q0, .inr (4, [.ref q1, .ref q2, .null, .int (0 : Int32)])), (q1, .inl (cI, 10, .inl (fun _ => 0))), (q2, .inl (cI, 1024, .inl (fun _ => 0)))]) h imX4_init_u_X4 tyX4_ok nmX4 0 4 rfl rfl 1 (by decide) (imX4_init_own _ (List.mem_of_getElem? (i := 5) rfl)) rfl rfl rfl rfl rfl (Nat.le_of_ble_eq_true rfl) rfl dX4_init_18 rfl ?_
  refine g_aload_n (np := 22) h 0 rfl rfl dX4_init_21 rfl ?_
  refine g_sipush (np := 25) (v := (1024 : Int32)) h (by decide) dX4_init_22 rfl ?_
  refine g_newa (np := 27) (N := 1024) (k' := 3) (n' := 2058) h (imX4_init_own _ (List.mem_of_getElem? (i := 3) rfl)) (by decide) (by decide) rfl rfl rfl rfl dX4_init_25 rfl (fun q3 => ?_)
  refine g_wd (Wd' := [(q0, .inr (4, [.ref q1, .ref q2, .null, .int (0 : Int32)])), (q1, .inl (cI, 10, .inl (fun _ => 0))), (q2, .inl (cI, 1024, .inl (fun _ => 0))), (q3, .inl (cI, 1024, .inl (fun _ => 0)))]) rfl ?_
  refine g_putF (np := 30) (T := TX4) (Wd' := [(q0, .inr (4, [.ref q1, .ref q2, .ref q3, .int (0 : Int32)])), (q1, .inl (cI, 10, .inl (fun _ => 0))), (q2, .inl (cI, 1024, .inl (fun _ => 0))), (q3, .inl (cI, 1024, .inl (fun _ => 0)))]) h imX4_init_u_X4 tyX4_ok nmX4 0 4 rfl rfl 2 (by decide) (imX4_init_own _ (List.mem_of_getElem? (i := 6) rfl)) rfl rfl rfl rfl rfl (Nat.le_of_ble_eq_true rfl) rfl dX4_init_27 rfl ?_
  refine g_aload_n (np := 31) h 0 rfl rfl dX4_init_30 rfl ?_
  refine g_iconst (np := 32) (v := (0 : Int32)) h (by decide) dX4_init_31 rfl ?_
  refine g_put (np := 35) (T := TX4) (Wd' := [(q0, .inr (4, [.ref q1, .ref q2, .ref q3, .int (0 : Int32)])), (q1, .inl (cI, 10, .inl (fun _ => 0))), (q2, .inl (cI, 1024, .inl (fun _ => 0))), (q3, .inl (cI, 1024, .inl (fun _ => 0)))]) h imX4_init_u_X4 tyX4_ok nmX4 0 4 rfl rfl 3 (by decide) (imX4_init_own _ (List.mem_of_getElem? (i := 7) rfl)) rfl rfl rfl (Nat.le_of_ble_eq_true rfl) rfl dX4_init_32 rfl ?_
  exact hend0 (fun k => ([q1, q2, q3] : List Nat).getD k 0) _ _ dX4_init_35
theorem dX6_init_0 : decode cX6_init 0 = .ok (.aload_n 0, 1) := by decide +kernel
theorem dX6_init_1 : decode cX6_init 1 = .ok (.invokespecial 3, 3) := by decide +kernel
theorem dX6_init_4 : decode cX6_init 4 = .ok (.aload_n 0, 1) := by decide +kernel
theorem dX6_init_5 : decode cX6_init 5 = .ok (.bipush 8, 2) := by decide +kernel
theorem dX6_init_7 : decode cX6_init 7 = .ok (.newarray .int, 2) := by decide +kernel
theorem dX6_init_9 : decode cX6_init 9 = .ok (.putfield 9, 3) := by decide +kernel
theorem dX6_init_12 : decode cX6_init 12 = .ok (.aload_n 0, 1) := by decide +kernel
theorem dX6_init_13 : decode cX6_init 13 = .ok (.bipush 8, 2) := by decide +kernel
theorem dX6_init_15 : decode cX6_init 15 = .ok (.newarray .int, 2) := by decide +kernel
theorem dX6_init_17 : decode cX6_init 17 = .ok (.putfield 15, 3) := by decide +kernel
theorem dX6_init_20 : decode cX6_init 20 = .ok (.aload_n 0, 1) := by decide +kernel
theorem dX6_init_21 : decode cX6_init 21 = .ok (.bipush 8, 2) := by decide +kernel
theorem dX6_init_23 : decode cX6_init 23 = .ok (.newarray .int, 2) := by decide +kernel
theorem dX6_init_25 : decode cX6_init 25 = .ok (.putfield 18, 3) := by decide +kernel
theorem dX6_init_28 : decode cX6_init 28 = .ok (.aload_n 0, 1) := by decide +kernel
theorem dX6_init_29 : decode cX6_init 29 = .ok (.iconst 0, 1) := by decide +kernel
theorem dX6_init_30 : decode cX6_init 30 = .ok (.putfield 21, 3) := by decide +kernel
theorem dX6_init_33 : decode cX6_init 33 = .ok (.return_, 1) := by decide +kernel
def wtX6_init : List Cond := .code yX6_init cX6_init 1 none :: (([.methodLink RX6 3 objectInit, .instanceMethod objectInit, .code objectInit ⟨#[0xb1]⟩ 1 none, .arrayClass .int, .fieldLink RX6 9 "DriftKin$Sights" "house" "[I", .fieldLink RX6 15 "DriftKin$Sights" "reach" "[I", .fieldLink RX6 18 "DriftKin$Sights" "sounded" "[I", .fieldLink RX6 21 "DriftKin$Sights" "count" "I"]) ++ ((u_ws RX6 TX6 4) ++ []))
theorem imX6_init_own : ∀ w ∈ ([.methodLink RX6 3 objectInit, .instanceMethod objectInit, .code objectInit ⟨#[0xb1]⟩ 1 none, .arrayClass .int, .fieldLink RX6 9 "DriftKin$Sights" "house" "[I", .fieldLink RX6 15 "DriftKin$Sights" "reach" "[I", .fieldLink RX6 18 "DriftKin$Sights" "sounded" "[I", .fieldLink RX6 21 "DriftKin$Sights" "count" "I"] : List Cond), w ∈ wtX6_init := fun w h => List.mem_cons_of_mem _ (inl h)
theorem imX6_init_u_X6 : ∀ w ∈ (u_ws RX6 TX6 4 : List Cond), w ∈ wtX6_init := fun w h => List.mem_cons_of_mem _ (inr (inl h))
theorem gdX6_init : ∀ w ∈ wtX6_init, Gd w := gdc rfl (gda (gdl (by decide +kernel)) (gda (gdu _ _ _) gdn))
def fX6_init : Option (Unit) :=
  some ()
def icX6_init (cI cZ : ClassId) (h0 : Nat) (u : Nat → Nat)  : va_W := [(h0, .inr (6, [.ref (u 0), .ref (u 1), .ref (u 2), .int (0 : Int32)])), (u 0, .inl (cI, 8, .inl (fun _ => 0))), (u 1, .inl (cI, 8, .inl (fun _ => 0))), (u 2, .inl (cI, 8, .inl (fun _ => 0)))]
abbrev rmX6_init : Jvm.Room := { frames := 1, cells := 3, slots := 24, locals := 12 }
theorem hyX6_init : yX6_init.cls ≠ "java/lang/invoke/MethodHandle" ∧ yX6_init.cls ≠ "java/lang/invoke/VarHandle" ∧ (parseMethodDescriptor yX6_init.desc).map (fun d => d.parameters.length) = some 0 := by decide +kernel
set_option maxHeartbeats 4000000 in
set_option maxRecDepth 100000 in
theorem mX6_init (l : Launch) (D : va_G) (cI cZ : ClassId) (q0 : Nat) (z : Unit) (hF : fX6_init = some z) : mpC l yX6_init wtX6_init rmX6_init D cI cZ [.ref q0] [(q0, .inr (6, [.null, .null, .null, .int 0]))] none (fun u => icX6_init cI cZ q0 u) 3 24 := by
  refine mp_c (lv0 := [(0, .ref q0)]) cX6_init 1 (by decide) rfl (Nat.le_of_ble_eq_true rfl) rfl (fun E h hend0 => ?_)
  unfold fX6_init at hF
  refine g_aload_n (np := 1) h 0 rfl rfl dX6_init_0 rfl ?_
  refine g_objI (np := 4) h (imX6_init_own _ (List.mem_of_getElem? (i := 0) rfl)) (imX6_init_own _ (List.mem_of_getElem? (i := 1) rfl)) (imX6_init_own _ (List.mem_of_getElem? (i := 2) rfl)) rfl rfl dX6_init_1 rfl ?_
  refine g_aload_n (np := 5) h 0 rfl rfl dX6_init_4 rfl ?_
  refine g_bipush (np := 7) (v := (8 : Int32)) h (by decide) dX6_init_5 rfl ?_
  refine g_newa (np := 9) (N := 8) (k' := 1) (n' := 8) h (imX6_init_own _ (List.mem_of_getElem? (i := 3) rfl)) (by decide) (by decide) rfl rfl rfl rfl dX6_init_7 rfl (fun q1 => ?_)
  refine g_wd (Wd' := [(q0, .inr (6, [.null, .null, .null, .int (0 : Int32)])), (q1, .inl (cI, 8, .inl (fun _ => 0)))]) rfl ?_
  refine g_putF (np := 12) (T := TX6) (Wd' := [(q0, .inr (6, [.ref q1, .null, .null, .int (0 : Int32)])), (q1, .inl (cI, 8, .inl (fun _ => 0)))]) h imX6_init_u_X6 tyX6_ok nmX6 0 6 rfl rfl 0 (by decide) (imX6_init_own _ (List.mem_of_getElem? (i := 4) rfl)) rfl rfl rfl rfl rfl (Nat.le_of_ble_eq_true rfl) rfl dX6_init_9 rfl ?_
  refine g_aload_n (np := 13) h 0 rfl rfl dX6_init_12 rfl ?_
  refine g_bipush (np := 15) (v := (8 : Int32)) h (by decide) dX6_init_13 rfl ?_
  refine g_newa (np := 17) (N := 8) (k' := 2) (n' := 16) h (imX6_init_own _ (List.mem_of_getElem? (i := 3) rfl)) (by decide) (by decide) rfl rfl rfl rfl dX6_init_15 rfl (fun q2 => ?_)
  refine g_wd (Wd' := [(q0, .inr (6, [.ref q1, .null, .null, .int (0 : Int32)])), (q1, .inl (cI, 8, .inl (fun _ => 0))), (q2, .inl (cI, 8, .inl (fun _ => 0)))]) rfl ?_
  refine g_putF (np := 20) (T := TX6) (Wd' := [(q0, .inr (6, [.ref q1, .ref q2, .null, .int (0 : Int32)])), (q1, .inl (cI, 8, .inl (fun _ => 0))), (q2, .inl (cI, 8, .inl (fun _ => 0)))]) h imX6_init_u_X6 tyX6_ok nmX6 0 6 rfl rfl 1 (by decide) (imX6_init_own _ (List.mem_of_getElem? (i := 5) rfl)) rfl rfl rfl rfl rfl (Nat.le_of_ble_eq_true rfl) rfl dX6_init_17 rfl ?_
  refine g_aload_n (np := 21) h 0 rfl rfl dX6_init_20 rfl ?_
  refine g_bipush (np := 23) (v := (8 : Int32)) h (by decide) dX6_init_21 rfl ?_
  refine g_newa (np := 25) (N := 8) (k' := 3) (n' := 24) h (imX6_init_own _ (List.mem_of_getElem? (i := 3) rfl)) (by decide) (by decide) rfl rfl rfl rfl dX6_init_23 rfl (fun q3 => ?_)
  refine g_wd (Wd' := [(q0, .inr (6, [.ref q1, .ref q2, .null, .int (0 : Int32)])), (q1, .inl (cI, 8, .inl (fun _ => 0))), (q2, .inl (cI, 8, .inl (fun _ => 0))), (q3, .inl (cI, 8, .inl (fun _ => 0)))]) rfl ?_
  refine g_putF (np := 28) (T := TX6) (Wd' := [(q0, .inr (6, [.ref q1, .ref q2, .ref q3, .int (0 : Int32)])), (q1, .inl (cI, 8, .inl (fun _ => 0))), (q2, .inl (cI, 8, .inl (fun _ => 0))), (q3, .inl (cI, 8, .inl (fun _ => 0)))]) h imX6_init_u_X6 tyX6_ok nmX6 0 6 rfl rfl 2 (by decide) (imX6_init_own _ (List.mem_of_getElem? (i := 6) rfl)) rfl rfl rfl rfl rfl (Nat.le_of_ble_eq_true rfl) rfl dX6_init_25 rfl ?_
  refine g_aload_n (np := 29) h 0 rfl rfl dX6_init_28 rfl ?_
  refine g_iconst (np := 30) (v := (0 : Int32)) h (by decide) dX6_init_29 rfl ?_
  refine g_put (np := 33) (T := TX6) (Wd' := [(q0, .inr (6, [.ref q1, .ref q2, .ref q3, .int (0 : Int32)])), (q1, .inl (cI, 8, .inl (fun _ => 0))), (q2, .inl (cI, 8, .inl (fun _ => 0))), (q3, .inl (cI, 8, .inl (fun _ => 0)))]) h imX6_init_u_X6 tyX6_ok nmX6 0 6 rfl rfl 3 (by decide) (imX6_init_own _ (List.mem_of_getElem? (i := 7) rfl)) rfl rfl rfl (Nat.le_of_ble_eq_true rfl) rfl dX6_init_30 rfl ?_
  exact hend0 (fun k => ([q1, q2, q3] : List Nat).getD k 0) _ _ dX6_init_33
theorem dX5_init_0 : decode cX5_init 0 = .ok (.aload_n 0, 1) := by decide +kernel
theorem dX5_init_1 : decode cX5_init 1 = .ok (.invokespecial 3, 3) := by decide +kernel
theorem dX5_init_4 : decode cX5_init 4 = .ok (.aload_n 0, 1) := by decide +kernel
theorem dX5_init_5 : decode cX5_init 5 = .ok (.new 9, 3) := by decide +kernel
theorem dX5_init_8 : decode cX5_init 8 = .ok (.dup, 1) := by decide +kernel
theorem dX5_init_9 : decode cX5_init 9 = .ok (.invokespecial 11, 3) := by decide +kernel
theorem dX5_init_12 : decode cX5_init 12 = .ok (.putfield 12, 3) := by decide +kernel
theorem dX5_init_15 : decode cX5_init 15 = .ok (.aload_n 0, 1) := by decide +kernel
theorem dX5_init_16 : decode cX5_init 16 = .ok (.new 18, 3) := by decide +kernel
theorem dX5_init_19 : decode cX5_init 19 = .ok (.dup, 1) := by decide +kernel
theorem dX5_init_20 : decode cX5_init 20 = .ok (.invokespecial 20, 3) := by decide +kernel
theorem dX5_init_23 : decode cX5_init 23 = .ok (.putfield 21, 3) := by decide +kernel
theorem dX5_init_26 : decode cX5_init 26 = .ok (.aload_n 0, 1) := by decide +kernel
theorem dX5_init_27 : decode cX5_init 27 = .ok (.new 25, 3) := by decide +kernel
theorem dX5_init_30 : decode cX5_init 30 = .ok (.dup, 1) := by decide +kernel
theorem dX5_init_31 : decode cX5_init 31 = .ok (.invokespecial 27, 3) := by decide +kernel
theorem dX5_init_34 : decode cX5_init 34 = .ok (.putfield 28, 3) := by decide +kernel
theorem dX5_init_37 : decode cX5_init 37 = .ok (.aload_n 0, 1) := by decide +kernel
theorem dX5_init_38 : decode cX5_init 38 = .ok (.iconst 0, 1) := by decide +kernel
theorem dX5_init_39 : decode cX5_init 39 = .ok (.putfield 32, 3) := by decide +kernel
theorem dX5_init_42 : decode cX5_init 42 = .ok (.return_, 1) := by decide +kernel
def wtX5_init : List Cond := .code yX5_init cX5_init 1 none :: (([.methodLink RX5 3 objectInit, .instanceMethod objectInit, .code objectInit ⟨#[0xb1]⟩ 1 none, .classLink RX5 9 RX3, .instantiable RX3 7, .initialized RX3, .instanceMethod yX3_init, .methodLink RX5 11 yX3_init, .fieldLink RX5 12 "DriftKin$Shore" "pieces" "LDriftKin$Pieces;", .classLink RX5 18 RX0, .instantiable RX0 3, .initialized RX0, .instanceMethod yX0_init, .methodLink RX5 20 yX0_init, .fieldLink RX5 21 "DriftKin$Shore" "houses" "LDriftKin$Houses;", .classLink RX5 25 RX6, .instantiable RX6 4, .initialized RX6, .instanceMethod yX6_init, .fieldLink RX5 28 "DriftKin$Shore" "sights" "LDriftKin$Sights;", .fieldLink RX5 32 "DriftKin$Shore" "year" "I"]) ++ ((u_ws RX0 TX0 3) ++ ((u_ws RX3 TX3 7) ++ ((u_ws RX5 TX5 4) ++ ((u_ws RX6 TX6 4) ++ ((wtX3_init) ++ ((wtX0_init) ++ ((wtX6_init) ++ []))))))))
theorem imX5_init_own : ∀ w ∈ ([.methodLink RX5 3 objectInit, .instanceMethod objectInit, .code objectInit ⟨#[0xb1]⟩ 1 none, .classLink RX5 9 RX3, .instantiable RX3 7, .initialized RX3, .instanceMethod yX3_init, .methodLink RX5 11 yX3_init, .fieldLink RX5 12 "DriftKin$Shore" "pieces" "LDriftKin$Pieces;", .classLink RX5 18 RX0, .instantiable RX0 3, .initialized RX0, .instanceMethod yX0_init, .methodLink RX5 20 yX0_init, .fieldLink RX5 21 "DriftKin$Shore" "houses" "LDriftKin$Houses;", .classLink RX5 25 RX6, .instantiable RX6 4, .initialized RX6, .instanceMethod yX6_init, .fieldLink RX5 28 "DriftKin$Shore" "sights" "LDriftKin$Sights;", .fieldLink RX5 32 "DriftKin$Shore" "year" "I"] : List Cond), w ∈ wtX5_init := fun w h => List.mem_cons_of_mem _ (inl h)
theorem imX5_init_u_X0 : ∀ w ∈ (u_ws RX0 TX0 3 : List Cond), w ∈ wtX5_init := fun w h => List.mem_cons_of_mem _ (inr (inl h))
theorem imX5_init_u_X3 : ∀ w ∈ (u_ws RX3 TX3 7 : List Cond), w ∈ wtX5_init := fun w h => List.mem_cons_of_mem _ (inr (inr (inl h)))
theorem imX5_init_u_X5 : ∀ w ∈ (u_ws RX5 TX5 4 : List Cond), w ∈ wtX5_init := fun w h => List.mem_cons_of_mem _ (inr (inr (inr (inl h))))
theorem imX5_init_u_X6 : ∀ w ∈ (u_ws RX6 TX6 4 : List Cond), w ∈ wtX5_init := fun w h => List.mem_cons_of_mem _ (inr (inr (inr (inr (inl h)))))
theorem imX5_init_c_X3_init : ∀ w ∈ (wtX3_init : List Cond), w ∈ wtX5_init := fun w h => List.mem_cons_of_mem _ (inr (inr (inr (inr (inr (inl h))))))
theorem imX5_init_c_X0_init : ∀ w ∈ (wtX0_init : List Cond), w ∈ wtX5_init := fun w h => List.mem_cons_of_mem _ (inr (inr (inr (inr (inr (inr (inl h)))))))
theorem imX5_init_c_X6_init : ∀ w ∈ (wtX6_init : List Cond), w ∈ wtX5_init := fun w h => List.mem_cons_of_mem _ (inr (inr (inr (inr (inr (inr (inr (inl h))))))))
theorem gdX5_init : ∀ w ∈ wtX5_init, Gd w := gdc rfl (gda (gdl (by decide +kernel)) (gda (gdu _ _ _) (gda (gdu _ _ _) (gda (gdu _ _ _) (gda (gdu _ _ _) (gda gdX3_init (gda gdX0_init (gda gdX6_init gdn))))))))
theorem gcX5_init_X3_init : GoodIn wtX5_init (wtX3_init) := fun w h => ⟨imX5_init_c_X3_init w h, gdX3_init w h⟩
theorem gcX5_init_X0_init : GoodIn wtX5_init (wtX0_init) := fun w h => ⟨imX5_init_c_X0_init w h, gdX0_init w h⟩
theorem gcX5_init_X6_init : GoodIn wtX5_init (wtX6_init) := fun w h => ⟨imX5_init_c_X6_init w h, gdX6_init w h⟩
def fX5_init : Option ((Nat → Int32) × (Nat → Int32) × (Nat → Int32) × (Nat → Int32)) :=
  (fX3_init).bind (fun z1 =>
    (fX0_init).bind (fun z9 =>
      some (z1.1, z1.2, z9.1, z9.2)))
def icX5_init (cI cZ : ClassId) (h0 : Nat) (u : Nat → Nat) (r0 : Nat → Int32) (r1 : Nat → Int32) (r2 : Nat → Int32) (r3 : Nat → Int32) : va_W := [(h0, .inr (5, [.ref (u 0), .ref (u 8), .ref (u 12), .int (0 : Int32)]))] ++ icX3_init cI cZ (u 0) (fun j => u (1 + j)) r0 r1 ++ icX0_init cI cZ (u 8) (fun j => u (9 + j)) r2 r3 ++ icX6_init cI cZ (u 12) (fun j => u (13 + j))
abbrev rmX5_init : Jvm.Room := { frames := 2, cells := 16, slots := 132, locals := 43 }
theorem hyX5_init : yX5_init.cls ≠ "java/lang/invoke/MethodHandle" ∧ yX5_init.cls ≠ "java/lang/invoke/VarHandle" ∧ (parseMethodDescriptor yX5_init.desc).map (fun d => d.parameters.length) = some 0 := by decide +kernel
set_option maxHeartbeats 4000000 in
set_option maxRecDepth 100000 in
theorem mX5_init (l : Launch) (D : va_G) (cI cZ : ClassId) (q0 : Nat) (z : (Nat → Int32) × (Nat → Int32) × (Nat → Int32) × (Nat → Int32)) (hF : fX5_init = some z) : mpC l yX5_init wtX5_init rmX5_init D cI cZ [.ref q0] [(q0, .inr (5, [.null, .null, .null, .int 0]))] none (fun u => icX5_init cI cZ q0 u z.1 z.2.1 z.2.2.1 z.2.2.2) 16 132 := by
  refine mp_c (lv0 := [(0, .ref q0)]) cX5_init 1 (by decide) rfl (Nat.le_of_ble_eq_true rfl) rfl (fun E h hend0 => ?_)
  unfold fX5_init at hF
  refine g_aload_n (np := 1) h 0 rfl rfl dX5_init_0 rfl ?_
  refine g_objI (np := 4) h (imX5_init_own _ (List.mem_of_getElem? (i := 0) rfl)) (imX5_init_own _ (List.mem_of_getElem? (i := 1) rfl)) (imX5_init_own _ (List.mem_of_getElem? (i := 2) rfl)) rfl rfl dX5_init_1 rfl ?_
  refine g_aload_n (np := 5) h 0 rfl rfl dX5_init_4 rfl ?_
  refine g_new (np := 8) (T := TX3) (k' := 1) (n' := 7) h imX5_init_u_X3 tyX3_ok (imX5_init_own _ (List.mem_of_getElem? (i := 3) rfl)) (imX5_init_own _ (List.mem_of_getElem? (i := 4) rfl)) (imX5_init_own _ (List.mem_of_getElem? (i := 5) rfl)) 3 rfl dfX3 rfl rfl rfl dX5_init_5 rfl (fun q1 => ?_)
  refine g_dup (np := 9) h rfl dX5_init_8 rfl ?_
  obtain ⟨z1, hz1, hF⟩ := Option.bind_eq_some_iff.mp hF
  refine g_callI (np := 12) (Wr := [(q0, .inr (5, [.null, .null, .null, .int (0 : Int32)]))]) (k' := 8) (n' := 77) h (mX3_init l D cI cZ q1 z1 hz1) gcX5_init_X3_init rfl ⟨rfl, rfl⟩ (imX5_init_own _ (List.mem_of_getElem? (i := 7) rfl)) (imX5_init_own _ (List.mem_of_getElem? (i := 5) rfl)) (imX5_init_own _ (List.mem_of_getElem? (i := 6) rfl)) rfl hyX3_init rfl rfl rfl rfl rfl rfl dX5_init_9 rfl (fun u1 => ?_)
  refine g_wd (Wd' := ([(q0, .inr (5, [.null, .null, .null, .int (0 : Int32)]))] ++ (icX3_init cI cZ q1 u1 z1.1 z1.2))) rfl ?_
  refine g_putF (np := 15) (T := TX5) (Wd' := ([(q0, .inr (5, [.ref q1, .null, .null, .int (0 : Int32)]))] ++ (icX3_init cI cZ q1 u1 z1.1 z1.2))) h imX5_init_u_X5 tyX5_ok nmX5 0 5 rfl rfl 0 (by decide) (imX5_init_own _ (List.mem_of_getElem? (i := 8) rfl)) rfl rfl rfl rfl rfl (Nat.le_of_ble_eq_true rfl) rfl dX5_init_12 rfl ?_
  refine g_aload_n (np := 16) h 0 rfl rfl dX5_init_15 rfl ?_
  refine g_new (np := 19) (T := TX0) (k' := 9) (n' := 80) h imX5_init_u_X0 tyX0_ok (imX5_init_own _ (List.mem_of_getElem? (i := 9) rfl)) (imX5_init_own _ (List.mem_of_getElem? (i := 10) rfl)) (imX5_init_own _ (List.mem_of_getElem? (i := 11) rfl)) 0 rfl dfX0 rfl rfl rfl dX5_init_16 rfl (fun q9 => ?_)
  refine g_dup (np := 20) h rfl dX5_init_19 rfl ?_
  obtain ⟨z9, hz9, hF⟩ := Option.bind_eq_some_iff.mp hF
  refine g_callI (np := 23) (Wr := ([(q0, .inr (5, [.ref q1, .null, .null, .int (0 : Int32)]))] ++ (icX3_init cI cZ q1 u1 z1.1 z1.2))) (k' := 12) (n' := 104) h (mX0_init l D cI cZ q9 z9 hz9) gcX5_init_X0_init rfl ⟨rfl, rfl⟩ (imX5_init_own _ (List.mem_of_getElem? (i := 13) rfl)) (imX5_init_own _ (List.mem_of_getElem? (i := 11) rfl)) (imX5_init_own _ (List.mem_of_getElem? (i := 12) rfl)) rfl hyX0_init rfl rfl rfl rfl rfl rfl dX5_init_20 rfl (fun u9 => ?_)
  refine g_wd (Wd' := (([(q0, .inr (5, [.ref q1, .null, .null, .int (0 : Int32)]))] ++ (icX3_init cI cZ q1 u1 z1.1 z1.2)) ++ (icX0_init cI cZ q9 u9 z9.1 z9.2))) rfl ?_
  refine g_putF (np := 26) (T := TX5) (Wd' := (([(q0, .inr (5, [.ref q1, .ref q9, .null, .int (0 : Int32)]))] ++ (icX3_init cI cZ q1 u1 z1.1 z1.2)) ++ (icX0_init cI cZ q9 u9 z9.1 z9.2))) h imX5_init_u_X5 tyX5_ok nmX5 0 5 rfl rfl 1 (by decide) (imX5_init_own _ (List.mem_of_getElem? (i := 14) rfl)) rfl rfl rfl rfl rfl (Nat.le_of_ble_eq_true rfl) rfl dX5_init_23 rfl ?_
  refine g_aload_n (np := 27) h 0 rfl rfl dX5_init_26 rfl ?_
  refine g_new (np := 30) (T := TX6) (k' := 13) (n' := 108) h imX5_init_u_X6 tyX6_ok (imX5_init_own _ (List.mem_of_getElem? (i := 15) rfl)) (imX5_init_own _ (List.mem_of_getElem? (i := 16) rfl)) (imX5_init_own _ (List.mem_of_getElem? (i := 17) rfl)) 6 rfl dfX6 rfl rfl rfl dX5_init_27 rfl (fun q13 => ?_)
  refine g_dup (np := 31) h rfl dX5_init_30 rfl ?_
  refine g_callIN (np := 34) (Wr := (([(q0, .inr (5, [.ref q1, .ref q9, .null, .int (0 : Int32)]))] ++ (icX3_init cI cZ q1 u1 z1.1 z1.2)) ++ (icX0_init cI cZ q9 u9 z9.1 z9.2))) (k' := 16) (n' := 132) h (mX6_init l D cI cZ q13 () rfl) gcX5_init_X6_init rfl ⟨rfl, rfl⟩ (List.mem_of_getElem? (i := 3) rfl) (imX5_init_own _ (List.mem_of_getElem? (i := 17) rfl)) (imX5_init_own _ (List.mem_of_getElem? (i := 18) rfl)) rfl hyX6_init rfl rfl rfl rfl rfl rfl dX5_init_31 rfl (fun u13 => ?_)
  refine g_wd (Wd' := ((([(q0, .inr (5, [.ref q1, .ref q9, .null, .int (0 : Int32)]))] ++ (icX3_init cI cZ q1 u1 z1.1 z1.2)) ++ (icX0_init cI cZ q9 u9 z9.1 z9.2)) ++ (icX6_init cI cZ q13 u13))) rfl ?_
  refine g_putF (np := 37) (T := TX5) (Wd' := ((([(q0, .inr (5, [.ref q1, .ref q9, .ref q13, .int (0 : Int32)]))] ++ (icX3_init cI cZ q1 u1 z1.1 z1.2)) ++ (icX0_init cI cZ q9 u9 z9.1 z9.2)) ++ (icX6_init cI cZ q13 u13))) h imX5_init_u_X5 tyX5_ok nmX5 0 5 rfl rfl 2 (by decide) (imX5_init_own _ (List.mem_of_getElem? (i := 19) rfl)) rfl rfl rfl rfl rfl (Nat.le_of_ble_eq_true rfl) rfl dX5_init_34 rfl ?_
  refine g_aload_n (np := 38) h 0 rfl rfl dX5_init_37 rfl ?_
  refine g_iconst (np := 39) (v := (0 : Int32)) h (by decide) dX5_init_38 rfl ?_
  refine g_put (np := 42) (T := TX5) (Wd' := ((([(q0, .inr (5, [.ref q1, .ref q9, .ref q13, .int (0 : Int32)]))] ++ (icX3_init cI cZ q1 u1 z1.1 z1.2)) ++ (icX0_init cI cZ q9 u9 z9.1 z9.2)) ++ (icX6_init cI cZ q13 u13))) h imX5_init_u_X5 tyX5_ok nmX5 0 5 rfl rfl 3 (by decide) (imX5_init_own _ (List.mem_of_getElem? (i := 20) rfl)) rfl rfl rfl (Nat.le_of_ble_eq_true rfl) rfl dX5_init_39 rfl ?_
  cases hF
  exact hend0 (fun k => ([q1, (u1 0), (u1 1), (u1 2), (u1 3), (u1 4), (u1 5), (u1 6), q9, (u9 0), (u9 1), (u9 2), q13, (u13 0), (u13 1), (u13 2)] : List Nat).getD k 0) _ _ dX5_init_42
theorem dX7_init_0 : decode cX7_init 0 = .ok (.aload_n 0, 1) := by decide +kernel
theorem dX7_init_1 : decode cX7_init 1 = .ok (.invokespecial 3, 3) := by decide +kernel
theorem dX7_init_4 : decode cX7_init 4 = .ok (.aload_n 0, 1) := by decide +kernel
theorem dX7_init_5 : decode cX7_init 5 = .ok (.new 9, 3) := by decide +kernel
theorem dX7_init_8 : decode cX7_init 8 = .ok (.dup, 1) := by decide +kernel
theorem dX7_init_9 : decode cX7_init 9 = .ok (.invokespecial 11, 3) := by decide +kernel
theorem dX7_init_12 : decode cX7_init 12 = .ok (.putfield 12, 3) := by decide +kernel
theorem dX7_init_15 : decode cX7_init 15 = .ok (.aload_n 0, 1) := by decide +kernel
theorem dX7_init_16 : decode cX7_init 16 = .ok (.iconst 0, 1) := by decide +kernel
theorem dX7_init_17 : decode cX7_init 17 = .ok (.putfield 18, 3) := by decide +kernel
theorem dX7_init_20 : decode cX7_init 20 = .ok (.aload_n 0, 1) := by decide +kernel
theorem dX7_init_21 : decode cX7_init 21 = .ok (.iconst 0, 1) := by decide +kernel
theorem dX7_init_22 : decode cX7_init 22 = .ok (.putfield 22, 3) := by decide +kernel
theorem dX7_init_25 : decode cX7_init 25 = .ok (.aload_n 0, 1) := by decide +kernel
theorem dX7_init_26 : decode cX7_init 26 = .ok (.iconst 0, 1) := by decide +kernel
theorem dX7_init_27 : decode cX7_init 27 = .ok (.putfield 25, 3) := by decide +kernel
theorem dX7_init_30 : decode cX7_init 30 = .ok (.return_, 1) := by decide +kernel
def wtX7_init : List Cond := .code yX7_init cX7_init 1 none :: (([.methodLink RX7 3 objectInit, .instanceMethod objectInit, .code objectInit ⟨#[0xb1]⟩ 1 none, .classLink RX7 9 RX5, .instantiable RX5 4, .initialized RX5, .instanceMethod yX5_init, .fieldLink RX7 12 "DriftKin$Years" "end" "LDriftKin$Shore;", .fieldLink RX7 18 "DriftKin$Years" "acts" "I", .fieldLink RX7 22 "DriftKin$Years" "why" "I", .fieldLink RX7 25 "DriftKin$Years" "weddings" "I"]) ++ ((u_ws RX5 TX5 4) ++ ((u_ws RX7 TX7 4) ++ ((wtX5_init) ++ []))))
theorem imX7_init_own : ∀ w ∈ ([.methodLink RX7 3 objectInit, .instanceMethod objectInit, .code objectInit ⟨#[0xb1]⟩ 1 none, .classLink RX7 9 RX5, .instantiable RX5 4, .initialized RX5, .instanceMethod yX5_init, .fieldLink RX7 12 "DriftKin$Years" "end" "LDriftKin$Shore;", .fieldLink RX7 18 "DriftKin$Years" "acts" "I", .fieldLink RX7 22 "DriftKin$Years" "why" "I", .fieldLink RX7 25 "DriftKin$Years" "weddings" "I"] : List Cond), w ∈ wtX7_init := fun w h => List.mem_cons_of_mem _ (inl h)
theorem imX7_init_u_X5 : ∀ w ∈ (u_ws RX5 TX5 4 : List Cond), w ∈ wtX7_init := fun w h => List.mem_cons_of_mem _ (inr (inl h))
theorem imX7_init_u_X7 : ∀ w ∈ (u_ws RX7 TX7 4 : List Cond), w ∈ wtX7_init := fun w h => List.mem_cons_of_mem _ (inr (inr (inl h)))
theorem imX7_init_c_X5_init : ∀ w ∈ (wtX5_init : List Cond), w ∈ wtX7_init := fun w h => List.mem_cons_of_mem _ (inr (inr (inr (inl h))))
theorem gdX7_init : ∀ w ∈ wtX7_init, Gd w := gdc rfl (gda (gdl (by decide +kernel)) (gda (gdu _ _ _) (gda (gdu _ _ _) (gda gdX5_init gdn))))
theorem gcX7_init_X5_init : GoodIn wtX7_init (wtX5_init) := fun w h => ⟨imX7_init_c_X5_init w h, gdX5_init w h⟩
def fX7_init : Option ((Nat → Int32) × (Nat → Int32) × (Nat → Int32) × (Nat → Int32)) :=
  (fX5_init).bind (fun z1 =>
    some (z1.1, z1.2.1, z1.2.2.1, z1.2.2.2))
def icX7_init (cI cZ : ClassId) (h0 : Nat) (u : Nat → Nat) (r0 : Nat → Int32) (r1 : Nat → Int32) (r2 : Nat → Int32) (r3 : Nat → Int32) : va_W := [(h0, .inr (7, [.ref (u 0), .int (0 : Int32), .int (0 : Int32), .int (0 : Int32)]))] ++ icX5_init cI cZ (u 0) (fun j => u (1 + j)) r0 r1 r2 r3
abbrev rmX7_init : Jvm.Room := { frames := 3, cells := 17, slots := 136, locals := 63 }
theorem hyX7_init : yX7_init.cls ≠ "java/lang/invoke/MethodHandle" ∧ yX7_init.cls ≠ "java/lang/invoke/VarHandle" ∧ (parseMethodDescriptor yX7_init.desc).map (fun d => d.parameters.length) = some 0 := by decide +kernel
set_option maxHeartbeats 4000000 in
set_option maxRecDepth 100000 in
theorem mX7_init (l : Launch) (D : va_G) (cI cZ : ClassId) (q0 : Nat) (z : (Nat → Int32) × (Nat → Int32) × (Nat → Int32) × (Nat → Int32)) (hF : fX7_init = some z) : mpC l yX7_init wtX7_init rmX7_init D cI cZ [.ref q0] [(q0, .inr (7, [.null, .int 0, .int 0, .int 0]))] none (fun u => icX7_init cI cZ q0 u z.1 z.2.1 z.2.2.1 z.2.2.2) 17 136 := by
  refine mp_c (lv0 := [(0, .ref q0)]) cX7_init 1 (by decide) rfl (Nat.le_of_ble_eq_true rfl) rfl (fun E h hend0 => ?_)
  unfold fX7_init at hF
  refine g_aload_n (np := 1) h 0 rfl rfl dX7_init_0 rfl ?_
  refine g_objI (np := 4) h (imX7_init_own _ (List.mem_of_getElem? (i := 0) rfl)) (imX7_init_own _ (List.mem_of_getElem? (i := 1) rfl)) (imX7_init_own _ (List.mem_of_getElem? (i := 2) rfl)) rfl rfl dX7_init_1 rfl ?_
  refine g_aload_n (np := 5) h 0 rfl rfl dX7_init_4 rfl ?_
  refine g_new (np := 8) (T := TX5) (k' := 1) (n' := 4) h imX7_init_u_X5 tyX5_ok (imX7_init_own _ (List.mem_of_getElem? (i := 3) rfl)) (imX7_init_own _ (List.mem_of_getElem? (i := 4) rfl)) (imX7_init_own _ (List.mem_of_getElem? (i := 5) rfl)) 5 rfl dfX5 rfl rfl rfl dX7_init_5 rfl (fun q1 => ?_)
  refine g_dup (np := 9) h rfl dX7_init_8 rfl ?_
  obtain ⟨z1, hz1, hF⟩ := Option.bind_eq_some_iff.mp hF
  refine g_callIN (np := 12) (Wr := [(q0, .inr (7, [.null, .int (0 : Int32), .int (0 : Int32), .int (0 : Int32)]))]) (k' := 17) (n' := 136) h (mX5_init l D cI cZ q1 z1 hz1) gcX7_init_X5_init rfl ⟨rfl, rfl⟩ (List.mem_of_getElem? (i := 6) rfl) (imX7_init_own _ (List.mem_of_getElem? (i := 5) rfl)) (imX7_init_own _ (List.mem_of_getElem? (i := 6) rfl)) rfl hyX5_init rfl rfl rfl rfl rfl rfl dX7_init_9 rfl (fun u1 => ?_)
  refine g_wd (Wd' := ([(q0, .inr (7, [.null, .int (0 : Int32), .int (0 : Int32), .int (0 : Int32)]))] ++ (icX5_init cI cZ q1 u1 z1.1 z1.2.1 z1.2.2.1 z1.2.2.2))) rfl ?_
  refine g_putF (np := 15) (T := TX7) (Wd' := ([(q0, .inr (7, [.ref q1, .int (0 : Int32), .int (0 : Int32), .int (0 : Int32)]))] ++ (icX5_init cI cZ q1 u1 z1.1 z1.2.1 z1.2.2.1 z1.2.2.2))) h imX7_init_u_X7 tyX7_ok nmX7 0 7 rfl rfl 0 (by decide) (imX7_init_own _ (List.mem_of_getElem? (i := 7) rfl)) rfl rfl rfl rfl rfl (Nat.le_of_ble_eq_true rfl) rfl dX7_init_12 rfl ?_
  refine g_aload_n (np := 16) h 0 rfl rfl dX7_init_15 rfl ?_
  refine g_iconst (np := 17) (v := (0 : Int32)) h (by decide) dX7_init_16 rfl ?_
  refine g_put (np := 20) (T := TX7) (Wd' := ([(q0, .inr (7, [.ref q1, .int (0 : Int32), .int (0 : Int32), .int (0 : Int32)]))] ++ (icX5_init cI cZ q1 u1 z1.1 z1.2.1 z1.2.2.1 z1.2.2.2))) h imX7_init_u_X7 tyX7_ok nmX7 0 7 rfl rfl 1 (by decide) (imX7_init_own _ (List.mem_of_getElem? (i := 8) rfl)) rfl rfl rfl (Nat.le_of_ble_eq_true rfl) rfl dX7_init_17 rfl ?_
  refine g_aload_n (np := 21) h 0 rfl rfl dX7_init_20 rfl ?_
  refine g_iconst (np := 22) (v := (0 : Int32)) h (by decide) dX7_init_21 rfl ?_
  refine g_put (np := 25) (T := TX7) (Wd' := ([(q0, .inr (7, [.ref q1, .int (0 : Int32), .int (0 : Int32), .int (0 : Int32)]))] ++ (icX5_init cI cZ q1 u1 z1.1 z1.2.1 z1.2.2.1 z1.2.2.2))) h imX7_init_u_X7 tyX7_ok nmX7 0 7 rfl rfl 2 (by decide) (imX7_init_own _ (List.mem_of_getElem? (i := 9) rfl)) rfl rfl rfl (Nat.le_of_ble_eq_true rfl) rfl dX7_init_22 rfl ?_
  refine g_aload_n (np := 26) h 0 rfl rfl dX7_init_25 rfl ?_
  refine g_iconst (np := 27) (v := (0 : Int32)) h (by decide) dX7_init_26 rfl ?_
  refine g_put (np := 30) (T := TX7) (Wd' := ([(q0, .inr (7, [.ref q1, .int (0 : Int32), .int (0 : Int32), .int (0 : Int32)]))] ++ (icX5_init cI cZ q1 u1 z1.1 z1.2.1 z1.2.2.1 z1.2.2.2))) h imX7_init_u_X7 tyX7_ok nmX7 0 7 rfl rfl 3 (by decide) (imX7_init_own _ (List.mem_of_getElem? (i := 10) rfl)) rfl rfl rfl (Nat.le_of_ble_eq_true rfl) rfl dX7_init_27 rfl ?_
  cases hF
  exact hend0 (fun k => ([q1, (u1 0), (u1 1), (u1 2), (u1 3), (u1 4), (u1 5), (u1 6), (u1 7), (u1 8), (u1 9), (u1 10), (u1 11), (u1 12), (u1 13), (u1 14), (u1 15)] : List Nat).getD k 0) _ _ dX7_init_30
theorem dX8_init_0 : decode cX8_init 0 = .ok (.aload_n 0, 1) := by decide +kernel
theorem dX8_init_1 : decode cX8_init 1 = .ok (.invokespecial 1, 3) := by decide +kernel
theorem dX8_init_4 : decode cX8_init 4 = .ok (.aload_n 0, 1) := by decide +kernel
theorem dX8_init_5 : decode cX8_init 5 = .ok (.new 7, 3) := by decide +kernel
theorem dX8_init_8 : decode cX8_init 8 = .ok (.dup, 1) := by decide +kernel
theorem dX8_init_9 : decode cX8_init 9 = .ok (.invokespecial 9, 3) := by decide +kernel
theorem dX8_init_12 : decode cX8_init 12 = .ok (.putfield 10, 3) := by decide +kernel
theorem dX8_init_15 : decode cX8_init 15 = .ok (.aload_n 0, 1) := by decide +kernel
theorem dX8_init_16 : decode cX8_init 16 = .ok (.new 7, 3) := by decide +kernel
theorem dX8_init_19 : decode cX8_init 19 = .ok (.dup, 1) := by decide +kernel
theorem dX8_init_20 : decode cX8_init 20 = .ok (.invokespecial 9, 3) := by decide +kernel
theorem dX8_init_23 : decode cX8_init 23 = .ok (.putfield 16, 3) := by decide +kernel
theorem dX8_init_26 : decode cX8_init 26 = .ok (.aload_n 0, 1) := by decide +kernel
theorem dX8_init_27 : decode cX8_init 27 = .ok (.new 7, 3) := by decide +kernel
theorem dX8_init_30 : decode cX8_init 30 = .ok (.dup, 1) := by decide +kernel
theorem dX8_init_31 : decode cX8_init 31 = .ok (.invokespecial 9, 3) := by decide +kernel
theorem dX8_init_34 : decode cX8_init 34 = .ok (.putfield 19, 3) := by decide +kernel
theorem dX8_init_37 : decode cX8_init 37 = .ok (.aload_n 0, 1) := by decide +kernel
theorem dX8_init_38 : decode cX8_init 38 = .ok (.iconst 0, 1) := by decide +kernel
theorem dX8_init_39 : decode cX8_init 39 = .ok (.putfield 22, 3) := by decide +kernel
theorem dX8_init_42 : decode cX8_init 42 = .ok (.aload_n 0, 1) := by decide +kernel
theorem dX8_init_43 : decode cX8_init 43 = .ok (.iconst 0, 1) := by decide +kernel
theorem dX8_init_44 : decode cX8_init 44 = .ok (.putfield 26, 3) := by decide +kernel
theorem dX8_init_47 : decode cX8_init 47 = .ok (.aload_n 0, 1) := by decide +kernel
theorem dX8_init_48 : decode cX8_init 48 = .ok (.new 29, 3) := by decide +kernel
theorem dX8_init_51 : decode cX8_init 51 = .ok (.dup, 1) := by decide +kernel
theorem dX8_init_52 : decode cX8_init 52 = .ok (.invokespecial 31, 3) := by decide +kernel
theorem dX8_init_55 : decode cX8_init 55 = .ok (.putfield 32, 3) := by decide +kernel
theorem dX8_init_58 : decode cX8_init 58 = .ok (.aload_n 0, 1) := by decide +kernel
theorem dX8_init_59 : decode cX8_init 59 = .ok (.new 36, 3) := by decide +kernel
theorem dX8_init_62 : decode cX8_init 62 = .ok (.dup, 1) := by decide +kernel
theorem dX8_init_63 : decode cX8_init 63 = .ok (.invokespecial 38, 3) := by decide +kernel
theorem dX8_init_66 : decode cX8_init 66 = .ok (.putfield 39, 3) := by decide +kernel
theorem dX8_init_69 : decode cX8_init 69 = .ok (.aload_n 0, 1) := by decide +kernel
theorem dX8_init_70 : decode cX8_init 70 = .ok (.new 43, 3) := by decide +kernel
theorem dX8_init_73 : decode cX8_init 73 = .ok (.dup, 1) := by decide +kernel
theorem dX8_init_74 : decode cX8_init 74 = .ok (.invokespecial 45, 3) := by decide +kernel
theorem dX8_init_77 : decode cX8_init 77 = .ok (.putfield 46, 3) := by decide +kernel
theorem dX8_init_80 : decode cX8_init 80 = .ok (.aload_n 0, 1) := by decide +kernel
theorem dX8_init_81 : decode cX8_init 81 = .ok (.new 50, 3) := by decide +kernel
theorem dX8_init_84 : decode cX8_init 84 = .ok (.dup, 1) := by decide +kernel
theorem dX8_init_85 : decode cX8_init 85 = .ok (.invokespecial 52, 3) := by decide +kernel
theorem dX8_init_88 : decode cX8_init 88 = .ok (.putfield 53, 3) := by decide +kernel
theorem dX8_init_91 : decode cX8_init 91 = .ok (.return_, 1) := by decide +kernel
def wtX8_init : List Cond := .code yX8_init cX8_init 1 none :: (([.methodLink RX8 1 objectInit, .instanceMethod objectInit, .code objectInit ⟨#[0xb1]⟩ 1 none, .classLink RX8 7 RX5, .instantiable RX5 4, .initialized RX5, .instanceMethod yX5_init, .fieldLink RX8 10 "DriftKin" "now" "LDriftKin$Shore;", .fieldLink RX8 16 "DriftKin" "firstImage" "LDriftKin$Shore;", .fieldLink RX8 19 "DriftKin" "secondImage" "LDriftKin$Shore;", .fieldLink RX8 22 "DriftKin" "firstKept" "Z", .fieldLink RX8 26 "DriftKin" "secondKept" "Z", .classLink RX8 29 RX2, .instantiable RX2 2, .initialized RX2, .instanceMethod yX2_init, .fieldLink RX8 32 "DriftKin" "pad" "LDriftKin$Pad;", .classLink RX8 36 RX7, .instantiable RX7 4, .initialized RX7, .instanceMethod yX7_init, .fieldLink RX8 39 "DriftKin" "years" "LDriftKin$Years;", .classLink RX8 43 RX4, .instantiable RX4 4, .initialized RX4, .instanceMethod yX4_init, .fieldLink RX8 46 "DriftKin" "planks" "LDriftKin$Planks;", .classLink RX8 50 RX1, .instantiable RX1 4, .initialized RX1, .instanceMethod yX1_init, .fieldLink RX8 53 "DriftKin" "matches" "LDriftKin$Matches;"]) ++ ((u_ws RX1 TX1 4) ++ ((u_ws RX2 TX2 2) ++ ((u_ws RX4 TX4 4) ++ ((u_ws RX5 TX5 4) ++ ((u_ws RX7 TX7 4) ++ ((u_ws RX8 TX8 9) ++ ((wtX5_init) ++ ((wtX2_init) ++ ((wtX7_init) ++ ((wtX4_init) ++ ((wtX1_init) ++ []))))))))))))
theorem imX8_init_own : ∀ w ∈ ([.methodLink RX8 1 objectInit, .instanceMethod objectInit, .code objectInit ⟨#[0xb1]⟩ 1 none, .classLink RX8 7 RX5, .instantiable RX5 4, .initialized RX5, .instanceMethod yX5_init, .fieldLink RX8 10 "DriftKin" "now" "LDriftKin$Shore;", .fieldLink RX8 16 "DriftKin" "firstImage" "LDriftKin$Shore;", .fieldLink RX8 19 "DriftKin" "secondImage" "LDriftKin$Shore;", .fieldLink RX8 22 "DriftKin" "firstKept" "Z", .fieldLink RX8 26 "DriftKin" "secondKept" "Z", .classLink RX8 29 RX2, .instantiable RX2 2, .initialized RX2, .instanceMethod yX2_init, .fieldLink RX8 32 "DriftKin" "pad" "LDriftKin$Pad;", .classLink RX8 36 RX7, .instantiable RX7 4, .initialized RX7, .instanceMethod yX7_init, .fieldLink RX8 39 "DriftKin" "years" "LDriftKin$Years;", .classLink RX8 43 RX4, .instantiable RX4 4, .initialized RX4, .instanceMethod yX4_init, .fieldLink RX8 46 "DriftKin" "planks" "LDriftKin$Planks;", .classLink RX8 50 RX1, .instantiable RX1 4, .initialized RX1, .instanceMethod yX1_init, .fieldLink RX8 53 "DriftKin" "matches" "LDriftKin$Matches;"] : List Cond), w ∈ wtX8_init := fun w h => List.mem_cons_of_mem _ (inl h)
theorem imX8_init_u_X1 : ∀ w ∈ (u_ws RX1 TX1 4 : List Cond), w ∈ wtX8_init := fun w h => List.mem_cons_of_mem _ (inr (inl h))
theorem imX8_init_u_X2 : ∀ w ∈ (u_ws RX2 TX2 2 : List Cond), w ∈ wtX8_init := fun w h => List.mem_cons_of_mem _ (inr (inr (inl h)))
theorem imX8_init_u_X4 : ∀ w ∈ (u_ws RX4 TX4 4 : List Cond), w ∈ wtX8_init := fun w h => List.mem_cons_of_mem _ (inr (inr (inr (inl h))))
theorem imX8_init_u_X5 : ∀ w ∈ (u_ws RX5 TX5 4 : List Cond), w ∈ wtX8_init := fun w h => List.mem_cons_of_mem _ (inr (inr (inr (inr (inl h)))))
theorem imX8_init_u_X7 : ∀ w ∈ (u_ws RX7 TX7 4 : List Cond), w ∈ wtX8_init := fun w h => List.mem_cons_of_mem _ (inr (inr (inr (inr (inr (inl h))))))
theorem imX8_init_u_X8 : ∀ w ∈ (u_ws RX8 TX8 9 : List Cond), w ∈ wtX8_init := fun w h => List.mem_cons_of_mem _ (inr (inr (inr (inr (inr (inr (inl h)))))))
theorem imX8_init_c_X5_init : ∀ w ∈ (wtX5_init : List Cond), w ∈ wtX8_init := fun w h => List.mem_cons_of_mem _ (inr (inr (inr (inr (inr (inr (inr (inl h))))))))
theorem imX8_init_c_X2_init : ∀ w ∈ (wtX2_init : List Cond), w ∈ wtX8_init := fun w h => List.mem_cons_of_mem _ (inr (inr (inr (inr (inr (inr (inr (inr (inl h)))))))))
theorem imX8_init_c_X7_init : ∀ w ∈ (wtX7_init : List Cond), w ∈ wtX8_init := fun w h => List.mem_cons_of_mem _ (inr (inr (inr (inr (inr (inr (inr (inr (inr (inl h))))))))))
theorem imX8_init_c_X4_init : ∀ w ∈ (wtX4_init : List Cond), w ∈ wtX8_init := fun w h => List.mem_cons_of_mem _ (inr (inr (inr (inr (inr (inr (inr (inr (inr (inr (inl h)))))))))))
theorem imX8_init_c_X1_init : ∀ w ∈ (wtX1_init : List Cond), w ∈ wtX8_init := fun w h => List.mem_cons_of_mem _ (inr (inr (inr (inr (inr (inr (inr (inr (inr (inr (inr (inl h))))))))))))
theorem gdX8_init : ∀ w ∈ wtX8_init, Gd w := gdc rfl (gda (gdl (by decide +kernel)) (gda (gdu _ _ _) (gda (gdu _ _ _) (gda (gdu _ _ _) (gda (gdu _ _ _) (gda (gdu _ _ _) (gda (gdu _ _ _) (gda gdX5_init (gda gdX2_init (gda gdX7_init (gda gdX4_init (gda gdX1_init gdn))))))))))))
theorem gcX8_init_X5_init : GoodIn wtX8_init (wtX5_init) := fun w h => ⟨imX8_init_c_X5_init w h, gdX5_init w h⟩
theorem gcX8_init_X2_init : GoodIn wtX8_init (wtX2_init) := fun w h => ⟨imX8_init_c_X2_init w h, gdX2_init w h⟩
theorem gcX8_init_X7_init : GoodIn wtX8_init (wtX7_init) := fun w h => ⟨imX8_init_c_X7_init w h, gdX7_init w h⟩
theorem gcX8_init_X4_init : GoodIn wtX8_init (wtX4_init) := fun w h => ⟨imX8_init_c_X4_init w h, gdX4_init w h⟩
theorem gcX8_init_X1_init : GoodIn wtX8_init (wtX1_init) := fun w h => ⟨imX8_init_c_X1_init w h, gdX1_init w h⟩
def fX8_init : Option ((Nat → Int32) × (Nat → Int32) × (Nat → Int32) × (Nat → Int32) × (Nat → Int32) × (Nat → Int32) × (Nat → Int32) × (Nat → Int32) × (Nat → Int32) × (Nat → Int32) × (Nat → Int32) × (Nat → Int32) × (Nat → Int32) × (Nat → Int32) × (Nat → Int32) × (Nat → Int32)) :=
  (fX5_init).bind (fun z1 =>
    (fX5_init).bind (fun z18 =>
      (fX5_init).bind (fun z35 =>
        (fX7_init).bind (fun z54 =>
          some (z1.1, z1.2.1, z1.2.2.1, z1.2.2.2, z18.1, z18.2.1, z18.2.2.1, z18.2.2.2, z35.1, z35.2.1, z35.2.2.1, z35.2.2.2, z54.1, z54.2.1, z54.2.2.1, z54.2.2.2)))))
def icX8_init (cI cZ : ClassId) (h0 : Nat) (u : Nat → Nat) (r0 : Nat → Int32) (r1 : Nat → Int32) (r2 : Nat → Int32) (r3 : Nat → Int32) (r4 : Nat → Int32) (r5 : Nat → Int32) (r6 : Nat → Int32) (r7 : Nat → Int32) (r8 : Nat → Int32) (r9 : Nat → Int32) (r10 : Nat → Int32) (r11 : Nat → Int32) (r12 : Nat → Int32) (r13 : Nat → Int32) (r14 : Nat → Int32) (r15 : Nat → Int32) : va_W := [(h0, .inr (8, [.ref (u 0), .ref (u 17), .ref (u 34), .int (0 : Int32), .int (0 : Int32), .ref (u 51), .ref (u 53), .ref (u 71), .ref (u 75)]))] ++ icX5_init cI cZ (u 0) (fun j => u (1 + j)) r0 r1 r2 r3 ++ icX5_init cI cZ (u 17) (fun j => u (18 + j)) r4 r5 r6 r7 ++ icX5_init cI cZ (u 34) (fun j => u (35 + j)) r8 r9 r10 r11 ++ icX2_init cI cZ (u 51) (fun j => u (52 + j)) ++ icX7_init cI cZ (u 53) (fun j => u (54 + j)) r12 r13 r14 r15 ++ icX4_init cI cZ (u 71) (fun j => u (72 + j)) ++ icX1_init cI cZ (u 75) (fun j => u (76 + j))
abbrev rmX8_init : Jvm.Room := { frames := 4, cells := 79, slots := 2948, locals := 83 }
theorem hyX8_init : yX8_init.cls ≠ "java/lang/invoke/MethodHandle" ∧ yX8_init.cls ≠ "java/lang/invoke/VarHandle" ∧ (parseMethodDescriptor yX8_init.desc).map (fun d => d.parameters.length) = some 0 := by decide +kernel
set_option maxHeartbeats 4000000 in
set_option maxRecDepth 100000 in
theorem mX8_init (l : Launch) (D : va_G) (cI cZ : ClassId) (q0 : Nat) (z : (Nat → Int32) × (Nat → Int32) × (Nat → Int32) × (Nat → Int32) × (Nat → Int32) × (Nat → Int32) × (Nat → Int32) × (Nat → Int32) × (Nat → Int32) × (Nat → Int32) × (Nat → Int32) × (Nat → Int32) × (Nat → Int32) × (Nat → Int32) × (Nat → Int32) × (Nat → Int32)) (hF : fX8_init = some z) : mpC l yX8_init wtX8_init rmX8_init D cI cZ [.ref q0] [(q0, .inr (8, [.null, .null, .null, .int 0, .int 0, .null, .null, .null, .null]))] none (fun u => icX8_init cI cZ q0 u z.1 z.2.1 z.2.2.1 z.2.2.2.1 z.2.2.2.2.1 z.2.2.2.2.2.1 z.2.2.2.2.2.2.1 z.2.2.2.2.2.2.2.1 z.2.2.2.2.2.2.2.2.1 z.2.2.2.2.2.2.2.2.2.1 z.2.2.2.2.2.2.2.2.2.2.1 z.2.2.2.2.2.2.2.2.2.2.2.1 z.2.2.2.2.2.2.2.2.2.2.2.2.1 z.2.2.2.2.2.2.2.2.2.2.2.2.2.1 z.2.2.2.2.2.2.2.2.2.2.2.2.2.2.1 z.2.2.2.2.2.2.2.2.2.2.2.2.2.2.2) 79 2948 := by
  refine mp_c (lv0 := [(0, .ref q0)]) cX8_init 1 (by decide) rfl (Nat.le_of_ble_eq_true rfl) rfl (fun E h hend0 => ?_)
  unfold fX8_init at hF
  refine g_aload_n (np := 1) h 0 rfl rfl dX8_init_0 rfl ?_
  refine g_objI (np := 4) h (imX8_init_own _ (List.mem_of_getElem? (i := 0) rfl)) (imX8_init_own _ (List.mem_of_getElem? (i := 1) rfl)) (imX8_init_own _ (List.mem_of_getElem? (i := 2) rfl)) rfl rfl dX8_init_1 rfl ?_
  refine g_aload_n (np := 5) h 0 rfl rfl dX8_init_4 rfl ?_
  refine g_new (np := 8) (T := TX5) (k' := 1) (n' := 4) h imX8_init_u_X5 tyX5_ok (imX8_init_own _ (List.mem_of_getElem? (i := 3) rfl)) (imX8_init_own _ (List.mem_of_getElem? (i := 4) rfl)) (imX8_init_own _ (List.mem_of_getElem? (i := 5) rfl)) 5 rfl dfX5 rfl rfl rfl dX8_init_5 rfl (fun q1 => ?_)
  refine g_dup (np := 9) h rfl dX8_init_8 rfl ?_
  obtain ⟨z1, hz1, hF⟩ := Option.bind_eq_some_iff.mp hF
  refine g_callIN (np := 12) (Wr := [(q0, .inr (8, [.null, .null, .null, .int (0 : Int32), .int (0 : Int32), .null, .null, .null, .null]))]) (k' := 17) (n' := 136) h (mX5_init l D cI cZ q1 z1 hz1) gcX8_init_X5_init rfl ⟨rfl, rfl⟩ (List.mem_of_getElem? (i := 0) rfl) (imX8_init_own _ (List.mem_of_getElem? (i := 5) rfl)) (imX8_init_own _ (List.mem_of_getElem? (i := 6) rfl)) rfl hyX5_init rfl rfl rfl rfl rfl rfl dX8_init_9 rfl (fun u1 => ?_)
  refine g_wd (Wd' := ([(q0, .inr (8, [.null, .null, .null, .int (0 : Int32), .int (0 : Int32), .null, .null, .null, .null]))] ++ (icX5_init cI cZ q1 u1 z1.1 z1.2.1 z1.2.2.1 z1.2.2.2))) rfl ?_
  refine g_putF (np := 15) (T := TX8) (Wd' := ([(q0, .inr (8, [.ref q1, .null, .null, .int (0 : Int32), .int (0 : Int32), .null, .null, .null, .null]))] ++ (icX5_init cI cZ q1 u1 z1.1 z1.2.1 z1.2.2.1 z1.2.2.2))) h imX8_init_u_X8 tyX8_ok nmX8 0 8 rfl rfl 0 (by decide) (imX8_init_own _ (List.mem_of_getElem? (i := 7) rfl)) rfl rfl rfl rfl rfl (Nat.le_of_ble_eq_true rfl) rfl dX8_init_12 rfl ?_
  refine g_aload_n (np := 16) h 0 rfl rfl dX8_init_15 rfl ?_
  refine g_new (np := 19) (T := TX5) (k' := 18) (n' := 140) h imX8_init_u_X5 tyX5_ok (imX8_init_own _ (List.mem_of_getElem? (i := 3) rfl)) (imX8_init_own _ (List.mem_of_getElem? (i := 4) rfl)) (imX8_init_own _ (List.mem_of_getElem? (i := 5) rfl)) 5 rfl dfX5 rfl rfl rfl dX8_init_16 rfl (fun q18 => ?_)
  refine g_dup (np := 20) h rfl dX8_init_19 rfl ?_
  obtain ⟨z18, hz18, hF⟩ := Option.bind_eq_some_iff.mp hF
  refine g_callIN (np := 23) (Wr := ([(q0, .inr (8, [.ref q1, .null, .null, .int (0 : Int32), .int (0 : Int32), .null, .null, .null, .null]))] ++ (icX5_init cI cZ q1 u1 z1.1 z1.2.1 z1.2.2.1 z1.2.2.2))) (k' := 34) (n' := 272) h (mX5_init l D cI cZ q18 z18 hz18) gcX8_init_X5_init rfl ⟨rfl, rfl⟩ (List.mem_of_getElem? (i := 0) rfl) (imX8_init_own _ (List.mem_of_getElem? (i := 5) rfl)) (imX8_init_own _ (List.mem_of_getElem? (i := 6) rfl)) rfl hyX5_init rfl rfl rfl rfl rfl rfl dX8_init_20 rfl (fun u18 => ?_)
  refine g_wd (Wd' := (([(q0, .inr (8, [.ref q1, .null, .null, .int (0 : Int32), .int (0 : Int32), .null, .null, .null, .null]))] ++ (icX5_init cI cZ q1 u1 z1.1 z1.2.1 z1.2.2.1 z1.2.2.2)) ++ (icX5_init cI cZ q18 u18 z18.1 z18.2.1 z18.2.2.1 z18.2.2.2))) rfl ?_
  refine g_putF (np := 26) (T := TX8) (Wd' := (([(q0, .inr (8, [.ref q1, .ref q18, .null, .int (0 : Int32), .int (0 : Int32), .null, .null, .null, .null]))] ++ (icX5_init cI cZ q1 u1 z1.1 z1.2.1 z1.2.2.1 z1.2.2.2)) ++ (icX5_init cI cZ q18 u18 z18.1 z18.2.1 z18.2.2.1 z18.2.2.2))) h imX8_init_u_X8 tyX8_ok nmX8 0 8 rfl rfl 1 (by decide) (imX8_init_own _ (List.mem_of_getElem? (i := 8) rfl)) rfl rfl rfl rfl rfl (Nat.le_of_ble_eq_true rfl) rfl dX8_init_23 rfl ?_
  refine g_aload_n (np := 27) h 0 rfl rfl dX8_init_26 rfl ?_
  refine g_new (np := 30) (T := TX5) (k' := 35) (n' := 276) h imX8_init_u_X5 tyX5_ok (imX8_init_own _ (List.mem_of_getElem? (i := 3) rfl)) (imX8_init_own _ (List.mem_of_getElem? (i := 4) rfl)) (imX8_init_own _ (List.mem_of_getElem? (i := 5) rfl)) 5 rfl dfX5 rfl rfl rfl dX8_init_27 rfl (fun q35 => ?_)
  refine g_dup (np := 31) h rfl dX8_init_30 rfl ?_
  obtain ⟨z35, hz35, hF⟩ := Option.bind_eq_some_iff.mp hF
  refine g_callIN (np := 34) (Wr := (([(q0, .inr (8, [.ref q1, .ref q18, .null, .int (0 : Int32), .int (0 : Int32), .null, .null, .null, .null]))] ++ (icX5_init cI cZ q1 u1 z1.1 z1.2.1 z1.2.2.1 z1.2.2.2)) ++ (icX5_init cI cZ q18 u18 z18.1 z18.2.1 z18.2.2.1 z18.2.2.2))) (k' := 51) (n' := 408) h (mX5_init l D cI cZ q35 z35 hz35) gcX8_init_X5_init rfl ⟨rfl, rfl⟩ (List.mem_of_getElem? (i := 0) rfl) (imX8_init_own _ (List.mem_of_getElem? (i := 5) rfl)) (imX8_init_own _ (List.mem_of_getElem? (i := 6) rfl)) rfl hyX5_init rfl rfl rfl rfl rfl rfl dX8_init_31 rfl (fun u35 => ?_)
  refine g_wd (Wd' := ((([(q0, .inr (8, [.ref q1, .ref q18, .null, .int (0 : Int32), .int (0 : Int32), .null, .null, .null, .null]))] ++ (icX5_init cI cZ q1 u1 z1.1 z1.2.1 z1.2.2.1 z1.2.2.2)) ++ (icX5_init cI cZ q18 u18 z18.1 z18.2.1 z18.2.2.1 z18.2.2.2)) ++ (icX5_init cI cZ q35 u35 z35.1 z35.2.1 z35.2.2.1 z35.2.2.2))) rfl ?_
  refine g_putF (np := 37) (T := TX8) (Wd' := ((([(q0, .inr (8, [.ref q1, .ref q18, .ref q35, .int (0 : Int32), .int (0 : Int32), .null, .null, .null, .null]))] ++ (icX5_init cI cZ q1 u1 z1.1 z1.2.1 z1.2.2.1 z1.2.2.2)) ++ (icX5_init cI cZ q18 u18 z18.1 z18.2.1 z18.2.2.1 z18.2.2.2)) ++ (icX5_init cI cZ q35 u35 z35.1 z35.2.1 z35.2.2.1 z35.2.2.2))) h imX8_init_u_X8 tyX8_ok nmX8 0 8 rfl rfl 2 (by decide) (imX8_init_own _ (List.mem_of_getElem? (i := 9) rfl)) rfl rfl rfl rfl rfl (Nat.le_of_ble_eq_true rfl) rfl dX8_init_34 rfl ?_
  refine g_aload_n (np := 38) h 0 rfl rfl dX8_init_37 rfl ?_
  refine g_iconst (np := 39) (v := (0 : Int32)) h (by decide) dX8_init_38 rfl ?_
  refine g_put (np := 42) (T := TX8) (Wd' := ((([(q0, .inr (8, [.ref q1, .ref q18, .ref q35, .int (0 : Int32), .int (0 : Int32), .null, .null, .null, .null]))] ++ (icX5_init cI cZ q1 u1 z1.1 z1.2.1 z1.2.2.1 z1.2.2.2)) ++ (icX5_init cI cZ q18 u18 z18.1 z18.2.1 z18.2.2.1 z18.2.2.2)) ++ (icX5_init cI cZ q35 u35 z35.1 z35.2.1 z35.2.2.1 z35.2.2.2))) h imX8_init_u_X8 tyX8_ok nmX8 0 8 rfl rfl 3 (by decide) (imX8_init_own _ (List.mem_of_getElem? (i := 10) rfl)) rfl (by decide) (by decide) (Nat.le_of_ble_eq_true rfl) rfl dX8_init_39 rfl ?_
  refine g_aload_n (np := 43) h 0 rfl rfl dX8_init_42 rfl ?_
  refine g_iconst (np := 44) (v := (0 : Int32)) h (by decide) dX8_init_43 rfl ?_
  refine g_put (np := 47) (T := TX8) (Wd' := ((([(q0, .inr (8, [.ref q1, .ref q18, .ref q35, .int (0 : Int32), .int (0 : Int32), .null, .null, .null, .null]))] ++ (icX5_init cI cZ q1 u1 z1.1 z1.2.1 z1.2.2.1 z1.2.2.2)) ++ (icX5_init cI cZ q18 u18 z18.1 z18.2.1 z18.2.2.1 z18.2.2.2)) ++ (icX5_init cI cZ q35 u35 z35.1 z35.2.1 z35.2.2.1 z35.2.2.2))) h imX8_init_u_X8 tyX8_ok nmX8 0 8 rfl rfl 4 (by decide) (imX8_init_own _ (List.mem_of_getElem? (i := 11) rfl)) rfl (by decide) (by decide) (Nat.le_of_ble_eq_true rfl) rfl dX8_init_44 rfl ?_
  refine g_aload_n (np := 48) h 0 rfl rfl dX8_init_47 rfl ?_
  refine g_new (np := 51) (T := TX2) (k' := 52) (n' := 410) h imX8_init_u_X2 tyX2_ok (imX8_init_own _ (List.mem_of_getElem? (i := 12) rfl)) (imX8_init_own _ (List.mem_of_getElem? (i := 13) rfl)) (imX8_init_own _ (List.mem_of_getElem? (i := 14) rfl)) 2 rfl dfX2 rfl rfl rfl dX8_init_48 rfl (fun q52 => ?_)
  refine g_dup (np := 52) h rfl dX8_init_51 rfl ?_
  refine g_callIN (np := 55) (Wr := ((([(q0, .inr (8, [.ref q1, .ref q18, .ref q35, .int (0 : Int32), .int (0 : Int32), .null, .null, .null, .null]))] ++ (icX5_init cI cZ q1 u1 z1.1 z1.2.1 z1.2.2.1 z1.2.2.2)) ++ (icX5_init cI cZ q18 u18 z18.1 z18.2.1 z18.2.2.1 z18.2.2.2)) ++ (icX5_init cI cZ q35 u35 z35.1 z35.2.1 z35.2.2.1 z35.2.2.2))) (k' := 53) (n' := 470) h (mX2_init l D cI cZ q52 () rfl) gcX8_init_X2_init rfl ⟨rfl, rfl⟩ (List.mem_of_getElem? (i := 4) rfl) (imX8_init_own _ (List.mem_of_getElem? (i := 14) rfl)) (imX8_init_own _ (List.mem_of_getElem? (i := 15) rfl)) rfl hyX2_init rfl rfl rfl rfl rfl rfl dX8_init_52 rfl (fun u52 => ?_)
  refine g_wd (Wd' := (((([(q0, .inr (8, [.ref q1, .ref q18, .ref q35, .int (0 : Int32), .int (0 : Int32), .null, .null, .null, .null]))] ++ (icX5_init cI cZ q1 u1 z1.1 z1.2.1 z1.2.2.1 z1.2.2.2)) ++ (icX5_init cI cZ q18 u18 z18.1 z18.2.1 z18.2.2.1 z18.2.2.2)) ++ (icX5_init cI cZ q35 u35 z35.1 z35.2.1 z35.2.2.1 z35.2.2.2)) ++ (icX2_init cI cZ q52 u52))) rfl ?_
  refine g_putF (np := 58) (T := TX8) (Wd' := (((([(q0, .inr (8, [.ref q1, .ref q18, .ref q35, .int (0 : Int32), .int (0 : Int32), .ref q52, .null, .null, .null]))] ++ (icX5_init cI cZ q1 u1 z1.1 z1.2.1 z1.2.2.1 z1.2.2.2)) ++ (icX5_init cI cZ q18 u18 z18.1 z18.2.1 z18.2.2.1 z18.2.2.2)) ++ (icX5_init cI cZ q35 u35 z35.1 z35.2.1 z35.2.2.1 z35.2.2.2)) ++ (icX2_init cI cZ q52 u52))) h imX8_init_u_X8 tyX8_ok nmX8 0 8 rfl rfl 5 (by decide) (imX8_init_own _ (List.mem_of_getElem? (i := 16) rfl)) rfl rfl rfl rfl rfl (Nat.le_of_ble_eq_true rfl) rfl dX8_init_55 rfl ?_
  refine g_aload_n (np := 59) h 0 rfl rfl dX8_init_58 rfl ?_
  refine g_new (np := 62) (T := TX7) (k' := 54) (n' := 474) h imX8_init_u_X7 tyX7_ok (imX8_init_own _ (List.mem_of_getElem? (i := 17) rfl)) (imX8_init_own _ (List.mem_of_getElem? (i := 18) rfl)) (imX8_init_own _ (List.mem_of_getElem? (i := 19) rfl)) 7 rfl dfX7 rfl rfl rfl dX8_init_59 rfl (fun q54 => ?_)
  refine g_dup (np := 63) h rfl dX8_init_62 rfl ?_
  obtain ⟨z54, hz54, hF⟩ := Option.bind_eq_some_iff.mp hF
  refine g_callIN (np := 66) (Wr := (((([(q0, .inr (8, [.ref q1, .ref q18, .ref q35, .int (0 : Int32), .int (0 : Int32), .ref q52, .null, .null, .null]))] ++ (icX5_init cI cZ q1 u1 z1.1 z1.2.1 z1.2.2.1 z1.2.2.2)) ++ (icX5_init cI cZ q18 u18 z18.1 z18.2.1 z18.2.2.1 z18.2.2.2)) ++ (icX5_init cI cZ q35 u35 z35.1 z35.2.1 z35.2.2.1 z35.2.2.2)) ++ (icX2_init cI cZ q52 u52))) (k' := 71) (n' := 610) h (mX7_init l D cI cZ q54 z54 hz54) gcX8_init_X7_init rfl ⟨rfl, rfl⟩ (List.mem_of_getElem? (i := 5) rfl) (imX8_init_own _ (List.mem_of_getElem? (i := 19) rfl)) (imX8_init_own _ (List.mem_of_getElem? (i := 20) rfl)) rfl hyX7_init rfl rfl rfl rfl rfl rfl dX8_init_63 rfl (fun u54 => ?_)
  refine g_wd (Wd' := ((((([(q0, .inr (8, [.ref q1, .ref q18, .ref q35, .int (0 : Int32), .int (0 : Int32), .ref q52, .null, .null, .null]))] ++ (icX5_init cI cZ q1 u1 z1.1 z1.2.1 z1.2.2.1 z1.2.2.2)) ++ (icX5_init cI cZ q18 u18 z18.1 z18.2.1 z18.2.2.1 z18.2.2.2)) ++ (icX5_init cI cZ q35 u35 z35.1 z35.2.1 z35.2.2.1 z35.2.2.2)) ++ (icX2_init cI cZ q52 u52)) ++ (icX7_init cI cZ q54 u54 z54.1 z54.2.1 z54.2.2.1 z54.2.2.2))) rfl ?_
  refine g_putF (np := 69) (T := TX8) (Wd' := ((((([(q0, .inr (8, [.ref q1, .ref q18, .ref q35, .int (0 : Int32), .int (0 : Int32), .ref q52, .ref q54, .null, .null]))] ++ (icX5_init cI cZ q1 u1 z1.1 z1.2.1 z1.2.2.1 z1.2.2.2)) ++ (icX5_init cI cZ q18 u18 z18.1 z18.2.1 z18.2.2.1 z18.2.2.2)) ++ (icX5_init cI cZ q35 u35 z35.1 z35.2.1 z35.2.2.1 z35.2.2.2)) ++ (icX2_init cI cZ q52 u52)) ++ (icX7_init cI cZ q54 u54 z54.1 z54.2.1 z54.2.2.1 z54.2.2.2))) h imX8_init_u_X8 tyX8_ok nmX8 0 8 rfl rfl 6 (by decide) (imX8_init_own _ (List.mem_of_getElem? (i := 21) rfl)) rfl rfl rfl rfl rfl (Nat.le_of_ble_eq_true rfl) rfl dX8_init_66 rfl ?_
  refine g_aload_n (np := 70) h 0 rfl rfl dX8_init_69 rfl ?_
  refine g_new (np := 73) (T := TX4) (k' := 72) (n' := 614) h imX8_init_u_X4 tyX4_ok (imX8_init_own _ (List.mem_of_getElem? (i := 22) rfl)) (imX8_init_own _ (List.mem_of_getElem? (i := 23) rfl)) (imX8_init_own _ (List.mem_of_getElem? (i := 24) rfl)) 4 rfl dfX4 rfl rfl rfl dX8_init_70 rfl (fun q72 => ?_)
  refine g_dup (np := 74) h rfl dX8_init_73 rfl ?_
  refine g_callIN (np := 77) (Wr := ((((([(q0, .inr (8, [.ref q1, .ref q18, .ref q35, .int (0 : Int32), .int (0 : Int32), .ref q52, .ref q54, .null, .null]))] ++ (icX5_init cI cZ q1 u1 z1.1 z1.2.1 z1.2.2.1 z1.2.2.2)) ++ (icX5_init cI cZ q18 u18 z18.1 z18.2.1 z18.2.2.1 z18.2.2.2)) ++ (icX5_init cI cZ q35 u35 z35.1 z35.2.1 z35.2.2.1 z35.2.2.2)) ++ (icX2_init cI cZ q52 u52)) ++ (icX7_init cI cZ q54 u54 z54.1 z54.2.1 z54.2.2.1 z54.2.2.2))) (k' := 75) (n' := 2672) h (mX4_init l D cI cZ q72 () rfl) gcX8_init_X4_init rfl ⟨rfl, rfl⟩ (List.mem_of_getElem? (i := 7) rfl) (imX8_init_own _ (List.mem_of_getElem? (i := 24) rfl)) (imX8_init_own _ (List.mem_of_getElem? (i := 25) rfl)) rfl hyX4_init rfl rfl rfl rfl rfl rfl dX8_init_74 rfl (fun u72 => ?_)
  refine g_wd (Wd' := (((((([(q0, .inr (8, [.ref q1, .ref q18, .ref q35, .int (0 : Int32), .int (0 : Int32), .ref q52, .ref q54, .null, .null]))] ++ (icX5_init cI cZ q1 u1 z1.1 z1.2.1 z1.2.2.1 z1.2.2.2)) ++ (icX5_init cI cZ q18 u18 z18.1 z18.2.1 z18.2.2.1 z18.2.2.2)) ++ (icX5_init cI cZ q35 u35 z35.1 z35.2.1 z35.2.2.1 z35.2.2.2)) ++ (icX2_init cI cZ q52 u52)) ++ (icX7_init cI cZ q54 u54 z54.1 z54.2.1 z54.2.2.1 z54.2.2.2)) ++ (icX4_init cI cZ q72 u72))) rfl ?_
  refine g_putF (np := 80) (T := TX8) (Wd' := (((((([(q0, .inr (8, [.ref q1, .ref q18, .ref q35, .int (0 : Int32), .int (0 : Int32), .ref q52, .ref q54, .ref q72, .null]))] ++ (icX5_init cI cZ q1 u1 z1.1 z1.2.1 z1.2.2.1 z1.2.2.2)) ++ (icX5_init cI cZ q18 u18 z18.1 z18.2.1 z18.2.2.1 z18.2.2.2)) ++ (icX5_init cI cZ q35 u35 z35.1 z35.2.1 z35.2.2.1 z35.2.2.2)) ++ (icX2_init cI cZ q52 u52)) ++ (icX7_init cI cZ q54 u54 z54.1 z54.2.1 z54.2.2.1 z54.2.2.2)) ++ (icX4_init cI cZ q72 u72))) h imX8_init_u_X8 tyX8_ok nmX8 0 8 rfl rfl 7 (by decide) (imX8_init_own _ (List.mem_of_getElem? (i := 26) rfl)) rfl rfl rfl rfl rfl (Nat.le_of_ble_eq_true rfl) rfl dX8_init_77 rfl ?_
  refine g_aload_n (np := 81) h 0 rfl rfl dX8_init_80 rfl ?_
  refine g_new (np := 84) (T := TX1) (k' := 76) (n' := 2676) h imX8_init_u_X1 tyX1_ok (imX8_init_own _ (List.mem_of_getElem? (i := 27) rfl)) (imX8_init_own _ (List.mem_of_getElem? (i := 28) rfl)) (imX8_init_own _ (List.mem_of_getElem? (i := 29) rfl)) 1 rfl dfX1 rfl rfl rfl dX8_init_81 rfl (fun q76 => ?_)
  refine g_dup (np := 85) h rfl dX8_init_84 rfl ?_
  refine g_callIN (np := 88) (Wr := (((((([(q0, .inr (8, [.ref q1, .ref q18, .ref q35, .int (0 : Int32), .int (0 : Int32), .ref q52, .ref q54, .ref q72, .null]))] ++ (icX5_init cI cZ q1 u1 z1.1 z1.2.1 z1.2.2.1 z1.2.2.2)) ++ (icX5_init cI cZ q18 u18 z18.1 z18.2.1 z18.2.2.1 z18.2.2.2)) ++ (icX5_init cI cZ q35 u35 z35.1 z35.2.1 z35.2.2.1 z35.2.2.2)) ++ (icX2_init cI cZ q52 u52)) ++ (icX7_init cI cZ q54 u54 z54.1 z54.2.1 z54.2.2.1 z54.2.2.2)) ++ (icX4_init cI cZ q72 u72))) (k' := 79) (n' := 2948) h (mX1_init l D cI cZ q76 () rfl) gcX8_init_X1_init rfl ⟨rfl, rfl⟩ (List.mem_of_getElem? (i := 8) rfl) (imX8_init_own _ (List.mem_of_getElem? (i := 29) rfl)) (imX8_init_own _ (List.mem_of_getElem? (i := 30) rfl)) rfl hyX1_init rfl rfl rfl rfl rfl rfl dX8_init_85 rfl (fun u76 => ?_)
  refine g_wd (Wd' := ((((((([(q0, .inr (8, [.ref q1, .ref q18, .ref q35, .int (0 : Int32), .int (0 : Int32), .ref q52, .ref q54, .ref q72, .null]))] ++ (icX5_init cI cZ q1 u1 z1.1 z1.2.1 z1.2.2.1 z1.2.2.2)) ++ (icX5_init cI cZ q18 u18 z18.1 z18.2.1 z18.2.2.1 z18.2.2.2)) ++ (icX5_init cI cZ q35 u35 z35.1 z35.2.1 z35.2.2.1 z35.2.2.2)) ++ (icX2_init cI cZ q52 u52)) ++ (icX7_init cI cZ q54 u54 z54.1 z54.2.1 z54.2.2.1 z54.2.2.2)) ++ (icX4_init cI cZ q72 u72)) ++ (icX1_init cI cZ q76 u76))) rfl ?_
  refine g_putF (np := 91) (T := TX8) (Wd' := ((((((([(q0, .inr (8, [.ref q1, .ref q18, .ref q35, .int (0 : Int32), .int (0 : Int32), .ref q52, .ref q54, .ref q72, .ref q76]))] ++ (icX5_init cI cZ q1 u1 z1.1 z1.2.1 z1.2.2.1 z1.2.2.2)) ++ (icX5_init cI cZ q18 u18 z18.1 z18.2.1 z18.2.2.1 z18.2.2.2)) ++ (icX5_init cI cZ q35 u35 z35.1 z35.2.1 z35.2.2.1 z35.2.2.2)) ++ (icX2_init cI cZ q52 u52)) ++ (icX7_init cI cZ q54 u54 z54.1 z54.2.1 z54.2.2.1 z54.2.2.2)) ++ (icX4_init cI cZ q72 u72)) ++ (icX1_init cI cZ q76 u76))) h imX8_init_u_X8 tyX8_ok nmX8 0 8 rfl rfl 8 (by decide) (imX8_init_own _ (List.mem_of_getElem? (i := 31) rfl)) rfl rfl rfl rfl rfl (Nat.le_of_ble_eq_true rfl) rfl dX8_init_88 rfl ?_
  cases hF
  exact hend0 (fun k => ([q1, (u1 0), (u1 1), (u1 2), (u1 3), (u1 4), (u1 5), (u1 6), (u1 7), (u1 8), (u1 9), (u1 10), (u1 11), (u1 12), (u1 13), (u1 14), (u1 15), q18, (u18 0), (u18 1), (u18 2), (u18 3), (u18 4), (u18 5), (u18 6), (u18 7), (u18 8), (u18 9), (u18 10), (u18 11), (u18 12), (u18 13), (u18 14), (u18 15), q35, (u35 0), (u35 1), (u35 2), (u35 3), (u35 4), (u35 5), (u35 6), (u35 7), (u35 8), (u35 9), (u35 10), (u35 11), (u35 12), (u35 13), (u35 14), (u35 15), q52, (u52 0), q54, (u54 0), (u54 1), (u54 2), (u54 3), (u54 4), (u54 5), (u54 6), (u54 7), (u54 8), (u54 9), (u54 10), (u54 11), (u54 12), (u54 13), (u54 14), (u54 15), (u54 16), q72, (u72 0), (u72 1), (u72 2), q76, (u76 0), (u76 1), (u76 2)] : List Nat).getD k 0) _ _ dX8_init_91
theorem dX9_init_0 : decode cX9_init 0 = .ok (.aload_n 0, 1) := by decide +kernel
theorem dX9_init_1 : decode cX9_init 1 = .ok (.invokespecial 1, 3) := by decide +kernel
theorem dX9_init_4 : decode cX9_init 4 = .ok (.aload_n 0, 1) := by decide +kernel
theorem dX9_init_5 : decode cX9_init 5 = .ok (.bipush 35, 2) := by decide +kernel
theorem dX9_init_7 : decode cX9_init 7 = .ok (.newarray .int, 2) := by decide +kernel
theorem dX9_init_9 : decode cX9_init 9 = .ok (.putfield 7, 3) := by decide +kernel
theorem dX9_init_12 : decode cX9_init 12 = .ok (.aload_n 0, 1) := by decide +kernel
theorem dX9_init_13 : decode cX9_init 13 = .ok (.bipush 35, 2) := by decide +kernel
theorem dX9_init_15 : decode cX9_init 15 = .ok (.newarray .int, 2) := by decide +kernel
theorem dX9_init_17 : decode cX9_init 17 = .ok (.putfield 13, 3) := by decide +kernel
theorem dX9_init_20 : decode cX9_init 20 = .ok (.aload_n 0, 1) := by decide +kernel
theorem dX9_init_21 : decode cX9_init 21 = .ok (.bipush 60, 2) := by decide +kernel
theorem dX9_init_23 : decode cX9_init 23 = .ok (.newarray .int, 2) := by decide +kernel
theorem dX9_init_25 : decode cX9_init 25 = .ok (.putfield 16, 3) := by decide +kernel
theorem dX9_init_28 : decode cX9_init 28 = .ok (.aload_n 0, 1) := by decide +kernel
theorem dX9_init_29 : decode cX9_init 29 = .ok (.bipush 24, 2) := by decide +kernel
theorem dX9_init_31 : decode cX9_init 31 = .ok (.newarray .int, 2) := by decide +kernel
theorem dX9_init_33 : decode cX9_init 33 = .ok (.putfield 19, 3) := by decide +kernel
theorem dX9_init_36 : decode cX9_init 36 = .ok (.aload_n 0, 1) := by decide +kernel
theorem dX9_init_37 : decode cX9_init 37 = .ok (.bipush 60, 2) := by decide +kernel
theorem dX9_init_39 : decode cX9_init 39 = .ok (.newarray .int, 2) := by decide +kernel
theorem dX9_init_41 : decode cX9_init 41 = .ok (.putfield 22, 3) := by decide +kernel
theorem dX9_init_44 : decode cX9_init 44 = .ok (.aload_n 0, 1) := by decide +kernel
theorem dX9_init_45 : decode cX9_init 45 = .ok (.sipush 1024, 3) := by decide +kernel
theorem dX9_init_48 : decode cX9_init 48 = .ok (.newarray .int, 2) := by decide +kernel
theorem dX9_init_50 : decode cX9_init 50 = .ok (.putfield 25, 3) := by decide +kernel
theorem dX9_init_53 : decode cX9_init 53 = .ok (.aload_n 0, 1) := by decide +kernel
theorem dX9_init_54 : decode cX9_init 54 = .ok (.sipush 1024, 3) := by decide +kernel
theorem dX9_init_57 : decode cX9_init 57 = .ok (.newarray .int, 2) := by decide +kernel
theorem dX9_init_59 : decode cX9_init 59 = .ok (.putfield 28, 3) := by decide +kernel
theorem dX9_init_62 : decode cX9_init 62 = .ok (.aload_n 0, 1) := by decide +kernel
theorem dX9_init_63 : decode cX9_init 63 = .ok (.sipush 256, 3) := by decide +kernel
theorem dX9_init_66 : decode cX9_init 66 = .ok (.newarray .int, 2) := by decide +kernel
theorem dX9_init_68 : decode cX9_init 68 = .ok (.putfield 31, 3) := by decide +kernel
theorem dX9_init_71 : decode cX9_init 71 = .ok (.aload_n 0, 1) := by decide +kernel
theorem dX9_init_72 : decode cX9_init 72 = .ok (.sipush 260, 3) := by decide +kernel
theorem dX9_init_75 : decode cX9_init 75 = .ok (.newarray .int, 2) := by decide +kernel
theorem dX9_init_77 : decode cX9_init 77 = .ok (.putfield 34, 3) := by decide +kernel
theorem dX9_init_80 : decode cX9_init 80 = .ok (.aload_n 0, 1) := by decide +kernel
theorem dX9_init_81 : decode cX9_init 81 = .ok (.iconst 2, 1) := by decide +kernel
theorem dX9_init_82 : decode cX9_init 82 = .ok (.newarray .boolean, 2) := by decide +kernel
theorem dX9_init_84 : decode cX9_init 84 = .ok (.putfield 37, 3) := by decide +kernel
theorem dX9_init_87 : decode cX9_init 87 = .ok (.iconst 0, 1) := by decide +kernel
theorem dX9_init_88 : decode cX9_init 88 = .ok (.istore_n 1, 1) := by decide +kernel
theorem dX9_init_89 : decode cX9_init 89 = .ok (.iload_n 1, 1) := by decide +kernel
theorem dX9_init_90 : decode cX9_init 90 = .ok (.bipush 10, 2) := by decide +kernel
theorem dX9_init_92 : decode cX9_init 92 = .ok (.if_icmp .ge 26, 3) := by decide +kernel
theorem dX9_init_95 : decode cX9_init 95 = .ok (.aload_n 0, 1) := by decide +kernel
theorem dX9_init_96 : decode cX9_init 96 = .ok (.getfield 16, 3) := by decide +kernel
theorem dX9_init_99 : decode cX9_init 99 = .ok (.iload_n 1, 1) := by decide +kernel
theorem dX9_init_100 : decode cX9_init 100 = .ok (.iload_n 1, 1) := by decide +kernel
theorem dX9_init_101 : decode cX9_init 101 = .ok (.iastore, 1) := by decide +kernel
theorem dX9_init_102 : decode cX9_init 102 = .ok (.aload_n 0, 1) := by decide +kernel
theorem dX9_init_103 : decode cX9_init 103 = .ok (.getfield 16, 3) := by decide +kernel
theorem dX9_init_106 : decode cX9_init 106 = .ok (.bipush 20, 2) := by decide +kernel
theorem dX9_init_108 : decode cX9_init 108 = .ok (.iload_n 1, 1) := by decide +kernel
theorem dX9_init_109 : decode cX9_init 109 = .ok (.iadd, 1) := by decide +kernel
theorem dX9_init_110 : decode cX9_init 110 = .ok (.iconst 1, 1) := by decide +kernel
theorem dX9_init_111 : decode cX9_init 111 = .ok (.iastore, 1) := by decide +kernel
theorem dX9_init_112 : decode cX9_init 112 = .ok (.iinc 1 1, 3) := by decide +kernel
theorem dX9_init_115 : decode cX9_init 115 = .ok (.goto (-26), 3) := by decide +kernel
theorem dX9_init_118 : decode cX9_init 118 = .ok (.iconst 0, 1) := by decide +kernel
theorem dX9_init_119 : decode cX9_init 119 = .ok (.istore_n 1, 1) := by decide +kernel
theorem dX9_init_120 : decode cX9_init 120 = .ok (.iload_n 1, 1) := by decide +kernel
theorem dX9_init_121 : decode cX9_init 121 = .ok (.bipush 8, 2) := by decide +kernel
theorem dX9_init_123 : decode cX9_init 123 = .ok (.if_icmp .ge 31, 3) := by decide +kernel
theorem dX9_init_126 : decode cX9_init 126 = .ok (.aload_n 0, 1) := by decide +kernel
theorem dX9_init_127 : decode cX9_init 127 = .ok (.getfield 7, 3) := by decide +kernel
theorem dX9_init_130 : decode cX9_init 130 = .ok (.bipush 10, 2) := by decide +kernel
theorem dX9_init_132 : decode cX9_init 132 = .ok (.iload_n 1, 1) := by decide +kernel
theorem dX9_init_133 : decode cX9_init 133 = .ok (.iadd, 1) := by decide +kernel
theorem dX9_init_134 : decode cX9_init 134 = .ok (.bipush (-6), 2) := by decide +kernel
theorem dX9_init_136 : decode cX9_init 136 = .ok (.iastore, 1) := by decide +kernel
theorem dX9_init_137 : decode cX9_init 137 = .ok (.aload_n 0, 1) := by decide +kernel
theorem dX9_init_138 : decode cX9_init 138 = .ok (.getfield 7, 3) := by decide +kernel
theorem dX9_init_141 : decode cX9_init 141 = .ok (.bipush 18, 2) := by decide +kernel
theorem dX9_init_143 : decode cX9_init 143 = .ok (.iload_n 1, 1) := by decide +kernel
theorem dX9_init_144 : decode cX9_init 144 = .ok (.iadd, 1) := by decide +kernel
theorem dX9_init_145 : decode cX9_init 145 = .ok (.bipush (-6), 2) := by decide +kernel
theorem dX9_init_147 : decode cX9_init 147 = .ok (.iastore, 1) := by decide +kernel
theorem dX9_init_148 : decode cX9_init 148 = .ok (.iinc 1 1, 3) := by decide +kernel
theorem dX9_init_151 : decode cX9_init 151 = .ok (.goto (-31), 3) := by decide +kernel
theorem dX9_init_154 : decode cX9_init 154 = .ok (.return_, 1) := by decide +kernel
def wtX9_init : List Cond := .code yX9_init cX9_init 2 none :: (([.methodLink RX9 1 objectInit, .instanceMethod objectInit, .code objectInit ⟨#[0xb1]⟩ 1 none, .arrayClass .int, .fieldLink RX9 7 "DriftKinModel" "book" "[I", .fieldLink RX9 13 "DriftKinModel" "now" "[I", .fieldLink RX9 16 "DriftKinModel" "of" "[I", .fieldLink RX9 19 "DriftKinModel" "sight" "[I", .fieldLink RX9 22 "DriftKinModel" "pad" "[I", .fieldLink RX9 25 "DriftKinModel" "lasts" "[I", .fieldLink RX9 28 "DriftKinModel" "fewest" "[I", .fieldLink RX9 31 "DriftKinModel" "twos" "[I", .fieldLink RX9 34 "DriftKinModel" "image" "[I", .arrayClass .boolean, .fieldLink RX9 37 "DriftKinModel" "isKept" "[Z"]) ++ ((u_ws RX9 TX9 15) ++ []))
theorem imX9_init_own : ∀ w ∈ ([.methodLink RX9 1 objectInit, .instanceMethod objectInit, .code objectInit ⟨#[0xb1]⟩ 1 none, .arrayClass .int, .fieldLink RX9 7 "DriftKinModel" "book" "[I", .fieldLink RX9 13 "DriftKinModel" "now" "[I", .fieldLink RX9 16 "DriftKinModel" "of" "[I", .fieldLink RX9 19 "DriftKinModel" "sight" "[I", .fieldLink RX9 22 "DriftKinModel" "pad" "[I", .fieldLink RX9 25 "DriftKinModel" "lasts" "[I", .fieldLink RX9 28 "DriftKinModel" "fewest" "[I", .fieldLink RX9 31 "DriftKinModel" "twos" "[I", .fieldLink RX9 34 "DriftKinModel" "image" "[I", .arrayClass .boolean, .fieldLink RX9 37 "DriftKinModel" "isKept" "[Z"] : List Cond), w ∈ wtX9_init := fun w h => List.mem_cons_of_mem _ (inl h)
theorem imX9_init_u_X9 : ∀ w ∈ (u_ws RX9 TX9 15 : List Cond), w ∈ wtX9_init := fun w h => List.mem_cons_of_mem _ (inr (inl h))
theorem gdX9_init : ∀ w ∈ wtX9_init, Gd w := gdc rfl (gda (gdl (by decide +kernel)) (gda (gdu _ _ _) gdn))
def fX9_init_120 (v_of : Nat → Int32) : Nat → (Nat → Int32) → Int32 → Option ((Nat → Int32) × (Nat → Int32))
  | 0, _, _ => none
  | n + 1, v_book, x1 =>
    if (8 : Int32) ≤ x1 then
      some (v_book, v_of)
    else
      chk ((10 : Int32) + x1) 35 (
        chk ((18 : Int32) + x1) 35 (
          fX9_init_120 v_of n (wr (wr v_book ((10 : Int32) + x1) (-6 : Int32)) ((18 : Int32) + x1) (-6 : Int32)) (x1 + (1 : Int32))))
def fX9_init_89 (v_book : Nat → Int32) : Nat → (Nat → Int32) → Int32 → Option ((Nat → Int32) × (Nat → Int32))
  | 0, _, _ => none
  | n + 1, v_of, x1 =>
    if (10 : Int32) ≤ x1 then
      fX9_init_120 v_of 2000 v_book (0 : Int32)
    else
      chk x1 60 (
        chk ((20 : Int32) + x1) 60 (
          fX9_init_89 v_book n (wr (wr v_of x1 x1) ((20 : Int32) + x1) (1 : Int32)) (x1 + (1 : Int32))))
def wdX9_init (cI cZ : ClassId) (q0 : Nat) (q1 : Nat) (q2 : Nat) (q3 : Nat) (q4 : Nat) (q5 : Nat) (q6 : Nat) (q7 : Nat) (q8 : Nat) (q9 : Nat) (q10 : Nat)  (v_sights : Int32) (v_signs : Int32) (v_weddings : Int32) (v_reason : Int32) (v_acts : Int32) (v_book : Nat → Int32) (v_now : Nat → Int32) (v_of : Nat → Int32) (v_sight : Nat → Int32) (v_pad : Nat → Int32) (v_lasts : Nat → Int32) (v_fewest : Nat → Int32) (v_twos : Nat → Int32) (v_image : Nat → Int32) (v_isKept : Nat → Int32) : va_W := [(q0, .inr (9, [.ref q1, .ref q2, .ref q3, .int v_sights, .ref q4, .int v_signs, .ref q5, .int v_weddings, .int v_reason, .int v_acts, .ref q6, .ref q7, .ref q8, .ref q9, .ref q10])), (q1, .inl (cI, 35, .inl v_book)), (q2, .inl (cI, 35, .inl v_now)), (q3, .inl (cI, 60, .inl v_of)), (q4, .inl (cI, 24, .inl v_sight)), (q5, .inl (cI, 60, .inl v_pad)), (q6, .inl (cI, 1024, .inl v_lasts)), (q7, .inl (cI, 1024, .inl v_fewest)), (q8, .inl (cI, 256, .inl v_twos)), (q9, .inl (cI, 260, .inl v_image)), (q10, .inl (cZ, 2, .inl v_isKept))]
def fX9_init : Option ((Nat → Int32) × (Nat → Int32)) :=
  fX9_init_89 (fun _ => 0) 2000 (fun _ => 0) (0 : Int32)
def icX9_init (cI cZ : ClassId) (h0 : Nat) (u : Nat → Nat) (r0 : Nat → Int32) (r1 : Nat → Int32) : va_W := [(h0, .inr (9, [.ref (u 0), .ref (u 1), .ref (u 2), .int (0 : Int32), .ref (u 3), .int (0 : Int32), .ref (u 4), .int (0 : Int32), .int (0 : Int32), .int (0 : Int32), .ref (u 5), .ref (u 6), .ref (u 7), .ref (u 8), .ref (u 9)])), (u 0, .inl (cI, 35, .inl r0)), (u 1, .inl (cI, 35, .inl (fun _ => 0))), (u 2, .inl (cI, 60, .inl r1)), (u 3, .inl (cI, 24, .inl (fun _ => 0))), (u 4, .inl (cI, 60, .inl (fun _ => 0))), (u 5, .inl (cI, 1024, .inl (fun _ => 0))), (u 6, .inl (cI, 1024, .inl (fun _ => 0))), (u 7, .inl (cI, 256, .inl (fun _ => 0))), (u 8, .inl (cI, 260, .inl (fun _ => 0))), (u 9, .inl (cZ, 2, .inl (fun _ => 0)))]
abbrev rmX9_init : Jvm.Room := { frames := 1, cells := 10, slots := 2780, locals := 12 }
theorem hyX9_init : yX9_init.cls ≠ "java/lang/invoke/MethodHandle" ∧ yX9_init.cls ≠ "java/lang/invoke/VarHandle" ∧ (parseMethodDescriptor yX9_init.desc).map (fun d => d.parameters.length) = some 0 := by decide +kernel
set_option maxHeartbeats 4000000 in
set_option maxRecDepth 100000 in
theorem mX9_init (l : Launch) (D : va_G) (cI cZ : ClassId) (q0 : Nat) (z : (Nat → Int32) × (Nat → Int32)) (hF : fX9_init = some z) : mpC l yX9_init wtX9_init rmX9_init D cI cZ [.ref q0] [(q0, .inr (9, [.null, .null, .null, .int 0, .null, .int 0, .null, .int 0, .int 0, .int 0, .null, .null, .null, .null, .null]))] none (fun u => icX9_init cI cZ q0 u z.1 z.2) 10 2780 := by
  refine mp_c (lv0 := [(0, .ref q0)]) cX9_init 2 (by decide) rfl (Nat.le_of_ble_eq_true rfl) rfl (fun E h hend0 => ?_)
  unfold fX9_init at hF
  refine g_aload_n (np := 1) h 0 rfl rfl dX9_init_0 rfl ?_
  refine g_objI (np := 4) h (imX9_init_own _ (List.mem_of_getElem? (i := 0) rfl)) (imX9_init_own _ (List.mem_of_getElem? (i := 1) rfl)) (imX9_init_own _ (List.mem_of_getElem? (i := 2) rfl)) rfl rfl dX9_init_1 rfl ?_
  refine g_aload_n (np := 5) h 0 rfl rfl dX9_init_4 rfl ?_
  refine g_bipush (np := 7) (v := (35 : Int32)) h (by decide) dX9_init_5 rfl ?_
  refine g_newa (np := 9) (N := 35) (k' := 1) (n' := 35) h (imX9_init_own _ (List.mem_of_getElem? (i := 3) rfl)) (by decide) (by decide) rfl rfl rfl rfl dX9_init_7 rfl (fun q1 => ?_)
  refine g_wd (Wd' := [(q0, .inr (9, [.null, .null, .null, .int (0 : Int32), .null, .int (0 : Int32), .null, .int (0 : Int32), .int (0 : Int32), .int (0 : Int32), .null, .null, .null, .null, .null])), (q1, .inl (cI, 35, .inl (fun _ => 0)))]) rfl ?_
  refine g_putF (np := 12) (T := TX9) (Wd' := [(q0, .inr (9, [.ref q1, .null, .null, .int (0 : Int32), .null, .int (0 : Int32), .null, .int (0 : Int32), .int (0 : Int32), .int (0 : Int32), .null, .null, .null, .null, .null])), (q1, .inl (cI, 35, .inl (fun _ => 0)))]) h imX9_init_u_X9 tyX9_ok nmX9 0 9 rfl rfl 0 (by decide) (imX9_init_own _ (List.mem_of_getElem? (i := 4) rfl)) rfl rfl rfl rfl rfl (Nat.le_of_ble_eq_true rfl) rfl dX9_init_9 rfl ?_
  refine g_aload_n (np := 13) h 0 rfl rfl dX9_init_12 rfl ?_
  refine g_bipush (np := 15) (v := (35 : Int32)) h (by decide) dX9_init_13 rfl ?_
  refine g_newa (np := 17) (N := 35) (k' := 2) (n' := 70) h (imX9_init_own _ (List.mem_of_getElem? (i := 3) rfl)) (by decide) (by decide) rfl rfl rfl rfl dX9_init_15 rfl (fun q2 => ?_)
  refine g_wd (Wd' := [(q0, .inr (9, [.ref q1, .null, .null, .int (0 : Int32), .null, .int (0 : Int32), .null, .int (0 : Int32), .int (0 : Int32), .int (0 : Int32), .null, .null, .null, .null, .null])), (q1, .inl (cI, 35, .inl (fun _ => 0))), (q2, .inl (cI, 35, .inl (fun _ => 0)))]) rfl ?_
  refine g_putF (np := 20) (T := TX9) (Wd' := [(q0, .inr (9, [.ref q1, .ref q2, .null, .int (0 : Int32), .null, .int (0 : Int32), .null, .int (0 : Int32), .int (0 : Int32), .int (0 : Int32), .null, .null, .null, .null, .null])), (q1, .inl (cI, 35, .inl (fun _ => 0))), (q2, .inl (cI, 35, .inl (fun _ => 0)))]) h imX9_init_u_X9 tyX9_ok nmX9 0 9 rfl rfl 1 (by decide) (imX9_init_own _ (List.mem_of_getElem? (i := 5) rfl)) rfl rfl rfl rfl rfl (Nat.le_of_ble_eq_true rfl) rfl dX9_init_17 rfl ?_
  refine g_aload_n (np := 21) h 0 rfl rfl dX9_init_20 rfl ?_
  refine g_bipush (np := 23) (v := (60 : Int32)) h (by decide) dX9_init_21 rfl ?_
  refine g_newa (np := 25) (N := 60) (k' := 3) (n' := 130) h (imX9_init_own _ (List.mem_of_getElem? (i := 3) rfl)) (by decide) (by decide) rfl rfl rfl rfl dX9_init_23 rfl (fun q3 => ?_)
  refine g_wd (Wd' := [(q0, .inr (9, [.ref q1, .ref q2, .null, .int (0 : Int32), .null, .int (0 : Int32), .null, .int (0 : Int32), .int (0 : Int32), .int (0 : Int32), .null, .null, .null, .null, .null])), (q1, .inl (cI, 35, .inl (fun _ => 0))), (q2, .inl (cI, 35, .inl (fun _ => 0))), (q3, .inl (cI, 60, .inl (fun _ => 0)))]) rfl ?_
  refine g_putF (np := 28) (T := TX9) (Wd' := [(q0, .inr (9, [.ref q1, .ref q2, .ref q3, .int (0 : Int32), .null, .int (0 : Int32), .null, .int (0 : Int32), .int (0 : Int32), .int (0 : Int32), .null, .null, .null, .null, .null])), (q1, .inl (cI, 35, .inl (fun _ => 0))), (q2, .inl (cI, 35, .inl (fun _ => 0))), (q3, .inl (cI, 60, .inl (fun _ => 0)))]) h imX9_init_u_X9 tyX9_ok nmX9 0 9 rfl rfl 2 (by decide) (imX9_init_own _ (List.mem_of_getElem? (i := 6) rfl)) rfl rfl rfl rfl rfl (Nat.le_of_ble_eq_true rfl) rfl dX9_init_25 rfl ?_
  refine g_aload_n (np := 29) h 0 rfl rfl dX9_init_28 rfl ?_
  refine g_bipush (np := 31) (v := (24 : Int32)) h (by decide) dX9_init_29 rfl ?_
  refine g_newa (np := 33) (N := 24) (k' := 4) (n' := 154) h (imX9_init_own _ (List.mem_of_getElem? (i := 3) rfl)) (by decide) (by decide) rfl rfl rfl rfl dX9_init_31 rfl (fun q4 => ?_)
  refine g_wd (Wd' := [(q0, .inr (9, [.ref q1, .ref q2, .ref q3, .int (0 : Int32), .null, .int (0 : Int32), .null, .int (0 : Int32), .int (0 : Int32), .int (0 : Int32), .null, .null, .null, .null, .null])), (q1, .inl (cI, 35, .inl (fun _ => 0))), (q2, .inl (cI, 35, .inl (fun _ => 0))), (q3, .inl (cI, 60, .inl (fun _ => 0))), (q4, .inl (cI, 24, .inl (fun _ => 0)))]) rfl ?_
  refine g_putF (np := 36) (T := TX9) (Wd' := [(q0, .inr (9, [.ref q1, .ref q2, .ref q3, .int (0 : Int32), .ref q4, .int (0 : Int32), .null, .int (0 : Int32), .int (0 : Int32), .int (0 : Int32), .null, .null, .null, .null, .null])), (q1, .inl (cI, 35, .inl (fun _ => 0))), (q2, .inl (cI, 35, .inl (fun _ => 0))), (q3, .inl (cI, 60, .inl (fun _ => 0))), (q4, .inl (cI, 24, .inl (fun _ => 0)))]) h imX9_init_u_X9 tyX9_ok nmX9 0 9 rfl rfl 4 (by decide) (imX9_init_own _ (List.mem_of_getElem? (i := 7) rfl)) rfl rfl rfl rfl rfl (Nat.le_of_ble_eq_true rfl) rfl dX9_init_33 rfl ?_
  refine g_aload_n (np := 37) h 0 rfl rfl dX9_init_36 rfl ?_
  refine g_bipush (np := 39) (v := (60 : Int32)) h (by decide) dX9_init_37 rfl ?_
  refine g_newa (np := 41) (N := 60) (k' := 5) (n' := 214) h (imX9_init_own _ (List.mem_of_getElem? (i := 3) rfl)) (by decide) (by decide) rfl rfl rfl rfl dX9_init_39 rfl (fun q5 => ?_)
  refine g_wd (Wd' := [(q0, .inr (9, [.ref q1, .ref q2, .ref q3, .int (0 : Int32), .ref q4, .int (0 : Int32), .null, .int (0 : Int32), .int (0 : Int32), .int (0 : Int32), .null, .null, .null, .null, .null])), (q1, .inl (cI, 35, .inl (fun _ => 0))), (q2, .inl (cI, 35, .inl (fun _ => 0))), (q3, .inl (cI, 60, .inl (fun _ => 0))), (q4, .inl (cI, 24, .inl (fun _ => 0))), (q5, .inl (cI, 60, .inl (fun _ => 0)))]) rfl ?_
  refine g_putF (np := 44) (T := TX9) (Wd' := [(q0, .inr (9, [.ref q1, .ref q2, .ref q3, .int (0 : Int32), .ref q4, .int (0 : Int32), .ref q5, .int (0 : Int32), .int (0 : Int32), .int (0 : Int32), .null, .null, .null, .null, .null])), (q1, .inl (cI, 35, .inl (fun _ => 0))), (q2, .inl (cI, 35, .inl (fun _ => 0))), (q3, .inl (cI, 60, .inl (fun _ => 0))), (q4, .inl (cI, 24, .inl (fun _ => 0))), (q5, .inl (cI, 60, .inl (fun _ => 0)))]) h imX9_init_u_X9 tyX9_ok nmX9 0 9 rfl rfl 6 (by decide) (imX9_init_own _ (List.mem_of_getElem? (i := 8) rfl)) rfl rfl rfl rfl rfl (Nat.le_of_ble_eq_true rfl) rfl dX9_init_41 rfl ?_
  refine g_aload_n (np := 45) h 0 rfl rfl dX9_init_44 rfl ?_
  refine g_sipush (np := 48) (v := (1024 : Int32)) h (by decide) dX9_init_45 rfl ?_
  refine g_newa (np := 50) (N := 1024) (k' := 6) (n' := 1238) h (imX9_init_own _ (List.mem_of_getElem? (i := 3) rfl)) (by decide) (by decide) rfl rfl rfl rfl dX9_init_48 rfl (fun q6 => ?_)
  refine g_wd (Wd' := [(q0, .inr (9, [.ref q1, .ref q2, .ref q3, .int (0 : Int32), .ref q4, .int (0 : Int32), .ref q5, .int (0 : Int32), .int (0 : Int32), .int (0 : Int32), .null, .null, .null, .null, .null])), (q1, .inl (cI, 35, .inl (fun _ => 0))), (q2, .inl (cI, 35, .inl (fun _ => 0))), (q3, .inl (cI, 60, .inl (fun _ => 0))), (q4, .inl (cI, 24, .inl (fun _ => 0))), (q5, .inl (cI, 60, .inl (fun _ => 0))), (q6, .inl (cI, 1024, .inl (fun _ => 0)))]) rfl ?_
  refine g_putF (np := 53) (T := TX9) (Wd' := [(q0, .inr (9, [.ref q1, .ref q2, .ref q3, .int (0 : Int32), .ref q4, .int (0 : Int32), .ref q5, .int (0 : Int32), .int (0 : Int32), .int (0 : Int32), .ref q6, .null, .null, .null, .null])), (q1, .inl (cI, 35, .inl (fun _ => 0))), (q2, .inl (cI, 35, .inl (fun _ => 0))), (q3, .inl (cI, 60, .inl (fun _ => 0))), (q4, .inl (cI, 24, .inl (fun _ => 0))), (q5, .inl (cI, 60, .inl (fun _ => 0))), (q6, .inl (cI, 1024, .inl (fun _ => 0)))]) h imX9_init_u_X9 tyX9_ok nmX9 0 9 rfl rfl 10 (by decide) (imX9_init_own _ (List.mem_of_getElem? (i := 9) rfl)) rfl rfl rfl rfl rfl (Nat.le_of_ble_eq_true rfl) rfl dX9_init_50 rfl ?_
  refine g_aload_n (np := 54) h 0 rfl rfl dX9_init_53 rfl ?_
  refine g_sipush (np := 57) (v := (1024 : Int32)) h (by decide) dX9_init_54 rfl ?_
  refine g_newa (np := 59) (N := 1024) (k' := 7) (n' := 2262) h (imX9_init_own _ (List.mem_of_getElem? (i := 3) rfl)) (by decide) (by decide) rfl rfl rfl rfl dX9_init_57 rfl (fun q7 => ?_)
  refine g_wd (Wd' := [(q0, .inr (9, [.ref q1, .ref q2, .ref q3, .int (0 : Int32), .ref q4, .int (0 : Int32), .ref q5, .int (0 : Int32), .int (0 : Int32), .int (0 : Int32), .ref q6, .null, .null, .null, .null])), (q1, .inl (cI, 35, .inl (fun _ => 0))), (q2, .inl (cI, 35, .inl (fun _ => 0))), (q3, .inl (cI, 60, .inl (fun _ => 0))), (q4, .inl (cI, 24, .inl (fun _ => 0))), (q5, .inl (cI, 60, .inl (fun _ => 0))), (q6, .inl (cI, 1024, .inl (fun _ => 0))), (q7, .inl (cI, 1024, .inl (fun _ => 0)))]) rfl ?_
  refine g_putF (np := 62) (T := TX9) (Wd' := [(q0, .inr (9, [.ref q1, .ref q2, .ref q3, .int (0 : Int32), .ref q4, .int (0 : Int32), .ref q5, .int (0 : Int32), .int (0 : Int32), .int (0 : Int32), .ref q6, .ref q7, .null, .null, .null])), (q1, .inl (cI, 35, .inl (fun _ => 0))), (q2, .inl (cI, 35, .inl (fun _ => 0))), (q3, .inl (cI, 60, .inl (fun _ => 0))), (q4, .inl (cI, 24, .inl (fun _ => 0))), (q5, .inl (cI, 60, .inl (fun _ => 0))), (q6, .inl (cI, 1024, .inl (fun _ => 0))), (q7, .inl (cI, 1024, .inl (fun _ => 0)))]) h imX9_init_u_X9 tyX9_ok nmX9 0 9 rfl rfl 11 (by decide) (imX9_init_own _ (List.mem_of_getElem? (i := 10) rfl)) rfl rfl rfl rfl rfl (Nat.le_of_ble_eq_true rfl) rfl dX9_init_59 rfl ?_
  refine g_aload_n (np := 63) h 0 rfl rfl dX9_init_62 rfl ?_
  refine g_sipush (np := 66) (v := (256 : Int32)) h (by decide) dX9_init_63 rfl ?_
  refine g_newa (np := 68) (N := 256) (k' := 8) (n' := 2518) h (imX9_init_own _ (List.mem_of_getElem? (i := 3) rfl)) (by decide) (by decide) rfl rfl rfl rfl dX9_init_66 rfl (fun q8 => ?_)
  refine g_wd (Wd' := [(q0, .inr (9, [.ref q1, .ref q2, .ref q3, .int (0 : Int32), .ref q4, .int (0 : Int32), .ref q5, .int (0 : Int32), .int (0 : Int32), .int (0 : Int32), .ref q6, .ref q7, .null, .null, .null])), (q1, .inl (cI, 35, .inl (fun _ => 0))), (q2, .inl (cI, 35, .inl (fun _ => 0))), (q3, .inl (cI, 60, .inl (fun _ => 0))), (q4, .inl (cI, 24, .inl (fun _ => 0))), (q5, .inl (cI, 60, .inl (fun _ => 0))), (q6, .inl (cI, 1024, .inl (fun _ => 0))), (q7, .inl (cI, 1024, .inl (fun _ => 0))), (q8, .inl (cI, 256, .inl (fun _ => 0)))]) rfl ?_
  refine g_putF (np := 71) (T := TX9) (Wd' := [(q0, .inr (9, [.ref q1, .ref q2, .ref q3, .int (0 : Int32), .ref q4, .int (0 : Int32), .ref q5, .int (0 : Int32), .int (0 : Int32), .int (0 : Int32), .ref q6, .ref q7, .ref q8, .null, .null])), (q1, .inl (cI, 35, .inl (fun _ => 0))), (q2, .inl (cI, 35, .inl (fun _ => 0))), (q3, .inl (cI, 60, .inl (fun _ => 0))), (q4, .inl (cI, 24, .inl (fun _ => 0))), (q5, .inl (cI, 60, .inl (fun _ => 0))), (q6, .inl (cI, 1024, .inl (fun _ => 0))), (q7, .inl (cI, 1024, .inl (fun _ => 0))), (q8, .inl (cI, 256, .inl (fun _ => 0)))]) h imX9_init_u_X9 tyX9_ok nmX9 0 9 rfl rfl 12 (by decide) (imX9_init_own _ (List.mem_of_getElem? (i := 11) rfl)) rfl rfl rfl rfl rfl (Nat.le_of_ble_eq_true rfl) rfl dX9_init_68 rfl ?_
  refine g_aload_n (np := 72) h 0 rfl rfl dX9_init_71 rfl ?_
  refine g_sipush (np := 75) (v := (260 : Int32)) h (by decide) dX9_init_72 rfl ?_
  refine g_newa (np := 77) (N := 260) (k' := 9) (n' := 2778) h (imX9_init_own _ (List.mem_of_getElem? (i := 3) rfl)) (by decide) (by decide) rfl rfl rfl rfl dX9_init_75 rfl (fun q9 => ?_)
  refine g_wd (Wd' := [(q0, .inr (9, [.ref q1, .ref q2, .ref q3, .int (0 : Int32), .ref q4, .int (0 : Int32), .ref q5, .int (0 : Int32), .int (0 : Int32), .int (0 : Int32), .ref q6, .ref q7, .ref q8, .null, .null])), (q1, .inl (cI, 35, .inl (fun _ => 0))), (q2, .inl (cI, 35, .inl (fun _ => 0))), (q3, .inl (cI, 60, .inl (fun _ => 0))), (q4, .inl (cI, 24, .inl (fun _ => 0))), (q5, .inl (cI, 60, .inl (fun _ => 0))), (q6, .inl (cI, 1024, .inl (fun _ => 0))), (q7, .inl (cI, 1024, .inl (fun _ => 0))), (q8, .inl (cI, 256, .inl (fun _ => 0))), (q9, .inl (cI, 260, .inl (fun _ => 0)))]) rfl ?_
  refine g_putF (np := 80) (T := TX9) (Wd' := [(q0, .inr (9, [.ref q1, .ref q2, .ref q3, .int (0 : Int32), .ref q4, .int (0 : Int32), .ref q5, .int (0 : Int32), .int (0 : Int32), .int (0 : Int32), .ref q6, .ref q7, .ref q8, .ref q9, .null])), (q1, .inl (cI, 35, .inl (fun _ => 0))), (q2, .inl (cI, 35, .inl (fun _ => 0))), (q3, .inl (cI, 60, .inl (fun _ => 0))), (q4, .inl (cI, 24, .inl (fun _ => 0))), (q5, .inl (cI, 60, .inl (fun _ => 0))), (q6, .inl (cI, 1024, .inl (fun _ => 0))), (q7, .inl (cI, 1024, .inl (fun _ => 0))), (q8, .inl (cI, 256, .inl (fun _ => 0))), (q9, .inl (cI, 260, .inl (fun _ => 0)))]) h imX9_init_u_X9 tyX9_ok nmX9 0 9 rfl rfl 13 (by decide) (imX9_init_own _ (List.mem_of_getElem? (i := 12) rfl)) rfl rfl rfl rfl rfl (Nat.le_of_ble_eq_true rfl) rfl dX9_init_77 rfl ?_
  refine g_aload_n (np := 81) h 0 rfl rfl dX9_init_80 rfl ?_
  refine g_iconst (np := 82) (v := (2 : Int32)) h (by decide) dX9_init_81 rfl ?_
  refine g_newz (np := 84) (N := 2) (k' := 10) (n' := 2780) h (imX9_init_own _ (List.mem_of_getElem? (i := 13) rfl)) (by decide) (by decide) rfl rfl rfl rfl dX9_init_82 rfl (fun q10 => ?_)
  refine g_wd (Wd' := [(q0, .inr (9, [.ref q1, .ref q2, .ref q3, .int (0 : Int32), .ref q4, .int (0 : Int32), .ref q5, .int (0 : Int32), .int (0 : Int32), .int (0 : Int32), .ref q6, .ref q7, .ref q8, .ref q9, .null])), (q1, .inl (cI, 35, .inl (fun _ => 0))), (q2, .inl (cI, 35, .inl (fun _ => 0))), (q3, .inl (cI, 60, .inl (fun _ => 0))), (q4, .inl (cI, 24, .inl (fun _ => 0))), (q5, .inl (cI, 60, .inl (fun _ => 0))), (q6, .inl (cI, 1024, .inl (fun _ => 0))), (q7, .inl (cI, 1024, .inl (fun _ => 0))), (q8, .inl (cI, 256, .inl (fun _ => 0))), (q9, .inl (cI, 260, .inl (fun _ => 0))), (q10, .inl (cZ, 2, .inl (fun _ => 0)))]) rfl ?_
  refine g_putF (np := 87) (T := TX9) (Wd' := [(q0, .inr (9, [.ref q1, .ref q2, .ref q3, .int (0 : Int32), .ref q4, .int (0 : Int32), .ref q5, .int (0 : Int32), .int (0 : Int32), .int (0 : Int32), .ref q6, .ref q7, .ref q8, .ref q9, .ref q10])), (q1, .inl (cI, 35, .inl (fun _ => 0))), (q2, .inl (cI, 35, .inl (fun _ => 0))), (q3, .inl (cI, 60, .inl (fun _ => 0))), (q4, .inl (cI, 24, .inl (fun _ => 0))), (q5, .inl (cI, 60, .inl (fun _ => 0))), (q6, .inl (cI, 1024, .inl (fun _ => 0))), (q7, .inl (cI, 1024, .inl (fun _ => 0))), (q8, .inl (cI, 256, .inl (fun _ => 0))), (q9, .inl (cI, 260, .inl (fun _ => 0))), (q10, .inl (cZ, 2, .inl (fun _ => 0)))]) h imX9_init_u_X9 tyX9_ok nmX9 0 9 rfl rfl 14 (by decide) (imX9_init_own _ (List.mem_of_getElem? (i := 14) rfl)) rfl rfl rfl rfl rfl (Nat.le_of_ble_eq_true rfl) rfl dX9_init_84 rfl ?_
  refine g_wd (Wd' := (wdX9_init cI cZ q0 q1 q2 q3 q4 q5 q6 q7 q8 q9 q10 (0 : Int32) (0 : Int32) (0 : Int32) (0 : Int32) (0 : Int32) (fun _ => 0) (fun _ => 0) (fun _ => 0) (fun _ => 0) (fun _ => 0) (fun _ => 0) (fun _ => 0) (fun _ => 0) (fun _ => 0) (fun _ => 0))) rfl ?_
  have hend : ∀ (z' : (Nat → Int32) × (Nat → Int32)), some z' = some z → ∀ (pc : Nat) (lv : List (Nat × Value)), decode cX9_init pc = .ok (.return_, 1) → G l D E 2 10 2780 (wdX9_init cI cZ q0 q1 q2 q3 q4 q5 q6 q7 q8 q9 q10 (0 : Int32) (0 : Int32) (0 : Int32) (0 : Int32) (0 : Int32) (z'.1) (fun _ => 0) (z'.2) (fun _ => 0) (fun _ => 0) (fun _ => 0) (fun _ => 0) (fun _ => 0) (fun _ => 0) (fun _ => 0)) pc lv [] := fun z' e pc lv hd => by cases e; exact hend0 (fun k => ([q1, q2, q3, q4, q5, q6, q7, q8, q9, q10] : List Nat).getD k 0) pc lv hd
  have hL120 : ∀ (n120 : Nat) (v_book : Nat → Int32) (v_of : Nat → Int32) (x1 : Int32), fX9_init_120 v_of n120 v_book x1 = some z → G l D E 2 10 2780 (wdX9_init cI cZ q0 q1 q2 q3 q4 q5 q6 q7 q8 q9 q10 (0 : Int32) (0 : Int32) (0 : Int32) (0 : Int32) (0 : Int32) v_book (fun _ => 0) v_of (fun _ => 0) (fun _ => 0) (fun _ => 0) (fun _ => 0) (fun _ => 0) (fun _ => 0) (fun _ => 0)) 120 [(0, .ref q0), (1, .int x1)] [] := by
    intro n120
    induction n120 with
    | zero =>
      intro v_book v_of x1 hF
      rw [fX9_init_120] at hF
      cases hF
    | succ n120 ih120 =>
      intro v_book v_of x1 hF
      rw [fX9_init_120] at hF
      refine g_iload_n (np := 121) h 1 rfl rfl dX9_init_120 rfl ?_
      refine g_bipush (np := 123) (v := (8 : Int32)) h (by decide) dX9_init_121 rfl ?_
      refine g_icmp_ge h hF dX9_init_123 (np := 126) rfl (tg := 154) rfl (fun c1001 hF => ?_) (fun c1001 hF => ?_)
      · exact hend _ hF _ _ dX9_init_154
      · refine g_aload_n (np := 127) h 0 rfl rfl dX9_init_126 rfl ?_
        refine g_get (np := 130) (T := TX9) h imX9_init_u_X9 0 9 rfl rfl 0 (by decide) (imX9_init_own _ (List.mem_of_getElem? (i := 4) rfl)) rfl dX9_init_127 rfl ?_
        refine g_bipush (np := 132) (v := (10 : Int32)) h (by decide) dX9_init_130 rfl ?_
        refine g_iload_n (np := 133) h 1 rfl rfl dX9_init_132 rfl ?_
        refine g_iadd (np := 134) h dX9_init_133 rfl ?_
        refine g_bipush (np := 136) (v := (-6 : Int32)) h (by decide) dX9_init_134 rfl ?_
        refine g_iast (np := 137) (Wd' := (wdX9_init cI cZ q0 q1 q2 q3 q4 q5 q6 q7 q8 q9 q10 (0 : Int32) (0 : Int32) (0 : Int32) (0 : Int32) (0 : Int32) (wr v_book ((10 : Int32) + x1) (-6 : Int32)) (fun _ => 0) v_of (fun _ => 0) (fun _ => 0) (fun _ => 0) (fun _ => 0) (fun _ => 0) (fun _ => 0) (fun _ => 0))) h 1 rfl hF rfl dX9_init_136 rfl (fun hi1002 hF => ?_)
        refine g_aload_n (np := 138) h 0 rfl rfl dX9_init_137 rfl ?_
        refine g_get (np := 141) (T := TX9) h imX9_init_u_X9 0 9 rfl rfl 0 (by decide) (imX9_init_own _ (List.mem_of_getElem? (i := 4) rfl)) rfl dX9_init_138 rfl ?_
        refine g_bipush (np := 143) (v := (18 : Int32)) h (by decide) dX9_init_141 rfl ?_
        refine g_iload_n (np := 144) h 1 rfl rfl dX9_init_143 rfl ?_
        refine g_iadd (np := 145) h dX9_init_144 rfl ?_
        refine g_bipush (np := 147) (v := (-6 : Int32)) h (by decide) dX9_init_145 rfl ?_
        refine g_iast (np := 148) (Wd' := (wdX9_init cI cZ q0 q1 q2 q3 q4 q5 q6 q7 q8 q9 q10 (0 : Int32) (0 : Int32) (0 : Int32) (0 : Int32) (0 : Int32) (wr (wr v_book ((10 : Int32) + x1) (-6 : Int32)) ((18 : Int32) + x1) (-6 : Int32)) (fun _ => 0) v_of (fun _ => 0) (fun _ => 0) (fun _ => 0) (fun _ => 0) (fun _ => 0) (fun _ => 0) (fun _ => 0))) h 1 rfl hF rfl dX9_init_147 rfl (fun hi1003 hF => ?_)
        refine g_iinc (np := 151) (v := (x1 + (1 : Int32))) (lv' := [(1, .int (x1 + (1 : Int32))), (0, .ref q0)]) h 1 rfl rfl (by decide) rfl dX9_init_148 rfl ?_
        refine g_goto h dX9_init_151 (np := 120) rfl ?_
        refine g_lv [1, 0] rfl ?_
        exact ih120 (wr (wr v_book ((10 : Int32) + x1) (-6 : Int32)) ((18 : Int32) + x1) (-6 : Int32)) v_of (x1 + (1 : Int32)) hF
  have hL89 : ∀ (n89 : Nat) (v_book : Nat → Int32) (v_of : Nat → Int32) (x1 : Int32), fX9_init_89 v_book n89 v_of x1 = some z → G l D E 2 10 2780 (wdX9_init cI cZ q0 q1 q2 q3 q4 q5 q6 q7 q8 q9 q10 (0 : Int32) (0 : Int32) (0 : Int32) (0 : Int32) (0 : Int32) v_book (fun _ => 0) v_of (fun _ => 0) (fun _ => 0) (fun _ => 0) (fun _ => 0) (fun _ => 0) (fun _ => 0) (fun _ => 0)) 89 [(0, .ref q0), (1, .int x1)] [] := by
    intro n89
    induction n89 with
    | zero =>
      intro v_book v_of x1 hF
      rw [fX9_init_89] at hF
      cases hF
    | succ n89 ih89 =>
      intro v_book v_of x1 hF
      rw [fX9_init_89] at hF
      refine g_iload_n (np := 90) h 1 rfl rfl dX9_init_89 rfl ?_
      refine g_bipush (np := 92) (v := (10 : Int32)) h (by decide) dX9_init_90 rfl ?_
      refine g_icmp_ge h hF dX9_init_92 (np := 95) rfl (tg := 118) rfl (fun c2001 hF => ?_) (fun c2001 hF => ?_)
      · refine g_iconst (np := 119) (v := (0 : Int32)) h (by decide) dX9_init_118 rfl ?_
        refine g_istore_n (np := 120) (lv' := [(1, .int (0 : Int32)), (0, .ref q0)]) h rfl (by decide) rfl dX9_init_119 rfl ?_
        refine g_lv [1, 0] rfl ?_
        exact hL120 _ v_book v_of (0 : Int32) hF
      · refine g_aload_n (np := 96) h 0 rfl rfl dX9_init_95 rfl ?_
        refine g_get (np := 99) (T := TX9) h imX9_init_u_X9 0 9 rfl rfl 2 (by decide) (imX9_init_own _ (List.mem_of_getElem? (i := 6) rfl)) rfl dX9_init_96 rfl ?_
        refine g_iload_n (np := 100) h 1 rfl rfl dX9_init_99 rfl ?_
        refine g_iload_n (np := 101) h 1 rfl rfl dX9_init_100 rfl ?_
        refine g_iast (np := 102) (Wd' := (wdX9_init cI cZ q0 q1 q2 q3 q4 q5 q6 q7 q8 q9 q10 (0 : Int32) (0 : Int32) (0 : Int32) (0 : Int32) (0 : Int32) v_book (fun _ => 0) (wr v_of x1 x1) (fun _ => 0) (fun _ => 0) (fun _ => 0) (fun _ => 0) (fun _ => 0) (fun _ => 0) (fun _ => 0))) h 3 rfl hF rfl dX9_init_101 rfl (fun hi2002 hF => ?_)
        refine g_aload_n (np := 103) h 0 rfl rfl dX9_init_102 rfl ?_
        refine g_get (np := 106) (T := TX9) h imX9_init_u_X9 0 9 rfl rfl 2 (by decide) (imX9_init_own _ (List.mem_of_getElem? (i := 6) rfl)) rfl dX9_init_103 rfl ?_
        refine g_bipush (np := 108) (v := (20 : Int32)) h (by decide) dX9_init_106 rfl ?_
        refine g_iload_n (np := 109) h 1 rfl rfl dX9_init_108 rfl ?_
        refine g_iadd (np := 110) h dX9_init_109 rfl ?_
        refine g_iconst (np := 111) (v := (1 : Int32)) h (by decide) dX9_init_110 rfl ?_
        refine g_iast (np := 112) (Wd' := (wdX9_init cI cZ q0 q1 q2 q3 q4 q5 q6 q7 q8 q9 q10 (0 : Int32) (0 : Int32) (0 : Int32) (0 : Int32) (0 : Int32) v_book (fun _ => 0) (wr (wr v_of x1 x1) ((20 : Int32) + x1) (1 : Int32)) (fun _ => 0) (fun _ => 0) (fun _ => 0) (fun _ => 0) (fun _ => 0) (fun _ => 0) (fun _ => 0))) h 3 rfl hF rfl dX9_init_111 rfl (fun hi2003 hF => ?_)
        refine g_iinc (np := 115) (v := (x1 + (1 : Int32))) (lv' := [(1, .int (x1 + (1 : Int32))), (0, .ref q0)]) h 1 rfl rfl (by decide) rfl dX9_init_112 rfl ?_
        refine g_goto h dX9_init_115 (np := 89) rfl ?_
        refine g_lv [1, 0] rfl ?_
        exact ih89 v_book (wr (wr v_of x1 x1) ((20 : Int32) + x1) (1 : Int32)) (x1 + (1 : Int32)) hF
  refine g_iconst (np := 88) (v := (0 : Int32)) h (by decide) dX9_init_87 rfl ?_
  refine g_istore_n (np := 89) (lv' := [(1, .int (0 : Int32)), (0, .ref q0)]) h rfl (by decide) rfl dX9_init_88 rfl ?_
  refine g_lv [1, 0] rfl ?_
  exact hL89 _ (fun _ => 0) (fun _ => 0) (0 : Int32) hF
