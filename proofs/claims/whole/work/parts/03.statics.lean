theorem dX8_within_0 : decode cX8_within 0 = .ok (.iload_n 0, 1) := by decide +kernel
theorem dX8_within_1 : decode cX8_within 1 = .ok (.iload_n 1, 1) := by decide +kernel
theorem dX8_within_2 : decode cX8_within 2 = .ok (.if_icmp .lt 12, 3) := by decide +kernel
theorem dX8_within_5 : decode cX8_within 5 = .ok (.iload_n 0, 1) := by decide +kernel
theorem dX8_within_6 : decode cX8_within 6 = .ok (.iload_n 2, 1) := by decide +kernel
theorem dX8_within_7 : decode cX8_within 7 = .ok (.if_icmp .gt 7, 3) := by decide +kernel
theorem dX8_within_10 : decode cX8_within 10 = .ok (.iconst 1, 1) := by decide +kernel
theorem dX8_within_11 : decode cX8_within 11 = .ok (.goto 4, 3) := by decide +kernel
theorem dX8_within_14 : decode cX8_within 14 = .ok (.iconst 0, 1) := by decide +kernel
theorem dX8_within_15 : decode cX8_within 15 = .ok (.ireturn, 1) := by decide +kernel
def wtX8_within : List Cond := .code yX8_within cX8_within 3 (some .boolean) :: (([]) ++ [])
theorem imX8_within_own : ∀ w ∈ ([] : List Cond), w ∈ wtX8_within := fun w h => List.mem_cons_of_mem _ (inl h)
theorem gdX8_within : ∀ w ∈ wtX8_within, Gd w := gdc rfl (gda (gdl (by decide +kernel)) gdn)
def fX8_within (x0 : Int32) (x1 : Int32) (x2 : Int32) : Option (Int32) :=
  if x0 < x1 then
    some (0 : Int32)
  else
    if x2 < x0 then
      some (0 : Int32)
    else
      some (1 : Int32)
def wdX8_within (cI cZ : ClassId)    : va_W := []
abbrev rmX8_within : Jvm.Room := { frames := 0, cells := 0, slots := 0, locals := 0 }
theorem hyX8_within : yX8_within.cls ≠ "java/lang/invoke/MethodHandle" ∧ yX8_within.cls ≠ "java/lang/invoke/VarHandle" ∧ (parseMethodDescriptor yX8_within.desc).map (fun d => d.parameters.length) = some 3 := by decide +kernel
set_option maxHeartbeats 4000000 in
set_option maxRecDepth 100000 in
theorem mX8_within (l : Launch) (D : va_G) (cI cZ : ClassId) (x0 : Int32) (x1 : Int32) (x2 : Int32) (z : Int32) (hF : fX8_within x0 x1 x2 = some z) : mp l yX8_within wtX8_within rmX8_within D cI cZ [.int x0, .int x1, .int x2] (wdX8_within cI cZ ) (some (.int z)) (wdX8_within cI cZ ) := by
  refine mp_z (lv0 := [(0, .int x0), (1, .int x1), (2, .int x2)]) cX8_within 3 z (by decide) rfl (Nat.le_of_ble_eq_true rfl) rfl (fun E h hend0 => ?_)
  have hend : ∀ (z' : Int32), some z' = some z → ∀ (pc : Nat) (lv : List (Nat × Value)), z' = z' &&& 1 → decode cX8_within pc = .ok (.ireturn, 1) → G l D E 3 0 0 (wdX8_within cI cZ ) pc lv [.int z'] := fun z' e => by cases e; exact hend0
  clear hend0
  unfold fX8_within at hF
  refine g_iload_n (np := 1) h 0 rfl rfl dX8_within_0 rfl ?_
  refine g_iload_n (np := 2) h 1 rfl rfl dX8_within_1 rfl ?_
  refine g_icmp_lt h hF dX8_within_2 (np := 5) rfl (tg := 14) rfl (fun c1 hF => ?_) (fun c1 hF => ?_)
  · refine g_iconst (np := 15) (v := (0 : Int32)) h (by decide) dX8_within_14 rfl ?_
    exact hend _ hF _ _ zb0 dX8_within_15
  · refine g_iload_n (np := 6) h 0 rfl rfl dX8_within_5 rfl ?_
    refine g_iload_n (np := 7) h 2 rfl rfl dX8_within_6 rfl ?_
    refine g_icmp_gt h hF dX8_within_7 (np := 10) rfl (tg := 14) rfl (fun c2 hF => ?_) (fun c2 hF => ?_)
    · refine g_iconst (np := 15) (v := (0 : Int32)) h (by decide) dX8_within_14 rfl ?_
      exact hend _ hF _ _ zb0 dX8_within_15
    · refine g_iconst (np := 11) (v := (1 : Int32)) h (by decide) dX8_within_10 rfl ?_
      refine g_goto h dX8_within_11 (np := 15) rfl ?_
      exact hend _ hF _ _ zb1 dX8_within_15
theorem dX8_isPiece_0 : decode cX8_isPiece 0 = .ok (.iload_n 0, 1) := by decide +kernel
theorem dX8_isPiece_1 : decode cX8_isPiece 1 = .ok (.iconst 0, 1) := by decide +kernel
theorem dX8_isPiece_2 : decode cX8_isPiece 2 = .ok (.bipush 9, 2) := by decide +kernel
theorem dX8_isPiece_4 : decode cX8_isPiece 4 = .ok (.invokestatic 61, 3) := by decide +kernel
theorem dX8_isPiece_7 : decode cX8_isPiece 7 = .ok (.ireturn, 1) := by decide +kernel
def wtX8_isPiece : List Cond := .code yX8_isPiece cX8_isPiece 1 (some .boolean) :: (([]) ++ ((va_wsS RX8 61 yX8_within wtX8_within) ++ []))
theorem imX8_isPiece_own : ∀ w ∈ ([] : List Cond), w ∈ wtX8_isPiece := fun w h => List.mem_cons_of_mem _ (inl h)
theorem imX8_isPiece_c_X8_within : ∀ w ∈ (va_wsS RX8 61 yX8_within wtX8_within : List Cond), w ∈ wtX8_isPiece := fun w h => List.mem_cons_of_mem _ (inr (inl h))
theorem gdX8_isPiece : ∀ w ∈ wtX8_isPiece, Gd w := gdc rfl (gda (gdl (by decide +kernel)) (gda (gda (gdl (by decide +kernel)) gdX8_within) gdn))
theorem gcX8_isPiece_X8_within : GoodIn wtX8_isPiece (va_wsS RX8 61 yX8_within wtX8_within) := fun w h => ⟨imX8_isPiece_c_X8_within w h, (gda (gdl (by decide +kernel)) gdX8_within) w h⟩
def fX8_isPiece (x0 : Int32) : Option (Int32) :=
  (fX8_within x0 (0 : Int32) (9 : Int32)).bind (fun r1 =>
    (bz r1).bind (fun r2 =>
      some r2))
def wdX8_isPiece (cI cZ : ClassId)    : va_W := []
abbrev rmX8_isPiece : Jvm.Room := { frames := 1, cells := 0, slots := 0, locals := 22 }
theorem hyX8_isPiece : yX8_isPiece.cls ≠ "java/lang/invoke/MethodHandle" ∧ yX8_isPiece.cls ≠ "java/lang/invoke/VarHandle" ∧ (parseMethodDescriptor yX8_isPiece.desc).map (fun d => d.parameters.length) = some 1 := by decide +kernel
set_option maxHeartbeats 4000000 in
set_option maxRecDepth 100000 in
theorem mX8_isPiece (l : Launch) (D : va_G) (cI cZ : ClassId) (x0 : Int32) (z : Int32) (hF : fX8_isPiece x0 = some z) : mp l yX8_isPiece wtX8_isPiece rmX8_isPiece D cI cZ [.int x0] (wdX8_isPiece cI cZ ) (some (.int z)) (wdX8_isPiece cI cZ ) := by
  refine mp_z (lv0 := [(0, .int x0)]) cX8_isPiece 1 z (by decide) rfl (Nat.le_of_ble_eq_true rfl) rfl (fun E h hend0 => ?_)
  have hend : ∀ (z' : Int32), some z' = some z → ∀ (pc : Nat) (lv : List (Nat × Value)), z' = z' &&& 1 → decode cX8_isPiece pc = .ok (.ireturn, 1) → G l D E 1 0 0 (wdX8_isPiece cI cZ ) pc lv [.int z'] := fun z' e => by cases e; exact hend0
  clear hend0
  unfold fX8_isPiece at hF
  refine g_iload_n (np := 1) h 0 rfl rfl dX8_isPiece_0 rfl ?_
  refine g_iconst (np := 2) (v := (0 : Int32)) h (by decide) dX8_isPiece_1 rfl ?_
  refine g_bipush (np := 4) (v := (9 : Int32)) h (by decide) dX8_isPiece_2 rfl ?_
  obtain ⟨r1, hr1, hF⟩ := Option.bind_eq_some_iff.mp hF
  refine g_callS (np := 7) (Wd' := (wdX8_isPiece cI cZ )) (As := [.int x0, .int (0 : Int32), .int (9 : Int32)]) h (mX8_within l D cI cZ x0 (0 : Int32) (9 : Int32) r1 hr1) gcX8_isPiece_X8_within rfl ⟨rfl, rfl⟩ hyX8_within rfl rfl rfl rfl ⟨Nat.zero_le _, Nat.zero_le _⟩ [] [] (N := 0) (by decide +kernel) rfl rfl rfl rfl rfl dX8_isPiece_4 rfl ?_
  obtain ⟨r2, hr2, hF⟩ := Option.bind_eq_some_iff.mp hF
  obtain ⟨hbr2, her2⟩ := bz_e hr2
  subst her2
  exact hend _ hF _ _ hbr2 dX8_isPiece_7
theorem dX8_isHouse_0 : decode cX8_isHouse 0 = .ok (.iload_n 0, 1) := by decide +kernel
theorem dX8_isHouse_1 : decode cX8_isHouse 1 = .ok (.iconst 0, 1) := by decide +kernel
theorem dX8_isHouse_2 : decode cX8_isHouse 2 = .ok (.bipush 7, 2) := by decide +kernel
theorem dX8_isHouse_4 : decode cX8_isHouse 4 = .ok (.invokestatic 61, 3) := by decide +kernel
theorem dX8_isHouse_7 : decode cX8_isHouse 7 = .ok (.ireturn, 1) := by decide +kernel
def wtX8_isHouse : List Cond := .code yX8_isHouse cX8_isHouse 1 (some .boolean) :: (([]) ++ ((va_wsS RX8 61 yX8_within wtX8_within) ++ []))
theorem imX8_isHouse_own : ∀ w ∈ ([] : List Cond), w ∈ wtX8_isHouse := fun w h => List.mem_cons_of_mem _ (inl h)
theorem imX8_isHouse_c_X8_within : ∀ w ∈ (va_wsS RX8 61 yX8_within wtX8_within : List Cond), w ∈ wtX8_isHouse := fun w h => List.mem_cons_of_mem _ (inr (inl h))
theorem gdX8_isHouse : ∀ w ∈ wtX8_isHouse, Gd w := gdc rfl (gda (gdl (by decide +kernel)) (gda (gda (gdl (by decide +kernel)) gdX8_within) gdn))
theorem gcX8_isHouse_X8_within : GoodIn wtX8_isHouse (va_wsS RX8 61 yX8_within wtX8_within) := fun w h => ⟨imX8_isHouse_c_X8_within w h, (gda (gdl (by decide +kernel)) gdX8_within) w h⟩
def fX8_isHouse (x0 : Int32) : Option (Int32) :=
  (fX8_within x0 (0 : Int32) (7 : Int32)).bind (fun r1 =>
    (bz r1).bind (fun r2 =>
      some r2))
def wdX8_isHouse (cI cZ : ClassId)    : va_W := []
abbrev rmX8_isHouse : Jvm.Room := { frames := 1, cells := 0, slots := 0, locals := 22 }
theorem hyX8_isHouse : yX8_isHouse.cls ≠ "java/lang/invoke/MethodHandle" ∧ yX8_isHouse.cls ≠ "java/lang/invoke/VarHandle" ∧ (parseMethodDescriptor yX8_isHouse.desc).map (fun d => d.parameters.length) = some 1 := by decide +kernel
set_option maxHeartbeats 4000000 in
set_option maxRecDepth 100000 in
theorem mX8_isHouse (l : Launch) (D : va_G) (cI cZ : ClassId) (x0 : Int32) (z : Int32) (hF : fX8_isHouse x0 = some z) : mp l yX8_isHouse wtX8_isHouse rmX8_isHouse D cI cZ [.int x0] (wdX8_isHouse cI cZ ) (some (.int z)) (wdX8_isHouse cI cZ ) := by
  refine mp_z (lv0 := [(0, .int x0)]) cX8_isHouse 1 z (by decide) rfl (Nat.le_of_ble_eq_true rfl) rfl (fun E h hend0 => ?_)
  have hend : ∀ (z' : Int32), some z' = some z → ∀ (pc : Nat) (lv : List (Nat × Value)), z' = z' &&& 1 → decode cX8_isHouse pc = .ok (.ireturn, 1) → G l D E 1 0 0 (wdX8_isHouse cI cZ ) pc lv [.int z'] := fun z' e => by cases e; exact hend0
  clear hend0
  unfold fX8_isHouse at hF
  refine g_iload_n (np := 1) h 0 rfl rfl dX8_isHouse_0 rfl ?_
  refine g_iconst (np := 2) (v := (0 : Int32)) h (by decide) dX8_isHouse_1 rfl ?_
  refine g_bipush (np := 4) (v := (7 : Int32)) h (by decide) dX8_isHouse_2 rfl ?_
  obtain ⟨r1, hr1, hF⟩ := Option.bind_eq_some_iff.mp hF
  refine g_callS (np := 7) (Wd' := (wdX8_isHouse cI cZ )) (As := [.int x0, .int (0 : Int32), .int (7 : Int32)]) h (mX8_within l D cI cZ x0 (0 : Int32) (7 : Int32) r1 hr1) gcX8_isHouse_X8_within rfl ⟨rfl, rfl⟩ hyX8_within rfl rfl rfl rfl ⟨Nat.zero_le _, Nat.zero_le _⟩ [] [] (N := 0) (by decide +kernel) rfl rfl rfl rfl rfl dX8_isHouse_4 rfl ?_
  obtain ⟨r2, hr2, hF⟩ := Option.bind_eq_some_iff.mp hF
  obtain ⟨hbr2, her2⟩ := bz_e hr2
  subst her2
  exact hend _ hF _ _ hbr2 dX8_isHouse_7
theorem dX8_has_0 : decode cX8_has 0 = .ok (.iload_n 0, 1) := by decide +kernel
theorem dX8_has_1 : decode cX8_has 1 = .ok (.iload_n 1, 1) := by decide +kernel
theorem dX8_has_2 : decode cX8_has 2 = .ok (.ishr, 1) := by decide +kernel
theorem dX8_has_3 : decode cX8_has 3 = .ok (.iconst 1, 1) := by decide +kernel
theorem dX8_has_4 : decode cX8_has 4 = .ok (.iand, 1) := by decide +kernel
theorem dX8_has_5 : decode cX8_has 5 = .ok (.ifCond .eq 7, 3) := by decide +kernel
theorem dX8_has_8 : decode cX8_has 8 = .ok (.iconst 1, 1) := by decide +kernel
theorem dX8_has_9 : decode cX8_has 9 = .ok (.goto 4, 3) := by decide +kernel
theorem dX8_has_12 : decode cX8_has 12 = .ok (.iconst 0, 1) := by decide +kernel
theorem dX8_has_13 : decode cX8_has 13 = .ok (.ireturn, 1) := by decide +kernel
def wtX8_has : List Cond := .code yX8_has cX8_has 2 (some .boolean) :: (([]) ++ [])
theorem imX8_has_own : ∀ w ∈ ([] : List Cond), w ∈ wtX8_has := fun w h => List.mem_cons_of_mem _ (inl h)
theorem gdX8_has : ∀ w ∈ wtX8_has, Gd w := gdc rfl (gda (gdl (by decide +kernel)) gdn)
def fX8_has (x0 : Int32) (x1 : Int32) : Option (Int32) :=
  if ((jshr x0 x1) &&& (1 : Int32)) = (0 : Int32) then
    some (0 : Int32)
  else
    some (1 : Int32)
def wdX8_has (cI cZ : ClassId)    : va_W := []
abbrev rmX8_has : Jvm.Room := { frames := 0, cells := 0, slots := 0, locals := 0 }
theorem hyX8_has : yX8_has.cls ≠ "java/lang/invoke/MethodHandle" ∧ yX8_has.cls ≠ "java/lang/invoke/VarHandle" ∧ (parseMethodDescriptor yX8_has.desc).map (fun d => d.parameters.length) = some 2 := by decide +kernel
set_option maxHeartbeats 4000000 in
set_option maxRecDepth 100000 in
theorem mX8_has (l : Launch) (D : va_G) (cI cZ : ClassId) (x0 : Int32) (x1 : Int32) (z : Int32) (hF : fX8_has x0 x1 = some z) : mp l yX8_has wtX8_has rmX8_has D cI cZ [.int x0, .int x1] (wdX8_has cI cZ ) (some (.int z)) (wdX8_has cI cZ ) := by
  refine mp_z (lv0 := [(0, .int x0), (1, .int x1)]) cX8_has 2 z (by decide) rfl (Nat.le_of_ble_eq_true rfl) rfl (fun E h hend0 => ?_)
  have hend : ∀ (z' : Int32), some z' = some z → ∀ (pc : Nat) (lv : List (Nat × Value)), z' = z' &&& 1 → decode cX8_has pc = .ok (.ireturn, 1) → G l D E 2 0 0 (wdX8_has cI cZ ) pc lv [.int z'] := fun z' e => by cases e; exact hend0
  clear hend0
  unfold fX8_has at hF
  refine g_iload_n (np := 1) h 0 rfl rfl dX8_has_0 rfl ?_
  refine g_iload_n (np := 2) h 1 rfl rfl dX8_has_1 rfl ?_
  refine g_ishr (np := 3) h dX8_has_2 rfl ?_
  refine g_iconst (np := 4) (v := (1 : Int32)) h (by decide) dX8_has_3 rfl ?_
  refine g_iand (np := 5) h dX8_has_4 rfl ?_
  refine g_if_eq h hF dX8_has_5 (np := 8) rfl (tg := 12) rfl (fun c1 hF => ?_) (fun c1 hF => ?_)
  · refine g_iconst (np := 13) (v := (0 : Int32)) h (by decide) dX8_has_12 rfl ?_
    exact hend _ hF _ _ zb0 dX8_has_13
  · refine g_iconst (np := 9) (v := (1 : Int32)) h (by decide) dX8_has_8 rfl ?_
    refine g_goto h dX8_has_9 (np := 13) rfl ?_
    exact hend _ hF _ _ zb1 dX8_has_13
theorem dX8_at_0 : decode cX8_at 0 = .ok (.iload_n 1, 1) := by decide +kernel
theorem dX8_at_1 : decode cX8_at 1 = .ok (.ifCond .lt 15, 3) := by decide +kernel
theorem dX8_at_4 : decode cX8_at 4 = .ok (.iload_n 1, 1) := by decide +kernel
theorem dX8_at_5 : decode cX8_at 5 = .ok (.aload_n 0, 1) := by decide +kernel
theorem dX8_at_6 : decode cX8_at 6 = .ok (.arraylength, 1) := by decide +kernel
theorem dX8_at_7 : decode cX8_at 7 = .ok (.if_icmp .ge 9, 3) := by decide +kernel
theorem dX8_at_10 : decode cX8_at 10 = .ok (.aload_n 0, 1) := by decide +kernel
theorem dX8_at_11 : decode cX8_at 11 = .ok (.iload_n 1, 1) := by decide +kernel
theorem dX8_at_12 : decode cX8_at 12 = .ok (.iaload, 1) := by decide +kernel
theorem dX8_at_13 : decode cX8_at 13 = .ok (.goto 4, 3) := by decide +kernel
theorem dX8_at_16 : decode cX8_at 16 = .ok (.iconst 0, 1) := by decide +kernel
theorem dX8_at_17 : decode cX8_at 17 = .ok (.ireturn, 1) := by decide +kernel
def wtX8_at : List Cond := .code yX8_at cX8_at 2 (some .int) :: (([]) ++ [])
theorem imX8_at_own : ∀ w ∈ ([] : List Cond), w ∈ wtX8_at := fun w h => List.mem_cons_of_mem _ (inl h)
theorem gdX8_at : ∀ w ∈ wtX8_at, Gd w := gdc rfl (gda (gdl (by decide +kernel)) gdn)
def fX8_at (n0 : Nat) (v_row : Nat → Int32) (x1 : Int32) : Option (Int32) :=
  if x1 < (0 : Int32) then
    some (0 : Int32)
  else
    if (Int32.ofNat n0) ≤ x1 then
      some (0 : Int32)
    else
      chk x1 n0 (
        some (rd v_row x1))
def wdX8_at (cI cZ : ClassId) (q0 : Nat) (n0 : Nat) (v_row : Nat → Int32) : va_W := [(q0, .inl (cI, n0, .inl v_row))]
abbrev rmX8_at : Jvm.Room := { frames := 0, cells := 0, slots := 0, locals := 0 }
theorem hyX8_at : yX8_at.cls ≠ "java/lang/invoke/MethodHandle" ∧ yX8_at.cls ≠ "java/lang/invoke/VarHandle" ∧ (parseMethodDescriptor yX8_at.desc).map (fun d => d.parameters.length) = some 2 := by decide +kernel
set_option maxHeartbeats 4000000 in
set_option maxRecDepth 100000 in
theorem mX8_at (l : Launch) (D : va_G) (cI cZ : ClassId) (q0 : Nat) (n0 : Nat) (v_row : Nat → Int32) (x1 : Int32) (z : Int32) (hF : fX8_at n0 v_row x1 = some z) : mp l yX8_at wtX8_at rmX8_at D cI cZ [.ref q0, .int x1] (wdX8_at cI cZ q0 n0 v_row) (some (.int z)) (wdX8_at cI cZ q0 n0 v_row) := by
  refine mp_i (lv0 := [(0, .ref q0), (1, .int x1)]) cX8_at 2 z (by decide) rfl (Nat.le_of_ble_eq_true rfl) rfl (fun E h hend0 => ?_)
  have hend : ∀ (z' : Int32), some z' = some z → ∀ (pc : Nat) (lv : List (Nat × Value)), decode cX8_at pc = .ok (.ireturn, 1) → G l D E 2 0 0 (wdX8_at cI cZ q0 n0 v_row) pc lv [.int z'] := fun z' e => by cases e; exact hend0
  clear hend0
  unfold fX8_at at hF
  refine g_iload_n (np := 1) h 1 rfl rfl dX8_at_0 rfl ?_
  refine g_if_lt h hF dX8_at_1 (np := 4) rfl (tg := 16) rfl (fun c1 hF => ?_) (fun c1 hF => ?_)
  · refine g_iconst (np := 17) (v := (0 : Int32)) h (by decide) dX8_at_16 rfl ?_
    exact hend _ hF _ _ dX8_at_17
  · refine g_iload_n (np := 5) h 1 rfl rfl dX8_at_4 rfl ?_
    refine g_aload_n (np := 6) h 0 rfl rfl dX8_at_5 rfl ?_
    refine g_alen (np := 7) (v := (Int32.ofNat n0)) h 0 rfl rfl dX8_at_6 rfl ?_
    refine g_icmp_ge h hF dX8_at_7 (np := 10) rfl (tg := 16) rfl (fun c2 hF => ?_) (fun c2 hF => ?_)
    · refine g_iconst (np := 17) (v := (0 : Int32)) h (by decide) dX8_at_16 rfl ?_
      exact hend _ hF _ _ dX8_at_17
    · refine g_aload_n (np := 11) h 0 rfl rfl dX8_at_10 rfl ?_
      refine g_iload_n (np := 12) h 1 rfl rfl dX8_at_11 rfl ?_
      refine g_iald (np := 13) h 0 rfl hF dX8_at_12 rfl (fun hi3 hF => ?_)
      refine g_goto h dX8_at_13 (np := 17) rfl ?_
      exact hend _ hF _ _ dX8_at_17
theorem dX8_put_0 : decode cX8_put 0 = .ok (.iload_n 1, 1) := by decide +kernel
theorem dX8_put_1 : decode cX8_put 1 = .ok (.ifCond .lt 13, 3) := by decide +kernel
theorem dX8_put_4 : decode cX8_put 4 = .ok (.iload_n 1, 1) := by decide +kernel
theorem dX8_put_5 : decode cX8_put 5 = .ok (.aload_n 0, 1) := by decide +kernel
theorem dX8_put_6 : decode cX8_put 6 = .ok (.arraylength, 1) := by decide +kernel
theorem dX8_put_7 : decode cX8_put 7 = .ok (.if_icmp .ge 7, 3) := by decide +kernel
theorem dX8_put_10 : decode cX8_put 10 = .ok (.aload_n 0, 1) := by decide +kernel
theorem dX8_put_11 : decode cX8_put 11 = .ok (.iload_n 1, 1) := by decide +kernel
theorem dX8_put_12 : decode cX8_put 12 = .ok (.iload_n 2, 1) := by decide +kernel
theorem dX8_put_13 : decode cX8_put 13 = .ok (.iastore, 1) := by decide +kernel
theorem dX8_put_14 : decode cX8_put 14 = .ok (.return_, 1) := by decide +kernel
def wtX8_put : List Cond := .code yX8_put cX8_put 3 none :: (([]) ++ [])
theorem imX8_put_own : ∀ w ∈ ([] : List Cond), w ∈ wtX8_put := fun w h => List.mem_cons_of_mem _ (inl h)
theorem gdX8_put : ∀ w ∈ wtX8_put, Gd w := gdc rfl (gda (gdl (by decide +kernel)) gdn)
def fX8_put (n0 : Nat) (v_row : Nat → Int32) (x1 : Int32) (x2 : Int32) : Option ((Nat → Int32)) :=
  if x1 < (0 : Int32) then
    some v_row
  else
    if (Int32.ofNat n0) ≤ x1 then
      some v_row
    else
      chk x1 n0 (
        some (wr v_row x1 x2))
def wdX8_put (cI cZ : ClassId) (q0 : Nat) (n0 : Nat) (v_row : Nat → Int32) : va_W := [(q0, .inl (cI, n0, .inl v_row))]
abbrev rmX8_put : Jvm.Room := { frames := 0, cells := 0, slots := 0, locals := 0 }
theorem hyX8_put : yX8_put.cls ≠ "java/lang/invoke/MethodHandle" ∧ yX8_put.cls ≠ "java/lang/invoke/VarHandle" ∧ (parseMethodDescriptor yX8_put.desc).map (fun d => d.parameters.length) = some 3 := by decide +kernel
set_option maxHeartbeats 4000000 in
set_option maxRecDepth 100000 in
theorem mX8_put (l : Launch) (D : va_G) (cI cZ : ClassId) (q0 : Nat) (n0 : Nat) (v_row : Nat → Int32) (x1 : Int32) (x2 : Int32) (z : (Nat → Int32)) (hF : fX8_put n0 v_row x1 x2 = some z) : mp l yX8_put wtX8_put rmX8_put D cI cZ [.ref q0, .int x1, .int x2] (wdX8_put cI cZ q0 n0 v_row) none (wdX8_put cI cZ q0 n0 z) := by
  refine mp_v (lv0 := [(0, .ref q0), (1, .int x1), (2, .int x2)]) cX8_put 3 (by decide) rfl (Nat.le_of_ble_eq_true rfl) rfl (fun E h hend0 => ?_)
  have hend : ∀ (z' : (Nat → Int32)), some z' = some z → ∀ (pc : Nat) (lv : List (Nat × Value)), decode cX8_put pc = .ok (.return_, 1) → G l D E 3 0 0 (wdX8_put cI cZ q0 n0 (z')) pc lv [] := fun z' e => by cases e; exact hend0
  clear hend0
  unfold fX8_put at hF
  refine g_iload_n (np := 1) h 1 rfl rfl dX8_put_0 rfl ?_
  refine g_if_lt h hF dX8_put_1 (np := 4) rfl (tg := 14) rfl (fun c1 hF => ?_) (fun c1 hF => ?_)
  · exact hend _ hF _ _ dX8_put_14
  · refine g_iload_n (np := 5) h 1 rfl rfl dX8_put_4 rfl ?_
    refine g_aload_n (np := 6) h 0 rfl rfl dX8_put_5 rfl ?_
    refine g_alen (np := 7) (v := (Int32.ofNat n0)) h 0 rfl rfl dX8_put_6 rfl ?_
    refine g_icmp_ge h hF dX8_put_7 (np := 10) rfl (tg := 14) rfl (fun c2 hF => ?_) (fun c2 hF => ?_)
    · exact hend _ hF _ _ dX8_put_14
    · refine g_aload_n (np := 11) h 0 rfl rfl dX8_put_10 rfl ?_
      refine g_iload_n (np := 12) h 1 rfl rfl dX8_put_11 rfl ?_
      refine g_iload_n (np := 13) h 2 rfl rfl dX8_put_12 rfl ?_
      refine g_iast (np := 14) (Wd' := (wdX8_put cI cZ q0 n0 (wr v_row x1 x2))) h 0 rfl hF rfl dX8_put_13 rfl (fun hi3 hF => ?_)
      exact hend _ hF _ _ dX8_put_14
theorem dX8_fill_0 : decode cX8_fill 0 = .ok (.iconst 0, 1) := by decide +kernel
theorem dX8_fill_1 : decode cX8_fill 1 = .ok (.istore_n 2, 1) := by decide +kernel
theorem dX8_fill_2 : decode cX8_fill 2 = .ok (.iload_n 2, 1) := by decide +kernel
theorem dX8_fill_3 : decode cX8_fill 3 = .ok (.aload_n 0, 1) := by decide +kernel
theorem dX8_fill_4 : decode cX8_fill 4 = .ok (.arraylength, 1) := by decide +kernel
theorem dX8_fill_5 : decode cX8_fill 5 = .ok (.if_icmp .ge 13, 3) := by decide +kernel
theorem dX8_fill_8 : decode cX8_fill 8 = .ok (.aload_n 0, 1) := by decide +kernel
theorem dX8_fill_9 : decode cX8_fill 9 = .ok (.iload_n 2, 1) := by decide +kernel
theorem dX8_fill_10 : decode cX8_fill 10 = .ok (.iload_n 1, 1) := by decide +kernel
theorem dX8_fill_11 : decode cX8_fill 11 = .ok (.iastore, 1) := by decide +kernel
theorem dX8_fill_12 : decode cX8_fill 12 = .ok (.iinc 2 1, 3) := by decide +kernel
theorem dX8_fill_15 : decode cX8_fill 15 = .ok (.goto (-13), 3) := by decide +kernel
theorem dX8_fill_18 : decode cX8_fill 18 = .ok (.return_, 1) := by decide +kernel
def wtX8_fill : List Cond := .code yX8_fill cX8_fill 3 none :: (([]) ++ [])
theorem imX8_fill_own : ∀ w ∈ ([] : List Cond), w ∈ wtX8_fill := fun w h => List.mem_cons_of_mem _ (inl h)
theorem gdX8_fill : ∀ w ∈ wtX8_fill, Gd w := gdc rfl (gda (gdl (by decide +kernel)) gdn)
def fX8_fill_2 (n0 : Nat) (x1 : Int32) : Nat → (Nat → Int32) → Int32 → Option ((Nat → Int32))
  | 0, _, _ => none
  | n + 1, v_row, x2 =>
    if (Int32.ofNat n0) ≤ x2 then
      some v_row
    else
      chk x2 n0 (
        fX8_fill_2 n0 x1 n (wr v_row x2 x1) (x2 + (1 : Int32)))
def fX8_fill (n0 : Nat) (v_row : Nat → Int32) (x1 : Int32) : Option ((Nat → Int32)) :=
  fX8_fill_2 n0 x1 2000 v_row (0 : Int32)
def wdX8_fill (cI cZ : ClassId) (q0 : Nat) (n0 : Nat) (v_row : Nat → Int32) : va_W := [(q0, .inl (cI, n0, .inl v_row))]
abbrev rmX8_fill : Jvm.Room := { frames := 0, cells := 0, slots := 0, locals := 0 }
theorem hyX8_fill : yX8_fill.cls ≠ "java/lang/invoke/MethodHandle" ∧ yX8_fill.cls ≠ "java/lang/invoke/VarHandle" ∧ (parseMethodDescriptor yX8_fill.desc).map (fun d => d.parameters.length) = some 2 := by decide +kernel
set_option maxHeartbeats 4000000 in
set_option maxRecDepth 100000 in
theorem mX8_fill (l : Launch) (D : va_G) (cI cZ : ClassId) (q0 : Nat) (n0 : Nat) (v_row : Nat → Int32) (x1 : Int32) (z : (Nat → Int32)) (hF : fX8_fill n0 v_row x1 = some z) : mp l yX8_fill wtX8_fill rmX8_fill D cI cZ [.ref q0, .int x1] (wdX8_fill cI cZ q0 n0 v_row) none (wdX8_fill cI cZ q0 n0 z) := by
  refine mp_v (lv0 := [(0, .ref q0), (1, .int x1)]) cX8_fill 3 (by decide) rfl (Nat.le_of_ble_eq_true rfl) rfl (fun E h hend0 => ?_)
  have hend : ∀ (z' : (Nat → Int32)), some z' = some z → ∀ (pc : Nat) (lv : List (Nat × Value)), decode cX8_fill pc = .ok (.return_, 1) → G l D E 3 0 0 (wdX8_fill cI cZ q0 n0 (z')) pc lv [] := fun z' e => by cases e; exact hend0
  clear hend0
  have hL2 : ∀ (n2 : Nat) (v_row : Nat → Int32) (x2 : Int32), fX8_fill_2 n0 x1 n2 v_row x2 = some z → G l D E 3 0 0 (wdX8_fill cI cZ q0 n0 v_row) 2 [(0, .ref q0), (1, .int x1), (2, .int x2)] [] := by
    intro n2
    induction n2 with
    | zero =>
      intro v_row x2 hF
      rw [fX8_fill_2] at hF
      cases hF
    | succ n2 ih2 =>
      intro v_row x2 hF
      rw [fX8_fill_2] at hF
      refine g_iload_n (np := 3) h 2 rfl rfl dX8_fill_2 rfl ?_
      refine g_aload_n (np := 4) h 0 rfl rfl dX8_fill_3 rfl ?_
      refine g_alen (np := 5) (v := (Int32.ofNat n0)) h 0 rfl rfl dX8_fill_4 rfl ?_
      refine g_icmp_ge h hF dX8_fill_5 (np := 8) rfl (tg := 18) rfl (fun c1001 hF => ?_) (fun c1001 hF => ?_)
      · exact hend _ hF _ _ dX8_fill_18
      · refine g_aload_n (np := 9) h 0 rfl rfl dX8_fill_8 rfl ?_
        refine g_iload_n (np := 10) h 2 rfl rfl dX8_fill_9 rfl ?_
        refine g_iload_n (np := 11) h 1 rfl rfl dX8_fill_10 rfl ?_
        refine g_iast (np := 12) (Wd' := (wdX8_fill cI cZ q0 n0 (wr v_row x2 x1))) h 0 rfl hF rfl dX8_fill_11 rfl (fun hi1002 hF => ?_)
        refine g_iinc (np := 15) (v := (x2 + (1 : Int32))) (lv' := [(2, .int (x2 + (1 : Int32))), (0, .ref q0), (1, .int x1)]) h 2 rfl rfl (by decide) rfl dX8_fill_12 rfl ?_
        refine g_goto h dX8_fill_15 (np := 2) rfl ?_
        refine g_lv [1, 2, 0] rfl ?_
        exact ih2 (wr v_row x2 x1) (x2 + (1 : Int32)) hF
  unfold fX8_fill at hF
  refine g_iconst (np := 1) (v := (0 : Int32)) h (by decide) dX8_fill_0 rfl ?_
  refine g_istore_n (np := 2) (lv' := [(2, .int (0 : Int32)), (0, .ref q0), (1, .int x1)]) h rfl (by decide) rfl dX8_fill_1 rfl ?_
  refine g_lv [1, 2, 0] rfl ?_
  exact hL2 _ v_row (0 : Int32) hF
theorem dX8_copy_0 : decode cX8_copy 0 = .ok (.iconst 0, 1) := by decide +kernel
theorem dX8_copy_1 : decode cX8_copy 1 = .ok (.istore_n 2, 1) := by decide +kernel
theorem dX8_copy_2 : decode cX8_copy 2 = .ok (.iload_n 2, 1) := by decide +kernel
theorem dX8_copy_3 : decode cX8_copy 3 = .ok (.aload_n 1, 1) := by decide +kernel
theorem dX8_copy_4 : decode cX8_copy 4 = .ok (.arraylength, 1) := by decide +kernel
theorem dX8_copy_5 : decode cX8_copy 5 = .ok (.if_icmp .ge 21, 3) := by decide +kernel
theorem dX8_copy_8 : decode cX8_copy 8 = .ok (.iload_n 2, 1) := by decide +kernel
theorem dX8_copy_9 : decode cX8_copy 9 = .ok (.aload_n 0, 1) := by decide +kernel
theorem dX8_copy_10 : decode cX8_copy 10 = .ok (.arraylength, 1) := by decide +kernel
theorem dX8_copy_11 : decode cX8_copy 11 = .ok (.if_icmp .ge 15, 3) := by decide +kernel
theorem dX8_copy_14 : decode cX8_copy 14 = .ok (.aload_n 1, 1) := by decide +kernel
theorem dX8_copy_15 : decode cX8_copy 15 = .ok (.iload_n 2, 1) := by decide +kernel
theorem dX8_copy_16 : decode cX8_copy 16 = .ok (.aload_n 0, 1) := by decide +kernel
theorem dX8_copy_17 : decode cX8_copy 17 = .ok (.iload_n 2, 1) := by decide +kernel
theorem dX8_copy_18 : decode cX8_copy 18 = .ok (.iaload, 1) := by decide +kernel
theorem dX8_copy_19 : decode cX8_copy 19 = .ok (.iastore, 1) := by decide +kernel
theorem dX8_copy_20 : decode cX8_copy 20 = .ok (.iinc 2 1, 3) := by decide +kernel
theorem dX8_copy_23 : decode cX8_copy 23 = .ok (.goto (-21), 3) := by decide +kernel
theorem dX8_copy_26 : decode cX8_copy 26 = .ok (.return_, 1) := by decide +kernel
def wtX8_copy : List Cond := .code yX8_copy cX8_copy 3 none :: (([]) ++ [])
theorem imX8_copy_own : ∀ w ∈ ([] : List Cond), w ∈ wtX8_copy := fun w h => List.mem_cons_of_mem _ (inl h)
theorem gdX8_copy : ∀ w ∈ wtX8_copy, Gd w := gdc rfl (gda (gdl (by decide +kernel)) gdn)
def fX8_copy_2 (n0 : Nat) (n1 : Nat) (v_row : Nat → Int32) : Nat → (Nat → Int32) → Int32 → Option ((Nat → Int32))
  | 0, _, _ => none
  | n + 1, v_row1, x2 =>
    if (Int32.ofNat n1) ≤ x2 then
      some v_row1
    else
      if (Int32.ofNat n0) ≤ x2 then
        some v_row1
      else
        chk x2 n0 (
          chk x2 n1 (
            fX8_copy_2 n0 n1 v_row n (wr v_row1 x2 (rd v_row x2)) (x2 + (1 : Int32))))
def fX8_copy (n0 : Nat) (n1 : Nat) (v_row : Nat → Int32) (v_row1 : Nat → Int32) : Option ((Nat → Int32)) :=
  fX8_copy_2 n0 n1 v_row 2000 v_row1 (0 : Int32)
def wdX8_copy (cI cZ : ClassId) (q0 : Nat) (q1 : Nat) (n0 : Nat) (n1 : Nat) (v_row : Nat → Int32) (v_row1 : Nat → Int32) : va_W := [(q0, .inl (cI, n0, .inl v_row)), (q1, .inl (cI, n1, .inl v_row1))]
abbrev rmX8_copy : Jvm.Room := { frames := 0, cells := 0, slots := 0, locals := 0 }
theorem hyX8_copy : yX8_copy.cls ≠ "java/lang/invoke/MethodHandle" ∧ yX8_copy.cls ≠ "java/lang/invoke/VarHandle" ∧ (parseMethodDescriptor yX8_copy.desc).map (fun d => d.parameters.length) = some 2 := by decide +kernel
set_option maxHeartbeats 4000000 in
set_option maxRecDepth 100000 in
theorem mX8_copy (l : Launch) (D : va_G) (cI cZ : ClassId) (q0 : Nat) (q1 : Nat) (n0 : Nat) (n1 : Nat) (v_row : Nat → Int32) (v_row1 : Nat → Int32) (z : (Nat → Int32)) (hF : fX8_copy n0 n1 v_row v_row1 = some z) : mp l yX8_copy wtX8_copy rmX8_copy D cI cZ [.ref q0, .ref q1] (wdX8_copy cI cZ q0 q1 n0 n1 v_row v_row1) none (wdX8_copy cI cZ q0 q1 n0 n1 v_row z) := by
  refine mp_v (lv0 := [(0, .ref q0), (1, .ref q1)]) cX8_copy 3 (by decide) rfl (Nat.le_of_ble_eq_true rfl) rfl (fun E h hend0 => ?_)
  have hend : ∀ (z' : (Nat → Int32)), some z' = some z → ∀ (pc : Nat) (lv : List (Nat × Value)), decode cX8_copy pc = .ok (.return_, 1) → G l D E 3 0 0 (wdX8_copy cI cZ q0 q1 n0 n1 v_row (z')) pc lv [] := fun z' e => by cases e; exact hend0
  clear hend0
  have hL2 : ∀ (n2 : Nat) (v_row1 : Nat → Int32) (x2 : Int32), fX8_copy_2 n0 n1 v_row n2 v_row1 x2 = some z → G l D E 3 0 0 (wdX8_copy cI cZ q0 q1 n0 n1 v_row v_row1) 2 [(0, .ref q0), (1, .ref q1), (2, .int x2)] [] := by
    intro n2
    induction n2 with
    | zero =>
      intro v_row1 x2 hF
      rw [fX8_copy_2] at hF
      cases hF
    | succ n2 ih2 =>
      intro v_row1 x2 hF
      rw [fX8_copy_2] at hF
      refine g_iload_n (np := 3) h 2 rfl rfl dX8_copy_2 rfl ?_
      refine g_aload_n (np := 4) h 1 rfl rfl dX8_copy_3 rfl ?_
      refine g_alen (np := 5) (v := (Int32.ofNat n1)) h 1 rfl rfl dX8_copy_4 rfl ?_
      refine g_icmp_ge h hF dX8_copy_5 (np := 8) rfl (tg := 26) rfl (fun c1001 hF => ?_) (fun c1001 hF => ?_)
      · exact hend _ hF _ _ dX8_copy_26
      · refine g_iload_n (np := 9) h 2 rfl rfl dX8_copy_8 rfl ?_
        refine g_aload_n (np := 10) h 0 rfl rfl dX8_copy_9 rfl ?_
        refine g_alen (np := 11) (v := (Int32.ofNat n0)) h 0 rfl rfl dX8_copy_10 rfl ?_
        refine g_icmp_ge h hF dX8_copy_11 (np := 14) rfl (tg := 26) rfl (fun c1002 hF => ?_) (fun c1002 hF => ?_)
        · exact hend _ hF _ _ dX8_copy_26
        · refine g_aload_n (np := 15) h 1 rfl rfl dX8_copy_14 rfl ?_
          refine g_iload_n (np := 16) h 2 rfl rfl dX8_copy_15 rfl ?_
          refine g_aload_n (np := 17) h 0 rfl rfl dX8_copy_16 rfl ?_
          refine g_iload_n (np := 18) h 2 rfl rfl dX8_copy_17 rfl ?_
          refine g_iald (np := 19) h 0 rfl hF dX8_copy_18 rfl (fun hi1003 hF => ?_)
          refine g_iast (np := 20) (Wd' := (wdX8_copy cI cZ q0 q1 n0 n1 v_row (wr v_row1 x2 (rd v_row x2)))) h 1 rfl hF rfl dX8_copy_19 rfl (fun hi1004 hF => ?_)
          refine g_iinc (np := 23) (v := (x2 + (1 : Int32))) (lv' := [(2, .int (x2 + (1 : Int32))), (0, .ref q0), (1, .ref q1)]) h 2 rfl rfl (by decide) rfl dX8_copy_20 rfl ?_
          refine g_goto h dX8_copy_23 (np := 2) rfl ?_
          refine g_lv [1, 2, 0] rfl ?_
          exact ih2 (wr v_row1 x2 (rd v_row x2)) (x2 + (1 : Int32)) hF
  unfold fX8_copy at hF
  refine g_iconst (np := 1) (v := (0 : Int32)) h (by decide) dX8_copy_0 rfl ?_
  refine g_istore_n (np := 2) (lv' := [(2, .int (0 : Int32)), (0, .ref q0), (1, .ref q1)]) h rfl (by decide) rfl dX8_copy_1 rfl ?_
  refine g_lv [1, 2, 0] rfl ?_
  exact hL2 _ v_row1 (0 : Int32) hF
theorem dX8_digit_0 : decode cX8_digit 0 = .ok (.iload_n 0, 1) := by decide +kernel
theorem dX8_digit_1 : decode cX8_digit 1 = .ok (.istore_n 2, 1) := by decide +kernel
theorem dX8_digit_2 : decode cX8_digit 2 = .ok (.iload_n 1, 1) := by decide +kernel
theorem dX8_digit_3 : decode cX8_digit 3 = .ok (.istore_n 3, 1) := by decide +kernel
theorem dX8_digit_4 : decode cX8_digit 4 = .ok (.iload_n 3, 1) := by decide +kernel
theorem dX8_digit_5 : decode cX8_digit 5 = .ok (.bipush 7, 2) := by decide +kernel
theorem dX8_digit_7 : decode cX8_digit 7 = .ok (.if_icmp .ge 14, 3) := by decide +kernel
theorem dX8_digit_10 : decode cX8_digit 10 = .ok (.iload_n 2, 1) := by decide +kernel
theorem dX8_digit_11 : decode cX8_digit 11 = .ok (.bipush 10, 2) := by decide +kernel
theorem dX8_digit_13 : decode cX8_digit 13 = .ok (.idiv, 1) := by decide +kernel
theorem dX8_digit_14 : decode cX8_digit 14 = .ok (.istore_n 2, 1) := by decide +kernel
theorem dX8_digit_15 : decode cX8_digit 15 = .ok (.iinc 3 1, 3) := by decide +kernel
theorem dX8_digit_18 : decode cX8_digit 18 = .ok (.goto (-14), 3) := by decide +kernel
theorem dX8_digit_21 : decode cX8_digit 21 = .ok (.iload_n 2, 1) := by decide +kernel
theorem dX8_digit_22 : decode cX8_digit 22 = .ok (.bipush 10, 2) := by decide +kernel
theorem dX8_digit_24 : decode cX8_digit 24 = .ok (.irem, 1) := by decide +kernel
theorem dX8_digit_25 : decode cX8_digit 25 = .ok (.ireturn, 1) := by decide +kernel
def wtX8_digit : List Cond := .code yX8_digit cX8_digit 4 (some .int) :: (([]) ++ [])
theorem imX8_digit_own : ∀ w ∈ ([] : List Cond), w ∈ wtX8_digit := fun w h => List.mem_cons_of_mem _ (inl h)
theorem gdX8_digit : ∀ w ∈ wtX8_digit, Gd w := gdc rfl (gda (gdl (by decide +kernel)) gdn)
def fX8_digit_4  : Nat → Int32 → Int32 → Option (Int32)
  | 0, _, _ => none
  | n + 1, x2, x3 =>
    if (7 : Int32) ≤ x3 then
      some (jrem x2 (10 : Int32))
    else
      fX8_digit_4 n (x2 / (10 : Int32)) (x3 + (1 : Int32))
def fX8_digit (x0 : Int32) (x1 : Int32) : Option (Int32) :=
  fX8_digit_4 2000 x0 x1
def wdX8_digit (cI cZ : ClassId)    : va_W := []
abbrev rmX8_digit : Jvm.Room := { frames := 0, cells := 0, slots := 0, locals := 0 }
theorem hyX8_digit : yX8_digit.cls ≠ "java/lang/invoke/MethodHandle" ∧ yX8_digit.cls ≠ "java/lang/invoke/VarHandle" ∧ (parseMethodDescriptor yX8_digit.desc).map (fun d => d.parameters.length) = some 2 := by decide +kernel
set_option maxHeartbeats 4000000 in
set_option maxRecDepth 100000 in
theorem mX8_digit (l : Launch) (D : va_G) (cI cZ : ClassId) (x0 : Int32) (x1 : Int32) (z : Int32) (hF : fX8_digit x0 x1 = some z) : mp l yX8_digit wtX8_digit rmX8_digit D cI cZ [.int x0, .int x1] (wdX8_digit cI cZ ) (some (.int z)) (wdX8_digit cI cZ ) := by
  refine mp_i (lv0 := [(0, .int x0), (1, .int x1)]) cX8_digit 4 z (by decide) rfl (Nat.le_of_ble_eq_true rfl) rfl (fun E h hend0 => ?_)
  have hend : ∀ (z' : Int32), some z' = some z → ∀ (pc : Nat) (lv : List (Nat × Value)), decode cX8_digit pc = .ok (.ireturn, 1) → G l D E 4 0 0 (wdX8_digit cI cZ ) pc lv [.int z'] := fun z' e => by cases e; exact hend0
  clear hend0
  have hL4 : ∀ (n4 : Nat) (x2 : Int32) (x3 : Int32), fX8_digit_4 n4 x2 x3 = some z → G l D E 4 0 0 (wdX8_digit cI cZ ) 4 [(2, .int x2), (3, .int x3)] [] := by
    intro n4
    induction n4 with
    | zero =>
      intro x2 x3 hF
      rw [fX8_digit_4] at hF
      cases hF
    | succ n4 ih4 =>
      intro x2 x3 hF
      rw [fX8_digit_4] at hF
      refine g_iload_n (np := 5) h 1 rfl rfl dX8_digit_4 rfl ?_
      refine g_bipush (np := 7) (v := (7 : Int32)) h (by decide) dX8_digit_5 rfl ?_
      refine g_icmp_ge h hF dX8_digit_7 (np := 10) rfl (tg := 21) rfl (fun c1001 hF => ?_) (fun c1001 hF => ?_)
      · refine g_iload_n (np := 22) h 0 rfl rfl dX8_digit_21 rfl ?_
        refine g_bipush (np := 24) (v := (10 : Int32)) h (by decide) dX8_digit_22 rfl ?_
        refine g_irem (np := 25) h (by decide) dX8_digit_24 rfl ?_
        exact hend _ hF _ _ dX8_digit_25
      · refine g_iload_n (np := 11) h 0 rfl rfl dX8_digit_10 rfl ?_
        refine g_bipush (np := 13) (v := (10 : Int32)) h (by decide) dX8_digit_11 rfl ?_
        refine g_idiv (np := 14) h (by decide) dX8_digit_13 rfl ?_
        refine g_istore_n (np := 15) (lv' := [(2, .int (x2 / (10 : Int32))), (3, .int x3)]) h rfl (by decide) rfl dX8_digit_14 rfl ?_
        refine g_iinc (np := 18) (v := (x3 + (1 : Int32))) (lv' := [(3, .int (x3 + (1 : Int32))), (2, .int (x2 / (10 : Int32)))]) h 1 rfl rfl (by decide) rfl dX8_digit_15 rfl ?_
        refine g_goto h dX8_digit_18 (np := 4) rfl ?_
        refine g_lv [1, 0] rfl ?_
        exact ih4 (x2 / (10 : Int32)) (x3 + (1 : Int32)) hF
  unfold fX8_digit at hF
  refine g_iload_n (np := 1) h 0 rfl rfl dX8_digit_0 rfl ?_
  refine g_istore_n (np := 2) (lv' := [(2, .int x0), (0, .int x0), (1, .int x1)]) h rfl (by decide) rfl dX8_digit_1 rfl ?_
  refine g_iload_n (np := 3) h 2 rfl rfl dX8_digit_2 rfl ?_
  refine g_istore_n (np := 4) (lv' := [(3, .int x1), (2, .int x0), (0, .int x0), (1, .int x1)]) h rfl (by decide) rfl dX8_digit_3 rfl ?_
  refine g_lv [1, 0] rfl ?_
  exact hL4 _ x0 x1 hF
theorem dX8_alike_0 : decode cX8_alike 0 = .ok (.iconst 0, 1) := by decide +kernel
theorem dX8_alike_1 : decode cX8_alike 1 = .ok (.istore_n 3, 1) := by decide +kernel
theorem dX8_alike_2 : decode cX8_alike 2 = .ok (.iconst 0, 1) := by decide +kernel
theorem dX8_alike_3 : decode cX8_alike 3 = .ok (.istore 4, 2) := by decide +kernel
theorem dX8_alike_5 : decode cX8_alike 5 = .ok (.iload 4, 2) := by decide +kernel
theorem dX8_alike_7 : decode cX8_alike 7 = .ok (.bipush 8, 2) := by decide +kernel
theorem dX8_alike_9 : decode cX8_alike 9 = .ok (.if_icmp .ge 44, 3) := by decide +kernel
theorem dX8_alike_12 : decode cX8_alike 12 = .ok (.iload 4, 2) := by decide +kernel
theorem dX8_alike_14 : decode cX8_alike 14 = .ok (.iload_n 2, 1) := by decide +kernel
theorem dX8_alike_15 : decode cX8_alike 15 = .ok (.isub, 1) := by decide +kernel
theorem dX8_alike_16 : decode cX8_alike 16 = .ok (.istore 5, 2) := by decide +kernel
theorem dX8_alike_18 : decode cX8_alike 18 = .ok (.iload 5, 2) := by decide +kernel
theorem dX8_alike_20 : decode cX8_alike 20 = .ok (.iconst 0, 1) := by decide +kernel
theorem dX8_alike_21 : decode cX8_alike 21 = .ok (.bipush 7, 2) := by decide +kernel
theorem dX8_alike_23 : decode cX8_alike 23 = .ok (.invokestatic 61, 3) := by decide +kernel
theorem dX8_alike_26 : decode cX8_alike 26 = .ok (.ifCond .eq 21, 3) := by decide +kernel
theorem dX8_alike_29 : decode cX8_alike 29 = .ok (.iload_n 0, 1) := by decide +kernel
theorem dX8_alike_30 : decode cX8_alike 30 = .ok (.iload 4, 2) := by decide +kernel
theorem dX8_alike_32 : decode cX8_alike 32 = .ok (.invokestatic 236, 3) := by decide +kernel
theorem dX8_alike_35 : decode cX8_alike 35 = .ok (.iload_n 1, 1) := by decide +kernel
theorem dX8_alike_36 : decode cX8_alike 36 = .ok (.iload 5, 2) := by decide +kernel
theorem dX8_alike_38 : decode cX8_alike 38 = .ok (.invokestatic 236, 3) := by decide +kernel
theorem dX8_alike_41 : decode cX8_alike 41 = .ok (.if_icmp .ne 6, 3) := by decide +kernel
theorem dX8_alike_44 : decode cX8_alike 44 = .ok (.iinc 3 1, 3) := by decide +kernel
theorem dX8_alike_47 : decode cX8_alike 47 = .ok (.iinc 4 1, 3) := by decide +kernel
theorem dX8_alike_50 : decode cX8_alike 50 = .ok (.goto (-45), 3) := by decide +kernel
theorem dX8_alike_53 : decode cX8_alike 53 = .ok (.iload_n 3, 1) := by decide +kernel
theorem dX8_alike_54 : decode cX8_alike 54 = .ok (.ireturn, 1) := by decide +kernel
def wtX8_alike : List Cond := .code yX8_alike cX8_alike 6 (some .int) :: (([]) ++ ((va_wsS RX8 61 yX8_within wtX8_within) ++ ((va_wsS RX8 236 yX8_digit wtX8_digit) ++ [])))
theorem imX8_alike_own : ∀ w ∈ ([] : List Cond), w ∈ wtX8_alike := fun w h => List.mem_cons_of_mem _ (inl h)
theorem imX8_alike_c_X8_within : ∀ w ∈ (va_wsS RX8 61 yX8_within wtX8_within : List Cond), w ∈ wtX8_alike := fun w h => List.mem_cons_of_mem _ (inr (inl h))
theorem imX8_alike_c_X8_digit : ∀ w ∈ (va_wsS RX8 236 yX8_digit wtX8_digit : List Cond), w ∈ wtX8_alike := fun w h => List.mem_cons_of_mem _ (inr (inr (inl h)))
theorem gdX8_alike : ∀ w ∈ wtX8_alike, Gd w := gdc rfl (gda (gdl (by decide +kernel)) (gda (gda (gdl (by decide +kernel)) gdX8_within) (gda (gda (gdl (by decide +kernel)) gdX8_digit) gdn)))
theorem gcX8_alike_X8_within : GoodIn wtX8_alike (va_wsS RX8 61 yX8_within wtX8_within) := fun w h => ⟨imX8_alike_c_X8_within w h, (gda (gdl (by decide +kernel)) gdX8_within) w h⟩
theorem gcX8_alike_X8_digit : GoodIn wtX8_alike (va_wsS RX8 236 yX8_digit wtX8_digit) := fun w h => ⟨imX8_alike_c_X8_digit w h, (gda (gdl (by decide +kernel)) gdX8_digit) w h⟩
def fX8_alike_5 (x0 : Int32) (x1 : Int32) (x2 : Int32) : Nat → Int32 → Int32 → Option (Int32)
  | 0, _, _ => none
  | n + 1, x3, x4 =>
    if (8 : Int32) ≤ x4 then
      some x3
    else
      (fX8_within (x4 - x2) (0 : Int32) (7 : Int32)).bind (fun r1002 =>
        if r1002 = (0 : Int32) then
          fX8_alike_5 x0 x1 x2 n x3 (x4 + (1 : Int32))
        else
          (fX8_digit x0 x4).bind (fun r1004 =>
            (fX8_digit x1 (x4 - x2)).bind (fun r1005 =>
              if r1004 = r1005 then
                fX8_alike_5 x0 x1 x2 n (x3 + (1 : Int32)) (x4 + (1 : Int32))
              else
                fX8_alike_5 x0 x1 x2 n x3 (x4 + (1 : Int32)))))
def fX8_alike (x0 : Int32) (x1 : Int32) (x2 : Int32) : Option (Int32) :=
  fX8_alike_5 x0 x1 x2 2000 (0 : Int32) (0 : Int32)
def wdX8_alike (cI cZ : ClassId)    : va_W := []
abbrev rmX8_alike : Jvm.Room := { frames := 1, cells := 0, slots := 0, locals := 23 }
theorem hyX8_alike : yX8_alike.cls ≠ "java/lang/invoke/MethodHandle" ∧ yX8_alike.cls ≠ "java/lang/invoke/VarHandle" ∧ (parseMethodDescriptor yX8_alike.desc).map (fun d => d.parameters.length) = some 3 := by decide +kernel
set_option maxHeartbeats 4000000 in
set_option maxRecDepth 100000 in
theorem mX8_alike (l : Launch) (D : va_G) (cI cZ : ClassId) (x0 : Int32) (x1 : Int32) (x2 : Int32) (z : Int32) (hF : fX8_alike x0 x1 x2 = some z) : mp l yX8_alike wtX8_alike rmX8_alike D cI cZ [.int x0, .int x1, .int x2] (wdX8_alike cI cZ ) (some (.int z)) (wdX8_alike cI cZ ) := by
  refine mp_i (lv0 := [(0, .int x0), (1, .int x1), (2, .int x2)]) cX8_alike 6 z (by decide) rfl (Nat.le_of_ble_eq_true rfl) rfl (fun E h hend0 => ?_)
  have hend : ∀ (z' : Int32), some z' = some z → ∀ (pc : Nat) (lv : List (Nat × Value)), decode cX8_alike pc = .ok (.ireturn, 1) → G l D E 6 0 0 (wdX8_alike cI cZ ) pc lv [.int z'] := fun z' e => by cases e; exact hend0
  clear hend0
  have hL5 : ∀ (n5 : Nat) (x3 : Int32) (x4 : Int32), fX8_alike_5 x0 x1 x2 n5 x3 x4 = some z → G l D E 6 0 0 (wdX8_alike cI cZ ) 5 [(0, .int x0), (1, .int x1), (2, .int x2), (3, .int x3), (4, .int x4)] [] := by
    intro n5
    induction n5 with
    | zero =>
      intro x3 x4 hF
      rw [fX8_alike_5] at hF
      cases hF
    | succ n5 ih5 =>
      intro x3 x4 hF
      rw [fX8_alike_5] at hF
      refine g_iload (np := 7) h 4 rfl dX8_alike_5 rfl ?_
      refine g_bipush (np := 9) (v := (8 : Int32)) h (by decide) dX8_alike_7 rfl ?_
      refine g_icmp_ge h hF dX8_alike_9 (np := 12) rfl (tg := 53) rfl (fun c1001 hF => ?_) (fun c1001 hF => ?_)
      · refine g_iload_n (np := 54) h 3 rfl rfl dX8_alike_53 rfl ?_
        exact hend _ hF _ _ dX8_alike_54
      · refine g_iload (np := 14) h 4 rfl dX8_alike_12 rfl ?_
        refine g_iload_n (np := 15) h 2 rfl rfl dX8_alike_14 rfl ?_
        refine g_isub (np := 16) h dX8_alike_15 rfl ?_
        refine g_istore (np := 18) (lv' := [(5, .int (x4 - x2)), (0, .int x0), (1, .int x1), (2, .int x2), (3, .int x3), (4, .int x4)]) h (by decide) rfl dX8_alike_16 rfl ?_
        refine g_iload (np := 20) h 0 rfl dX8_alike_18 rfl ?_
        refine g_iconst (np := 21) (v := (0 : Int32)) h (by decide) dX8_alike_20 rfl ?_
        refine g_bipush (np := 23) (v := (7 : Int32)) h (by decide) dX8_alike_21 rfl ?_
        obtain ⟨r1002, hr1002, hF⟩ := Option.bind_eq_some_iff.mp hF
        refine g_callS (np := 26) (Wd' := (wdX8_alike cI cZ )) (As := [.int (x4 - x2), .int (0 : Int32), .int (7 : Int32)]) h (mX8_within l D cI cZ (x4 - x2) (0 : Int32) (7 : Int32) r1002 hr1002) gcX8_alike_X8_within rfl ⟨rfl, rfl⟩ hyX8_within rfl rfl rfl rfl ⟨Nat.zero_le _, Nat.zero_le _⟩ [] [] (N := 0) (by decide +kernel) rfl rfl rfl rfl rfl dX8_alike_23 rfl ?_
        refine g_if_eq h hF dX8_alike_26 (np := 29) rfl (tg := 47) rfl (fun c1003 hF => ?_) (fun c1003 hF => ?_)
        · refine g_iinc (np := 50) (v := (x4 + (1 : Int32))) (lv' := [(4, .int (x4 + (1 : Int32))), (5, .int (x4 - x2)), (0, .int x0), (1, .int x1), (2, .int x2), (3, .int x3)]) h 5 rfl rfl (by decide) rfl dX8_alike_47 rfl ?_
          refine g_goto h dX8_alike_50 (np := 5) rfl ?_
          refine g_lv [2, 3, 4, 5, 0] rfl ?_
          exact ih5 x3 (x4 + (1 : Int32)) hF
        · refine g_iload_n (np := 30) h 1 rfl rfl dX8_alike_29 rfl ?_
          refine g_iload (np := 32) h 5 rfl dX8_alike_30 rfl ?_
          obtain ⟨r1004, hr1004, hF⟩ := Option.bind_eq_some_iff.mp hF
          refine g_callS (np := 35) (Wd' := (wdX8_alike cI cZ )) (As := [.int x0, .int x4]) h (mX8_digit l D cI cZ x0 x4 r1004 hr1004) gcX8_alike_X8_digit rfl ⟨rfl, rfl⟩ hyX8_digit rfl rfl rfl rfl ⟨Nat.zero_le _, Nat.zero_le _⟩ [] [] (N := 0) (by decide +kernel) rfl rfl rfl rfl rfl dX8_alike_32 rfl ?_
          refine g_iload_n (np := 36) h 2 rfl rfl dX8_alike_35 rfl ?_
          refine g_iload (np := 38) h 0 rfl dX8_alike_36 rfl ?_
          obtain ⟨r1005, hr1005, hF⟩ := Option.bind_eq_some_iff.mp hF
          refine g_callS (np := 41) (Wd' := (wdX8_alike cI cZ )) (As := [.int x1, .int (x4 - x2)]) h (mX8_digit l D cI cZ x1 (x4 - x2) r1005 hr1005) gcX8_alike_X8_digit rfl ⟨rfl, rfl⟩ hyX8_digit rfl rfl rfl rfl ⟨Nat.zero_le _, Nat.zero_le _⟩ [] [] (N := 0) (by decide +kernel) rfl rfl rfl rfl rfl dX8_alike_38 rfl ?_
          refine g_icmp_ne h hF dX8_alike_41 (np := 44) rfl (tg := 47) rfl (fun c1006 hF => ?_) (fun c1006 hF => ?_)
          · refine g_iinc (np := 50) (v := (x4 + (1 : Int32))) (lv' := [(4, .int (x4 + (1 : Int32))), (5, .int (x4 - x2)), (0, .int x0), (1, .int x1), (2, .int x2), (3, .int x3)]) h 5 rfl rfl (by decide) rfl dX8_alike_47 rfl ?_
            refine g_goto h dX8_alike_50 (np := 5) rfl ?_
            refine g_lv [2, 3, 4, 5, 0] rfl ?_
            exact ih5 x3 (x4 + (1 : Int32)) hF
          · refine g_iinc (np := 47) (v := (x3 + (1 : Int32))) (lv' := [(3, .int (x3 + (1 : Int32))), (5, .int (x4 - x2)), (0, .int x0), (1, .int x1), (2, .int x2), (4, .int x4)]) h 4 rfl rfl (by decide) rfl dX8_alike_44 rfl ?_
            refine g_iinc (np := 50) (v := (x4 + (1 : Int32))) (lv' := [(4, .int (x4 + (1 : Int32))), (3, .int (x3 + (1 : Int32))), (5, .int (x4 - x2)), (0, .int x0), (1, .int x1), (2, .int x2)]) h 5 rfl rfl (by decide) rfl dX8_alike_47 rfl ?_
            refine g_goto h dX8_alike_50 (np := 5) rfl ?_
            refine g_lv [3, 4, 5, 1, 0] rfl ?_
            exact ih5 (x3 + (1 : Int32)) (x4 + (1 : Int32)) hF
  unfold fX8_alike at hF
  refine g_iconst (np := 1) (v := (0 : Int32)) h (by decide) dX8_alike_0 rfl ?_
  refine g_istore_n (np := 2) (lv' := [(3, .int (0 : Int32)), (0, .int x0), (1, .int x1), (2, .int x2)]) h rfl (by decide) rfl dX8_alike_1 rfl ?_
  refine g_iconst (np := 3) (v := (0 : Int32)) h (by decide) dX8_alike_2 rfl ?_
  refine g_istore (np := 5) (lv' := [(4, .int (0 : Int32)), (3, .int (0 : Int32)), (0, .int x0), (1, .int x1), (2, .int x2)]) h (by decide) rfl dX8_alike_3 rfl ?_
  refine g_lv [2, 3, 4, 1, 0] rfl ?_
  exact hL5 _ (0 : Int32) (0 : Int32) hF
theorem dX8_bitsNear_0 : decode cX8_bitsNear 0 = .ok (.iconst 0, 1) := by decide +kernel
theorem dX8_bitsNear_1 : decode cX8_bitsNear 1 = .ok (.istore_n 2, 1) := by decide +kernel
theorem dX8_bitsNear_2 : decode cX8_bitsNear 2 = .ok (.iconst 0, 1) := by decide +kernel
theorem dX8_bitsNear_3 : decode cX8_bitsNear 3 = .ok (.istore_n 3, 1) := by decide +kernel
theorem dX8_bitsNear_4 : decode cX8_bitsNear 4 = .ok (.iload_n 3, 1) := by decide +kernel
theorem dX8_bitsNear_5 : decode cX8_bitsNear 5 = .ok (.bipush 8, 2) := by decide +kernel
theorem dX8_bitsNear_7 : decode cX8_bitsNear 7 = .ok (.if_icmp .ge 25, 3) := by decide +kernel
theorem dX8_bitsNear_10 : decode cX8_bitsNear 10 = .ok (.iload_n 3, 1) := by decide +kernel
theorem dX8_bitsNear_11 : decode cX8_bitsNear 11 = .ok (.iload_n 0, 1) := by decide +kernel
theorem dX8_bitsNear_12 : decode cX8_bitsNear 12 = .ok (.isub, 1) := by decide +kernel
theorem dX8_bitsNear_13 : decode cX8_bitsNear 13 = .ok (.invokestatic 239, 3) := by decide +kernel
theorem dX8_bitsNear_16 : decode cX8_bitsNear 16 = .ok (.iload_n 1, 1) := by decide +kernel
theorem dX8_bitsNear_17 : decode cX8_bitsNear 17 = .ok (.if_icmp .gt 9, 3) := by decide +kernel
theorem dX8_bitsNear_20 : decode cX8_bitsNear 20 = .ok (.iload_n 2, 1) := by decide +kernel
theorem dX8_bitsNear_21 : decode cX8_bitsNear 21 = .ok (.iconst 1, 1) := by decide +kernel
theorem dX8_bitsNear_22 : decode cX8_bitsNear 22 = .ok (.iload_n 3, 1) := by decide +kernel
theorem dX8_bitsNear_23 : decode cX8_bitsNear 23 = .ok (.ishl, 1) := by decide +kernel
theorem dX8_bitsNear_24 : decode cX8_bitsNear 24 = .ok (.ior, 1) := by decide +kernel
theorem dX8_bitsNear_25 : decode cX8_bitsNear 25 = .ok (.istore_n 2, 1) := by decide +kernel
theorem dX8_bitsNear_26 : decode cX8_bitsNear 26 = .ok (.iinc 3 1, 3) := by decide +kernel
theorem dX8_bitsNear_29 : decode cX8_bitsNear 29 = .ok (.goto (-25), 3) := by decide +kernel
theorem dX8_bitsNear_32 : decode cX8_bitsNear 32 = .ok (.iload_n 2, 1) := by decide +kernel
theorem dX8_bitsNear_33 : decode cX8_bitsNear 33 = .ok (.ireturn, 1) := by decide +kernel
def wtX8_bitsNear : List Cond := .code yX8_bitsNear cX8_bitsNear 4 (some .int) :: (([.methodLink RX8 239 Lib.Math.abs.name, .static Lib.Math.abs.name, .initialized "java/lang/Math", .code Lib.Math.abs.name Lib.Math.abs.code 1 (some .int)]) ++ [])
theorem imX8_bitsNear_own : ∀ w ∈ ([.methodLink RX8 239 Lib.Math.abs.name, .static Lib.Math.abs.name, .initialized "java/lang/Math", .code Lib.Math.abs.name Lib.Math.abs.code 1 (some .int)] : List Cond), w ∈ wtX8_bitsNear := fun w h => List.mem_cons_of_mem _ (inl h)
theorem gdX8_bitsNear : ∀ w ∈ wtX8_bitsNear, Gd w := gdc rfl (gda (gdl (by decide +kernel)) gdn)
def fX8_bitsNear_4 (x0 : Int32) (x1 : Int32) : Nat → Int32 → Int32 → Option (Int32)
  | 0, _, _ => none
  | n + 1, x2, x3 =>
    if (8 : Int32) ≤ x3 then
      some x2
    else
      if x1 < (jabs (x3 - x0)) then
        fX8_bitsNear_4 x0 x1 n x2 (x3 + (1 : Int32))
      else
        fX8_bitsNear_4 x0 x1 n (x2 ||| (jshl (1 : Int32) x3)) (x3 + (1 : Int32))
def fX8_bitsNear (x0 : Int32) (x1 : Int32) : Option (Int32) :=
  fX8_bitsNear_4 x0 x1 2000 (0 : Int32) (0 : Int32)
def wdX8_bitsNear (cI cZ : ClassId)    : va_W := []
abbrev rmX8_bitsNear : Jvm.Room := { frames := 1, cells := 0, slots := 0, locals := 21 }
theorem hyX8_bitsNear : yX8_bitsNear.cls ≠ "java/lang/invoke/MethodHandle" ∧ yX8_bitsNear.cls ≠ "java/lang/invoke/VarHandle" ∧ (parseMethodDescriptor yX8_bitsNear.desc).map (fun d => d.parameters.length) = some 2 := by decide +kernel
set_option maxHeartbeats 4000000 in
set_option maxRecDepth 100000 in
theorem mX8_bitsNear (l : Launch) (D : va_G) (cI cZ : ClassId) (x0 : Int32) (x1 : Int32) (z : Int32) (hF : fX8_bitsNear x0 x1 = some z) : mp l yX8_bitsNear wtX8_bitsNear rmX8_bitsNear D cI cZ [.int x0, .int x1] (wdX8_bitsNear cI cZ ) (some (.int z)) (wdX8_bitsNear cI cZ ) := by
  refine mp_i (lv0 := [(0, .int x0), (1, .int x1)]) cX8_bitsNear 4 z (by decide) rfl (Nat.le_of_ble_eq_true rfl) rfl (fun E h hend0 => ?_)
  have hend : ∀ (z' : Int32), some z' = some z → ∀ (pc : Nat) (lv : List (Nat × Value)), decode cX8_bitsNear pc = .ok (.ireturn, 1) → G l D E 4 0 0 (wdX8_bitsNear cI cZ ) pc lv [.int z'] := fun z' e => by cases e; exact hend0
  clear hend0
  have hL4 : ∀ (n4 : Nat) (x2 : Int32) (x3 : Int32), fX8_bitsNear_4 x0 x1 n4 x2 x3 = some z → G l D E 4 0 0 (wdX8_bitsNear cI cZ ) 4 [(0, .int x0), (1, .int x1), (2, .int x2), (3, .int x3)] [] := by
    intro n4
    induction n4 with
    | zero =>
      intro x2 x3 hF
      rw [fX8_bitsNear_4] at hF
      cases hF
    | succ n4 ih4 =>
      intro x2 x3 hF
      rw [fX8_bitsNear_4] at hF
      refine g_iload_n (np := 5) h 3 rfl rfl dX8_bitsNear_4 rfl ?_
      refine g_bipush (np := 7) (v := (8 : Int32)) h (by decide) dX8_bitsNear_5 rfl ?_
      refine g_icmp_ge h hF dX8_bitsNear_7 (np := 10) rfl (tg := 32) rfl (fun c1001 hF => ?_) (fun c1001 hF => ?_)
      · refine g_iload_n (np := 33) h 2 rfl rfl dX8_bitsNear_32 rfl ?_
        exact hend _ hF _ _ dX8_bitsNear_33
      · refine g_iload_n (np := 11) h 3 rfl rfl dX8_bitsNear_10 rfl ?_
        refine g_iload_n (np := 12) h 0 rfl rfl dX8_bitsNear_11 rfl ?_
        refine g_isub (np := 13) h dX8_bitsNear_12 rfl ?_
        refine g_mabs (np := 16) h (imX8_bitsNear_own _ (List.mem_of_getElem? (i := 0) rfl)) (imX8_bitsNear_own _ (List.mem_of_getElem? (i := 1) rfl)) (imX8_bitsNear_own _ (List.mem_of_getElem? (i := 2) rfl)) (imX8_bitsNear_own _ (List.mem_of_getElem? (i := 3) rfl)) rfl rfl ⟨Nat.zero_le _, Nat.zero_le _⟩ dX8_bitsNear_13 rfl ?_
        refine g_iload_n (np := 17) h 1 rfl rfl dX8_bitsNear_16 rfl ?_
        refine g_icmp_gt h hF dX8_bitsNear_17 (np := 20) rfl (tg := 26) rfl (fun c1002 hF => ?_) (fun c1002 hF => ?_)
        · refine g_iinc (np := 29) (v := (x3 + (1 : Int32))) (lv' := [(3, .int (x3 + (1 : Int32))), (0, .int x0), (1, .int x1), (2, .int x2)]) h 3 rfl rfl (by decide) rfl dX8_bitsNear_26 rfl ?_
          refine g_goto h dX8_bitsNear_29 (np := 4) rfl ?_
          refine g_lv [1, 2, 3, 0] rfl ?_
          exact ih4 x2 (x3 + (1 : Int32)) hF
        · refine g_iload_n (np := 21) h 2 rfl rfl dX8_bitsNear_20 rfl ?_
          refine g_iconst (np := 22) (v := (1 : Int32)) h (by decide) dX8_bitsNear_21 rfl ?_
          refine g_iload_n (np := 23) h 3 rfl rfl dX8_bitsNear_22 rfl ?_
          refine g_ishl (np := 24) h dX8_bitsNear_23 rfl ?_
          refine g_ior (np := 25) h dX8_bitsNear_24 rfl ?_
          refine g_istore_n (np := 26) (lv' := [(2, .int (x2 ||| (jshl (1 : Int32) x3))), (0, .int x0), (1, .int x1), (3, .int x3)]) h rfl (by decide) rfl dX8_bitsNear_25 rfl ?_
          refine g_iinc (np := 29) (v := (x3 + (1 : Int32))) (lv' := [(3, .int (x3 + (1 : Int32))), (2, .int (x2 ||| (jshl (1 : Int32) x3))), (0, .int x0), (1, .int x1)]) h 3 rfl rfl (by decide) rfl dX8_bitsNear_26 rfl ?_
          refine g_goto h dX8_bitsNear_29 (np := 4) rfl ?_
          refine g_lv [2, 3, 1, 0] rfl ?_
          exact ih4 (x2 ||| (jshl (1 : Int32) x3)) (x3 + (1 : Int32)) hF
  unfold fX8_bitsNear at hF
  refine g_iconst (np := 1) (v := (0 : Int32)) h (by decide) dX8_bitsNear_0 rfl ?_
  refine g_istore_n (np := 2) (lv' := [(2, .int (0 : Int32)), (0, .int x0), (1, .int x1)]) h rfl (by decide) rfl dX8_bitsNear_1 rfl ?_
  refine g_iconst (np := 3) (v := (0 : Int32)) h (by decide) dX8_bitsNear_2 rfl ?_
  refine g_istore_n (np := 4) (lv' := [(3, .int (0 : Int32)), (2, .int (0 : Int32)), (0, .int x0), (1, .int x1)]) h rfl (by decide) rfl dX8_bitsNear_3 rfl ?_
  refine g_lv [2, 3, 1, 0] rfl ?_
  exact hL4 _ (0 : Int32) (0 : Int32) hF
theorem dX8_power_0 : decode cX8_power 0 = .ok (.lconst 1, 1) := by decide +kernel
theorem dX8_power_1 : decode cX8_power 1 = .ok (.lstore_n 2, 1) := by decide +kernel
theorem dX8_power_2 : decode cX8_power 2 = .ok (.iconst 0, 1) := by decide +kernel
theorem dX8_power_3 : decode cX8_power 3 = .ok (.istore 4, 2) := by decide +kernel
theorem dX8_power_5 : decode cX8_power 5 = .ok (.iload 4, 2) := by decide +kernel
theorem dX8_power_7 : decode cX8_power 7 = .ok (.iload_n 1, 1) := by decide +kernel
theorem dX8_power_8 : decode cX8_power 8 = .ok (.if_icmp .ge 14, 3) := by decide +kernel
theorem dX8_power_11 : decode cX8_power 11 = .ok (.lload_n 2, 1) := by decide +kernel
theorem dX8_power_12 : decode cX8_power 12 = .ok (.iload_n 0, 1) := by decide +kernel
theorem dX8_power_13 : decode cX8_power 13 = .ok (.i2l, 1) := by decide +kernel
theorem dX8_power_14 : decode cX8_power 14 = .ok (.lmul, 1) := by decide +kernel
theorem dX8_power_15 : decode cX8_power 15 = .ok (.lstore_n 2, 1) := by decide +kernel
theorem dX8_power_16 : decode cX8_power 16 = .ok (.iinc 4 1, 3) := by decide +kernel
theorem dX8_power_19 : decode cX8_power 19 = .ok (.goto (-14), 3) := by decide +kernel
theorem dX8_power_22 : decode cX8_power 22 = .ok (.lload_n 2, 1) := by decide +kernel
theorem dX8_power_23 : decode cX8_power 23 = .ok (.lreturn, 1) := by decide +kernel
def wtX8_power : List Cond := .code yX8_power cX8_power 5 (some .long) :: (([]) ++ [])
theorem imX8_power_own : ∀ w ∈ ([] : List Cond), w ∈ wtX8_power := fun w h => List.mem_cons_of_mem _ (inl h)
theorem gdX8_power : ∀ w ∈ wtX8_power, Gd w := gdc rfl (gda (gdl (by decide +kernel)) gdn)
def fX8_power_5 (x0 : Int32) (x1 : Int32) : Nat → Int64 → Int32 → Option (Int64)
  | 0, _, _ => none
  | n + 1, x2, x4 =>
    if x1 ≤ x4 then
      some x2
    else
      fX8_power_5 x0 x1 n (x2 * (Int32.toInt64 x0)) (x4 + (1 : Int32))
def fX8_power (x0 : Int32) (x1 : Int32) : Option (Int64) :=
  fX8_power_5 x0 x1 2000 (1 : Int64) (0 : Int32)
def wdX8_power (cI cZ : ClassId)    : va_W := []
abbrev rmX8_power : Jvm.Room := { frames := 0, cells := 0, slots := 0, locals := 0 }
theorem hyX8_power : yX8_power.cls ≠ "java/lang/invoke/MethodHandle" ∧ yX8_power.cls ≠ "java/lang/invoke/VarHandle" ∧ (parseMethodDescriptor yX8_power.desc).map (fun d => d.parameters.length) = some 2 := by decide +kernel
set_option maxHeartbeats 4000000 in
set_option maxRecDepth 100000 in
theorem mX8_power (l : Launch) (D : va_G) (cI cZ : ClassId) (x0 : Int32) (x1 : Int32) (z : Int64) (hF : fX8_power x0 x1 = some z) : mp l yX8_power wtX8_power rmX8_power D cI cZ [.int x0, .int x1] (wdX8_power cI cZ ) (some (.long z)) (wdX8_power cI cZ ) := by
  refine mp_l (lv0 := [(0, .int x0), (1, .int x1)]) cX8_power 5 z (by decide) rfl (Nat.le_of_ble_eq_true rfl) rfl (fun E h hend0 => ?_)
  have hend : ∀ (z' : Int64), some z' = some z → ∀ (pc : Nat) (lv : List (Nat × Value)), decode cX8_power pc = .ok (.lreturn, 1) → G l D E 5 0 0 (wdX8_power cI cZ ) pc lv [.long z'] := fun z' e => by cases e; exact hend0
  clear hend0
  have hL5 : ∀ (n5 : Nat) (x2 : Int64) (x4 : Int32), fX8_power_5 x0 x1 n5 x2 x4 = some z → G l D E 5 0 0 (wdX8_power cI cZ ) 5 [(0, .int x0), (1, .int x1), (2, .long x2), (4, .int x4)] [] := by
    intro n5
    induction n5 with
    | zero =>
      intro x2 x4 hF
      rw [fX8_power_5] at hF
      cases hF
    | succ n5 ih5 =>
      intro x2 x4 hF
      rw [fX8_power_5] at hF
      refine g_iload (np := 7) h 3 rfl dX8_power_5 rfl ?_
      refine g_iload_n (np := 8) h 1 rfl rfl dX8_power_7 rfl ?_
      refine g_icmp_ge h hF dX8_power_8 (np := 11) rfl (tg := 22) rfl (fun c1001 hF => ?_) (fun c1001 hF => ?_)
      · refine g_lload_n (np := 23) h 2 rfl rfl dX8_power_22 rfl ?_
        exact hend _ hF _ _ dX8_power_23
      · refine g_lload_n (np := 12) h 2 rfl rfl dX8_power_11 rfl ?_
        refine g_iload_n (np := 13) h 0 rfl rfl dX8_power_12 rfl ?_
        refine g_i2l (np := 14) h dX8_power_13 rfl ?_
        refine g_lmul (np := 15) h dX8_power_14 rfl ?_
        refine g_lstore_n (np := 16) (lv' := [(2, .long (x2 * (Int32.toInt64 x0))), (0, .int x0), (1, .int x1), (4, .int x4)]) h rfl (by decide) rfl dX8_power_15 rfl ?_
        refine g_iinc (np := 19) (v := (x4 + (1 : Int32))) (lv' := [(4, .int (x4 + (1 : Int32))), (2, .long (x2 * (Int32.toInt64 x0))), (0, .int x0), (1, .int x1)]) h 3 rfl rfl (by decide) rfl dX8_power_16 rfl ?_
        refine g_goto h dX8_power_19 (np := 5) rfl ?_
        refine g_lv [2, 3, 1, 0] rfl ?_
        exact ih5 (x2 * (Int32.toInt64 x0)) (x4 + (1 : Int32)) hF
  unfold fX8_power at hF
  refine g_lconst (np := 1) (v := (1 : Int64)) h (by decide) dX8_power_0 rfl ?_
  refine g_lstore_n (np := 2) (lv' := [(2, .long (1 : Int64)), (0, .int x0), (1, .int x1)]) h rfl (by decide) rfl dX8_power_1 rfl ?_
  refine g_iconst (np := 3) (v := (0 : Int32)) h (by decide) dX8_power_2 rfl ?_
  refine g_istore (np := 5) (lv' := [(4, .int (0 : Int32)), (2, .long (1 : Int64)), (0, .int x0), (1, .int x1)]) h (by decide) rfl dX8_power_3 rfl ?_
  refine g_lv [2, 3, 1, 0] rfl ?_
  exact hL5 _ (1 : Int64) (0 : Int32) hF
theorem dX8_greatestDivisor_0 : decode cX8_greatestDivisor 0 = .ok (.lload_n 0, 1) := by decide +kernel
theorem dX8_greatestDivisor_1 : decode cX8_greatestDivisor 1 = .ok (.lstore 4, 2) := by decide +kernel
theorem dX8_greatestDivisor_3 : decode cX8_greatestDivisor 3 = .ok (.lload_n 2, 1) := by decide +kernel
theorem dX8_greatestDivisor_4 : decode cX8_greatestDivisor 4 = .ok (.lstore 6, 2) := by decide +kernel
theorem dX8_greatestDivisor_6 : decode cX8_greatestDivisor 6 = .ok (.iconst 0, 1) := by decide +kernel
theorem dX8_greatestDivisor_7 : decode cX8_greatestDivisor 7 = .ok (.istore 8, 2) := by decide +kernel
theorem dX8_greatestDivisor_9 : decode cX8_greatestDivisor 9 = .ok (.iload 8, 2) := by decide +kernel
theorem dX8_greatestDivisor_11 : decode cX8_greatestDivisor 11 = .ok (.bipush 100, 2) := by decide +kernel
theorem dX8_greatestDivisor_13 : decode cX8_greatestDivisor 13 = .ok (.if_icmp .ge 31, 3) := by decide +kernel
theorem dX8_greatestDivisor_16 : decode cX8_greatestDivisor 16 = .ok (.lload 6, 2) := by decide +kernel
theorem dX8_greatestDivisor_18 : decode cX8_greatestDivisor 18 = .ok (.lconst 0, 1) := by decide +kernel
theorem dX8_greatestDivisor_19 : decode cX8_greatestDivisor 19 = .ok (.lcmp, 1) := by decide +kernel
theorem dX8_greatestDivisor_20 : decode cX8_greatestDivisor 20 = .ok (.ifCond .eq 24, 3) := by decide +kernel
theorem dX8_greatestDivisor_23 : decode cX8_greatestDivisor 23 = .ok (.lload 4, 2) := by decide +kernel
theorem dX8_greatestDivisor_25 : decode cX8_greatestDivisor 25 = .ok (.lload 6, 2) := by decide +kernel
theorem dX8_greatestDivisor_27 : decode cX8_greatestDivisor 27 = .ok (.lrem, 1) := by decide +kernel
theorem dX8_greatestDivisor_28 : decode cX8_greatestDivisor 28 = .ok (.lstore 9, 2) := by decide +kernel
theorem dX8_greatestDivisor_30 : decode cX8_greatestDivisor 30 = .ok (.lload 6, 2) := by decide +kernel
theorem dX8_greatestDivisor_32 : decode cX8_greatestDivisor 32 = .ok (.lstore 4, 2) := by decide +kernel
theorem dX8_greatestDivisor_34 : decode cX8_greatestDivisor 34 = .ok (.lload 9, 2) := by decide +kernel
theorem dX8_greatestDivisor_36 : decode cX8_greatestDivisor 36 = .ok (.lstore 6, 2) := by decide +kernel
theorem dX8_greatestDivisor_38 : decode cX8_greatestDivisor 38 = .ok (.iinc 8 1, 3) := by decide +kernel
theorem dX8_greatestDivisor_41 : decode cX8_greatestDivisor 41 = .ok (.goto (-32), 3) := by decide +kernel
theorem dX8_greatestDivisor_44 : decode cX8_greatestDivisor 44 = .ok (.lload 4, 2) := by decide +kernel
theorem dX8_greatestDivisor_46 : decode cX8_greatestDivisor 46 = .ok (.lreturn, 1) := by decide +kernel
def wtX8_greatestDivisor : List Cond := .code yX8_greatestDivisor cX8_greatestDivisor 11 (some .long) :: (([]) ++ [])
theorem imX8_greatestDivisor_own : ∀ w ∈ ([] : List Cond), w ∈ wtX8_greatestDivisor := fun w h => List.mem_cons_of_mem _ (inl h)
theorem gdX8_greatestDivisor : ∀ w ∈ wtX8_greatestDivisor, Gd w := gdc rfl (gda (gdl (by decide +kernel)) gdn)
def fX8_greatestDivisor_9  : Nat → Int64 → Int64 → Int32 → Option (Int64)
  | 0, _, _, _ => none
  | n + 1, x4, x6, x8 =>
    if (100 : Int32) ≤ x8 then
      some x4
    else
      if (lg_cmp x6 (0 : Int64)) = (0 : Int32) then
        some x4
      else
        nzl x6 (
          fX8_greatestDivisor_9 n x6 (jlrem x4 x6) (x8 + (1 : Int32)))
def fX8_greatestDivisor (x0 : Int64) (x2 : Int64) : Option (Int64) :=
  fX8_greatestDivisor_9 2000 x0 x2 (0 : Int32)
def wdX8_greatestDivisor (cI cZ : ClassId)    : va_W := []
abbrev rmX8_greatestDivisor : Jvm.Room := { frames := 0, cells := 0, slots := 0, locals := 0 }
theorem hyX8_greatestDivisor : yX8_greatestDivisor.cls ≠ "java/lang/invoke/MethodHandle" ∧ yX8_greatestDivisor.cls ≠ "java/lang/invoke/VarHandle" ∧ (parseMethodDescriptor yX8_greatestDivisor.desc).map (fun d => d.parameters.length) = some 2 := by decide +kernel
set_option maxHeartbeats 4000000 in
set_option maxRecDepth 100000 in
theorem mX8_greatestDivisor (l : Launch) (D : va_G) (cI cZ : ClassId) (x0 : Int64) (x2 : Int64) (z : Int64) (hF : fX8_greatestDivisor x0 x2 = some z) : mp l yX8_greatestDivisor wtX8_greatestDivisor rmX8_greatestDivisor D cI cZ [.long x0, .long x2] (wdX8_greatestDivisor cI cZ ) (some (.long z)) (wdX8_greatestDivisor cI cZ ) := by
  refine mp_l (lv0 := [(0, .long x0), (2, .long x2)]) cX8_greatestDivisor 11 z (by decide) rfl (Nat.le_of_ble_eq_true rfl) rfl (fun E h hend0 => ?_)
  have hend : ∀ (z' : Int64), some z' = some z → ∀ (pc : Nat) (lv : List (Nat × Value)), decode cX8_greatestDivisor pc = .ok (.lreturn, 1) → G l D E 11 0 0 (wdX8_greatestDivisor cI cZ ) pc lv [.long z'] := fun z' e => by cases e; exact hend0
  clear hend0
  have hL9 : ∀ (n9 : Nat) (x4 : Int64) (x6 : Int64) (x8 : Int32), fX8_greatestDivisor_9 n9 x4 x6 x8 = some z → G l D E 11 0 0 (wdX8_greatestDivisor cI cZ ) 9 [(4, .long x4), (6, .long x6), (8, .int x8)] [] := by
    intro n9
    induction n9 with
    | zero =>
      intro x4 x6 x8 hF
      rw [fX8_greatestDivisor_9] at hF
      cases hF
    | succ n9 ih9 =>
      intro x4 x6 x8 hF
      rw [fX8_greatestDivisor_9] at hF
      refine g_iload (np := 11) h 2 rfl dX8_greatestDivisor_9 rfl ?_
      refine g_bipush (np := 13) (v := (100 : Int32)) h (by decide) dX8_greatestDivisor_11 rfl ?_
      refine g_icmp_ge h hF dX8_greatestDivisor_13 (np := 16) rfl (tg := 44) rfl (fun c1001 hF => ?_) (fun c1001 hF => ?_)
      · refine g_lload (np := 46) h 0 rfl dX8_greatestDivisor_44 rfl ?_
        exact hend _ hF _ _ dX8_greatestDivisor_46
      · refine g_lload (np := 18) h 1 rfl dX8_greatestDivisor_16 rfl ?_
        refine g_lconst (np := 19) (v := (0 : Int64)) h (by decide) dX8_greatestDivisor_18 rfl ?_
        refine g_lcmp (np := 20) h dX8_greatestDivisor_19 rfl ?_
        refine g_if_eq h hF dX8_greatestDivisor_20 (np := 23) rfl (tg := 44) rfl (fun c1002 hF => ?_) (fun c1002 hF => ?_)
        · refine g_lload (np := 46) h 0 rfl dX8_greatestDivisor_44 rfl ?_
          exact hend _ hF _ _ dX8_greatestDivisor_46
        · refine g_lload (np := 25) h 0 rfl dX8_greatestDivisor_23 rfl ?_
          refine g_lload (np := 27) h 1 rfl dX8_greatestDivisor_25 rfl ?_
          obtain ⟨hz1003, hF⟩ := nzl_e hF
          refine g_lrem (np := 28) h hz1003 dX8_greatestDivisor_27 rfl ?_
          refine g_lstore (np := 30) (lv' := [(9, .long (jlrem x4 x6)), (4, .long x4), (6, .long x6), (8, .int x8)]) h (by decide) rfl dX8_greatestDivisor_28 rfl ?_
          refine g_lload (np := 32) h 2 rfl dX8_greatestDivisor_30 rfl ?_
          refine g_lstore (np := 34) (lv' := [(4, .long x6), (9, .long (jlrem x4 x6)), (6, .long x6), (8, .int x8)]) h (by decide) rfl dX8_greatestDivisor_32 rfl ?_
          refine g_lload (np := 36) h 1 rfl dX8_greatestDivisor_34 rfl ?_
          refine g_lstore (np := 38) (lv' := [(6, .long (jlrem x4 x6)), (4, .long x6), (9, .long (jlrem x4 x6)), (8, .int x8)]) h (by decide) rfl dX8_greatestDivisor_36 rfl ?_
          refine g_iinc (np := 41) (v := (x8 + (1 : Int32))) (lv' := [(8, .int (x8 + (1 : Int32))), (6, .long (jlrem x4 x6)), (4, .long x6), (9, .long (jlrem x4 x6))]) h 3 rfl rfl (by decide) rfl dX8_greatestDivisor_38 rfl ?_
          refine g_goto h dX8_greatestDivisor_41 (np := 9) rfl ?_
          refine g_lv [2, 1, 0] rfl ?_
          exact ih9 x6 (jlrem x4 x6) (x8 + (1 : Int32)) hF
  unfold fX8_greatestDivisor at hF
  refine g_lload_n (np := 1) h 0 rfl rfl dX8_greatestDivisor_0 rfl ?_
  refine g_lstore (np := 3) (lv' := [(4, .long x0), (0, .long x0), (2, .long x2)]) h (by decide) rfl dX8_greatestDivisor_1 rfl ?_
  refine g_lload_n (np := 4) h 2 rfl rfl dX8_greatestDivisor_3 rfl ?_
  refine g_lstore (np := 6) (lv' := [(6, .long x2), (4, .long x0), (0, .long x0), (2, .long x2)]) h (by decide) rfl dX8_greatestDivisor_4 rfl ?_
  refine g_iconst (np := 7) (v := (0 : Int32)) h (by decide) dX8_greatestDivisor_6 rfl ?_
  refine g_istore (np := 9) (lv' := [(8, .int (0 : Int32)), (6, .long x2), (4, .long x0), (0, .long x0), (2, .long x2)]) h (by decide) rfl dX8_greatestDivisor_7 rfl ?_
  refine g_lv [2, 1, 0] rfl ?_
  exact hL9 _ x0 x2 (0 : Int32) hF
theorem dJ6_bitCount_0f7a4_0 : decode cJ6_bitCount_0f7a4 0 = .ok (.iload_n 0, 1) := by decide +kernel
theorem dJ6_bitCount_0f7a4_1 : decode cJ6_bitCount_0f7a4 1 = .ok (.iload_n 0, 1) := by decide +kernel
theorem dJ6_bitCount_0f7a4_2 : decode cJ6_bitCount_0f7a4 2 = .ok (.iconst 1, 1) := by decide +kernel
theorem dJ6_bitCount_0f7a4_3 : decode cJ6_bitCount_0f7a4 3 = .ok (.iushr, 1) := by decide +kernel
theorem dJ6_bitCount_0f7a4_4 : decode cJ6_bitCount_0f7a4 4 = .ok (.ldc_w 265, 3) := by decide +kernel
theorem dJ6_bitCount_0f7a4_7 : decode cJ6_bitCount_0f7a4 7 = .ok (.iand, 1) := by decide +kernel
theorem dJ6_bitCount_0f7a4_8 : decode cJ6_bitCount_0f7a4 8 = .ok (.isub, 1) := by decide +kernel
theorem dJ6_bitCount_0f7a4_9 : decode cJ6_bitCount_0f7a4 9 = .ok (.istore_n 0, 1) := by decide +kernel
theorem dJ6_bitCount_0f7a4_10 : decode cJ6_bitCount_0f7a4 10 = .ok (.iload_n 0, 1) := by decide +kernel
theorem dJ6_bitCount_0f7a4_11 : decode cJ6_bitCount_0f7a4 11 = .ok (.ldc_w 266, 3) := by decide +kernel
theorem dJ6_bitCount_0f7a4_14 : decode cJ6_bitCount_0f7a4 14 = .ok (.iand, 1) := by decide +kernel
theorem dJ6_bitCount_0f7a4_15 : decode cJ6_bitCount_0f7a4 15 = .ok (.iload_n 0, 1) := by decide +kernel
theorem dJ6_bitCount_0f7a4_16 : decode cJ6_bitCount_0f7a4 16 = .ok (.iconst 2, 1) := by decide +kernel
theorem dJ6_bitCount_0f7a4_17 : decode cJ6_bitCount_0f7a4 17 = .ok (.iushr, 1) := by decide +kernel
theorem dJ6_bitCount_0f7a4_18 : decode cJ6_bitCount_0f7a4 18 = .ok (.ldc_w 266, 3) := by decide +kernel
theorem dJ6_bitCount_0f7a4_21 : decode cJ6_bitCount_0f7a4 21 = .ok (.iand, 1) := by decide +kernel
theorem dJ6_bitCount_0f7a4_22 : decode cJ6_bitCount_0f7a4 22 = .ok (.iadd, 1) := by decide +kernel
theorem dJ6_bitCount_0f7a4_23 : decode cJ6_bitCount_0f7a4 23 = .ok (.istore_n 0, 1) := by decide +kernel
theorem dJ6_bitCount_0f7a4_24 : decode cJ6_bitCount_0f7a4 24 = .ok (.iload_n 0, 1) := by decide +kernel
theorem dJ6_bitCount_0f7a4_25 : decode cJ6_bitCount_0f7a4 25 = .ok (.iload_n 0, 1) := by decide +kernel
theorem dJ6_bitCount_0f7a4_26 : decode cJ6_bitCount_0f7a4 26 = .ok (.iconst 4, 1) := by decide +kernel
theorem dJ6_bitCount_0f7a4_27 : decode cJ6_bitCount_0f7a4 27 = .ok (.iushr, 1) := by decide +kernel
theorem dJ6_bitCount_0f7a4_28 : decode cJ6_bitCount_0f7a4 28 = .ok (.iadd, 1) := by decide +kernel
theorem dJ6_bitCount_0f7a4_29 : decode cJ6_bitCount_0f7a4 29 = .ok (.ldc_w 267, 3) := by decide +kernel
theorem dJ6_bitCount_0f7a4_32 : decode cJ6_bitCount_0f7a4 32 = .ok (.iand, 1) := by decide +kernel
theorem dJ6_bitCount_0f7a4_33 : decode cJ6_bitCount_0f7a4 33 = .ok (.istore_n 0, 1) := by decide +kernel
theorem dJ6_bitCount_0f7a4_34 : decode cJ6_bitCount_0f7a4 34 = .ok (.iload_n 0, 1) := by decide +kernel
theorem dJ6_bitCount_0f7a4_35 : decode cJ6_bitCount_0f7a4 35 = .ok (.iload_n 0, 1) := by decide +kernel
theorem dJ6_bitCount_0f7a4_36 : decode cJ6_bitCount_0f7a4 36 = .ok (.bipush 8, 2) := by decide +kernel
theorem dJ6_bitCount_0f7a4_38 : decode cJ6_bitCount_0f7a4 38 = .ok (.iushr, 1) := by decide +kernel
theorem dJ6_bitCount_0f7a4_39 : decode cJ6_bitCount_0f7a4 39 = .ok (.iadd, 1) := by decide +kernel
theorem dJ6_bitCount_0f7a4_40 : decode cJ6_bitCount_0f7a4 40 = .ok (.istore_n 0, 1) := by decide +kernel
theorem dJ6_bitCount_0f7a4_41 : decode cJ6_bitCount_0f7a4 41 = .ok (.iload_n 0, 1) := by decide +kernel
theorem dJ6_bitCount_0f7a4_42 : decode cJ6_bitCount_0f7a4 42 = .ok (.iload_n 0, 1) := by decide +kernel
theorem dJ6_bitCount_0f7a4_43 : decode cJ6_bitCount_0f7a4 43 = .ok (.bipush 16, 2) := by decide +kernel
theorem dJ6_bitCount_0f7a4_45 : decode cJ6_bitCount_0f7a4 45 = .ok (.iushr, 1) := by decide +kernel
theorem dJ6_bitCount_0f7a4_46 : decode cJ6_bitCount_0f7a4 46 = .ok (.iadd, 1) := by decide +kernel
theorem dJ6_bitCount_0f7a4_47 : decode cJ6_bitCount_0f7a4 47 = .ok (.istore_n 0, 1) := by decide +kernel
theorem dJ6_bitCount_0f7a4_48 : decode cJ6_bitCount_0f7a4 48 = .ok (.iload_n 0, 1) := by decide +kernel
theorem dJ6_bitCount_0f7a4_49 : decode cJ6_bitCount_0f7a4 49 = .ok (.bipush 63, 2) := by decide +kernel
theorem dJ6_bitCount_0f7a4_51 : decode cJ6_bitCount_0f7a4 51 = .ok (.iand, 1) := by decide +kernel
theorem dJ6_bitCount_0f7a4_52 : decode cJ6_bitCount_0f7a4 52 = .ok (.ireturn, 1) := by decide +kernel
def wtJ6_bitCount_0f7a4 : List Cond := .code yJ6_bitCount_0f7a4 cJ6_bitCount_0f7a4 1 (some .int) :: (([.constant RJ6 265 (1431655765), .constant RJ6 266 (858993459), .constant RJ6 267 (252645135)]) ++ [])
theorem imJ6_bitCount_0f7a4_own : ∀ w ∈ ([.constant RJ6 265 (1431655765), .constant RJ6 266 (858993459), .constant RJ6 267 (252645135)] : List Cond), w ∈ wtJ6_bitCount_0f7a4 := fun w h => List.mem_cons_of_mem _ (inl h)
theorem gdJ6_bitCount_0f7a4 : ∀ w ∈ wtJ6_bitCount_0f7a4, Gd w := gdc rfl (gda (gdl (by decide +kernel)) gdn)
def fJ6_bitCount_0f7a4 (x0 : Int32) : Option (Int32) :=
  bnd ((x0 - ((jushr x0 (1 : Int32)) &&& (1431655765 : Int32))) &&& (858993459 : Int32)) (fun t1 =>
    bnd (jushr (x0 - ((jushr x0 (1 : Int32)) &&& (1431655765 : Int32))) (2 : Int32)) (fun t2 =>
      bnd ((t1 + (t2 &&& (858993459 : Int32))) + (jushr (t1 + (t2 &&& (858993459 : Int32))) (4 : Int32))) (fun t3 =>
        bnd ((t3 &&& (252645135 : Int32)) + (jushr (t3 &&& (252645135 : Int32)) (8 : Int32))) (fun t4 =>
          some ((t4 + (jushr t4 (16 : Int32))) &&& (63 : Int32))))))
def wdJ6_bitCount_0f7a4 (cI cZ : ClassId)    : va_W := []
abbrev rmJ6_bitCount_0f7a4 : Jvm.Room := { frames := 0, cells := 0, slots := 0, locals := 0 }
theorem hyJ6_bitCount_0f7a4 : yJ6_bitCount_0f7a4.cls ≠ "java/lang/invoke/MethodHandle" ∧ yJ6_bitCount_0f7a4.cls ≠ "java/lang/invoke/VarHandle" ∧ (parseMethodDescriptor yJ6_bitCount_0f7a4.desc).map (fun d => d.parameters.length) = some 1 := by decide +kernel
set_option maxHeartbeats 4000000 in
set_option maxRecDepth 100000 in
theorem mJ6_bitCount_0f7a4 (l : Launch) (D : va_G) (cI cZ : ClassId) (x0 : Int32) (z : Int32) (hF : fJ6_bitCount_0f7a4 x0 = some z) : mp l yJ6_bitCount_0f7a4 wtJ6_bitCount_0f7a4 rmJ6_bitCount_0f7a4 D cI cZ [.int x0] (wdJ6_bitCount_0f7a4 cI cZ ) (some (.int z)) (wdJ6_bitCount_0f7a4 cI cZ ) := by
  refine mp_i (lv0 := [(0, .int x0)]) cJ6_bitCount_0f7a4 1 z (by decide) rfl (Nat.le_of_ble_eq_true rfl) rfl (fun E h hend0 => ?_)
  have hend : ∀ (z' : Int32), some z' = some z → ∀ (pc : Nat) (lv : List (Nat × Value)), decode cJ6_bitCount_0f7a4 pc = .ok (.ireturn, 1) → G l D E 1 0 0 (wdJ6_bitCount_0f7a4 cI cZ ) pc lv [.int z'] := fun z' e => by cases e; exact hend0
  clear hend0
  unfold fJ6_bitCount_0f7a4 at hF
  refine g_iload_n (np := 1) h 0 rfl rfl dJ6_bitCount_0f7a4_0 rfl ?_
  refine g_iload_n (np := 2) h 0 rfl rfl dJ6_bitCount_0f7a4_1 rfl ?_
  refine g_iconst (np := 3) (v := (1 : Int32)) h (by decide) dJ6_bitCount_0f7a4_2 rfl ?_
  refine g_iushr (np := 4) h dJ6_bitCount_0f7a4_3 rfl ?_
  refine g_ldcw (np := 7) (v := (1431655765 : Int32)) h (imJ6_bitCount_0f7a4_own _ (List.mem_of_getElem? (i := 0) rfl)) dJ6_bitCount_0f7a4_4 rfl ?_
  refine g_iand (np := 8) h dJ6_bitCount_0f7a4_7 rfl ?_
  refine g_isub (np := 9) h dJ6_bitCount_0f7a4_8 rfl ?_
  refine g_istore_n (np := 10) (lv' := [(0, .int (x0 - ((jushr x0 (1 : Int32)) &&& (1431655765 : Int32))))]) h rfl (by decide) rfl dJ6_bitCount_0f7a4_9 rfl ?_
  refine g_iload_n (np := 11) h 0 rfl rfl dJ6_bitCount_0f7a4_10 rfl ?_
  refine g_ldcw (np := 14) (v := (858993459 : Int32)) h (imJ6_bitCount_0f7a4_own _ (List.mem_of_getElem? (i := 1) rfl)) dJ6_bitCount_0f7a4_11 rfl ?_
  refine g_iand (np := 15) h dJ6_bitCount_0f7a4_14 rfl ?_
  refine g_top hF (fun t1 et1 hF => ?_)
  refine g_iload_n (np := 16) h 0 rfl rfl dJ6_bitCount_0f7a4_15 rfl ?_
  refine g_iconst (np := 17) (v := (2 : Int32)) h (by decide) dJ6_bitCount_0f7a4_16 rfl ?_
  refine g_iushr (np := 18) h dJ6_bitCount_0f7a4_17 rfl ?_
  refine g_top hF (fun t2 et2 hF => ?_)
  refine g_ldcw (np := 21) (v := (858993459 : Int32)) h (imJ6_bitCount_0f7a4_own _ (List.mem_of_getElem? (i := 1) rfl)) dJ6_bitCount_0f7a4_18 rfl ?_
  refine g_iand (np := 22) h dJ6_bitCount_0f7a4_21 rfl ?_
  refine g_iadd (np := 23) h dJ6_bitCount_0f7a4_22 rfl ?_
  refine g_istore_n (np := 24) (lv' := [(0, .int (t1 + (t2 &&& (858993459 : Int32))))]) h rfl (by decide) rfl dJ6_bitCount_0f7a4_23 rfl ?_
  refine g_iload_n (np := 25) h 0 rfl rfl dJ6_bitCount_0f7a4_24 rfl ?_
  refine g_iload_n (np := 26) h 0 rfl rfl dJ6_bitCount_0f7a4_25 rfl ?_
  refine g_iconst (np := 27) (v := (4 : Int32)) h (by decide) dJ6_bitCount_0f7a4_26 rfl ?_
  refine g_iushr (np := 28) h dJ6_bitCount_0f7a4_27 rfl ?_
  refine g_iadd (np := 29) h dJ6_bitCount_0f7a4_28 rfl ?_
  refine g_top hF (fun t3 et3 hF => ?_)
  refine g_ldcw (np := 32) (v := (252645135 : Int32)) h (imJ6_bitCount_0f7a4_own _ (List.mem_of_getElem? (i := 2) rfl)) dJ6_bitCount_0f7a4_29 rfl ?_
  refine g_iand (np := 33) h dJ6_bitCount_0f7a4_32 rfl ?_
  refine g_istore_n (np := 34) (lv' := [(0, .int (t3 &&& (252645135 : Int32)))]) h rfl (by decide) rfl dJ6_bitCount_0f7a4_33 rfl ?_
  refine g_iload_n (np := 35) h 0 rfl rfl dJ6_bitCount_0f7a4_34 rfl ?_
  refine g_iload_n (np := 36) h 0 rfl rfl dJ6_bitCount_0f7a4_35 rfl ?_
  refine g_bipush (np := 38) (v := (8 : Int32)) h (by decide) dJ6_bitCount_0f7a4_36 rfl ?_
  refine g_iushr (np := 39) h dJ6_bitCount_0f7a4_38 rfl ?_
  refine g_iadd (np := 40) h dJ6_bitCount_0f7a4_39 rfl ?_
  refine g_top hF (fun t4 et4 hF => ?_)
  refine g_istore_n (np := 41) (lv' := [(0, .int t4)]) h rfl (by decide) rfl dJ6_bitCount_0f7a4_40 rfl ?_
  refine g_iload_n (np := 42) h 0 rfl rfl dJ6_bitCount_0f7a4_41 rfl ?_
  refine g_iload_n (np := 43) h 0 rfl rfl dJ6_bitCount_0f7a4_42 rfl ?_
  refine g_bipush (np := 45) (v := (16 : Int32)) h (by decide) dJ6_bitCount_0f7a4_43 rfl ?_
  refine g_iushr (np := 46) h dJ6_bitCount_0f7a4_45 rfl ?_
  refine g_iadd (np := 47) h dJ6_bitCount_0f7a4_46 rfl ?_
  refine g_istore_n (np := 48) (lv' := [(0, .int (t4 + (jushr t4 (16 : Int32))))]) h rfl (by decide) rfl dJ6_bitCount_0f7a4_47 rfl ?_
  refine g_iload_n (np := 49) h 0 rfl rfl dJ6_bitCount_0f7a4_48 rfl ?_
  refine g_bipush (np := 51) (v := (63 : Int32)) h (by decide) dJ6_bitCount_0f7a4_49 rfl ?_
  refine g_iand (np := 52) h dJ6_bitCount_0f7a4_51 rfl ?_
  exact hend _ hF _ _ dJ6_bitCount_0f7a4_52
