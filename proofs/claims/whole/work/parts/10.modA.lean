theorem dX9_in_0 : decode cX9_in 0 = .ok (.iload_n 0, 1) := by decide +kernel
theorem dX9_in_1 : decode cX9_in 1 = .ok (.iload_n 1, 1) := by decide +kernel
theorem dX9_in_2 : decode cX9_in 2 = .ok (.if_icmp .lt 12, 3) := by decide +kernel
theorem dX9_in_5 : decode cX9_in 5 = .ok (.iload_n 0, 1) := by decide +kernel
theorem dX9_in_6 : decode cX9_in 6 = .ok (.iload_n 2, 1) := by decide +kernel
theorem dX9_in_7 : decode cX9_in 7 = .ok (.if_icmp .gt 7, 3) := by decide +kernel
theorem dX9_in_10 : decode cX9_in 10 = .ok (.iconst 1, 1) := by decide +kernel
theorem dX9_in_11 : decode cX9_in 11 = .ok (.goto 4, 3) := by decide +kernel
theorem dX9_in_14 : decode cX9_in 14 = .ok (.iconst 0, 1) := by decide +kernel
theorem dX9_in_15 : decode cX9_in 15 = .ok (.ireturn, 1) := by decide +kernel
def wtX9_in : List Cond := .code yX9_in cX9_in 3 (some .boolean) :: (([]) ++ [])
theorem imX9_in_own : ∀ w ∈ ([] : List Cond), w ∈ wtX9_in := fun w h => List.mem_cons_of_mem _ (inl h)
theorem gdX9_in : ∀ w ∈ wtX9_in, Gd w := gdc rfl (gda (gdl (by decide +kernel)) gdn)
def fX9_in (x0 : Int32) (x1 : Int32) (x2 : Int32) : Option (Int32) :=
  if x0 < x1 then
    some (0 : Int32)
  else
    if x2 < x0 then
      some (0 : Int32)
    else
      some (1 : Int32)
def wdX9_in (cI cZ : ClassId)    : va_W := []
abbrev rmX9_in : Jvm.Room := { frames := 0, cells := 0, slots := 0, locals := 0 }
theorem hyX9_in : yX9_in.cls ≠ "java/lang/invoke/MethodHandle" ∧ yX9_in.cls ≠ "java/lang/invoke/VarHandle" ∧ (parseMethodDescriptor yX9_in.desc).map (fun d => d.parameters.length) = some 3 := by decide +kernel
set_option maxHeartbeats 4000000 in
set_option maxRecDepth 100000 in
theorem mX9_in (l : Launch) (D : va_G) (cI cZ : ClassId) (x0 : Int32) (x1 : Int32) (x2 : Int32) (z : Int32) (hF : fX9_in x0 x1 x2 = some z) : mp l yX9_in wtX9_in rmX9_in D cI cZ [.int x0, .int x1, .int x2] (wdX9_in cI cZ ) (some (.int z)) (wdX9_in cI cZ ) := by
  refine mp_z (lv0 := [(0, .int x0), (1, .int x1), (2, .int x2)]) cX9_in 3 z (by decide) rfl (Nat.le_of_ble_eq_true rfl) rfl (fun E h hend0 => ?_)
  have hend : ∀ (z' : Int32), some z' = some z → ∀ (pc : Nat) (lv : List (Nat × Value)), z' = z' &&& 1 → decode cX9_in pc = .ok (.ireturn, 1) → G l D E 3 0 0 (wdX9_in cI cZ ) pc lv [.int z'] := fun z' e => by cases e; exact hend0
  clear hend0
  unfold fX9_in at hF
  refine g_iload_n (np := 1) h 0 rfl rfl dX9_in_0 rfl ?_
  refine g_iload_n (np := 2) h 1 rfl rfl dX9_in_1 rfl ?_
  refine g_icmp_lt h hF dX9_in_2 (np := 5) rfl (tg := 14) rfl (fun c1 hF => ?_) (fun c1 hF => ?_)
  · refine g_iconst (np := 15) (v := (0 : Int32)) h (by decide) dX9_in_14 rfl ?_
    exact hend _ hF _ _ zb0 dX9_in_15
  · refine g_iload_n (np := 6) h 0 rfl rfl dX9_in_5 rfl ?_
    refine g_iload_n (np := 7) h 2 rfl rfl dX9_in_6 rfl ?_
    refine g_icmp_gt h hF dX9_in_7 (np := 10) rfl (tg := 14) rfl (fun c2 hF => ?_) (fun c2 hF => ?_)
    · refine g_iconst (np := 15) (v := (0 : Int32)) h (by decide) dX9_in_14 rfl ?_
      exact hend _ hF _ _ zb0 dX9_in_15
    · refine g_iconst (np := 11) (v := (1 : Int32)) h (by decide) dX9_in_10 rfl ?_
      refine g_goto h dX9_in_11 (np := 15) rfl ?_
      exact hend _ hF _ _ zb1 dX9_in_15
theorem dX9_has_0 : decode cX9_has 0 = .ok (.iload_n 0, 1) := by decide +kernel
theorem dX9_has_1 : decode cX9_has 1 = .ok (.iload_n 1, 1) := by decide +kernel
theorem dX9_has_2 : decode cX9_has 2 = .ok (.ishr, 1) := by decide +kernel
theorem dX9_has_3 : decode cX9_has 3 = .ok (.iconst 1, 1) := by decide +kernel
theorem dX9_has_4 : decode cX9_has 4 = .ok (.iand, 1) := by decide +kernel
theorem dX9_has_5 : decode cX9_has 5 = .ok (.iconst 1, 1) := by decide +kernel
theorem dX9_has_6 : decode cX9_has 6 = .ok (.if_icmp .ne 7, 3) := by decide +kernel
theorem dX9_has_9 : decode cX9_has 9 = .ok (.iconst 1, 1) := by decide +kernel
theorem dX9_has_10 : decode cX9_has 10 = .ok (.goto 4, 3) := by decide +kernel
theorem dX9_has_13 : decode cX9_has 13 = .ok (.iconst 0, 1) := by decide +kernel
theorem dX9_has_14 : decode cX9_has 14 = .ok (.ireturn, 1) := by decide +kernel
def wtX9_has : List Cond := .code yX9_has cX9_has 2 (some .boolean) :: (([]) ++ [])
theorem imX9_has_own : ∀ w ∈ ([] : List Cond), w ∈ wtX9_has := fun w h => List.mem_cons_of_mem _ (inl h)
theorem gdX9_has : ∀ w ∈ wtX9_has, Gd w := gdc rfl (gda (gdl (by decide +kernel)) gdn)
def fX9_has (x0 : Int32) (x1 : Int32) : Option (Int32) :=
  if ((jshr x0 x1) &&& (1 : Int32)) = (1 : Int32) then
    some (1 : Int32)
  else
    some (0 : Int32)
def wdX9_has (cI cZ : ClassId)    : va_W := []
abbrev rmX9_has : Jvm.Room := { frames := 0, cells := 0, slots := 0, locals := 0 }
theorem hyX9_has : yX9_has.cls ≠ "java/lang/invoke/MethodHandle" ∧ yX9_has.cls ≠ "java/lang/invoke/VarHandle" ∧ (parseMethodDescriptor yX9_has.desc).map (fun d => d.parameters.length) = some 2 := by decide +kernel
set_option maxHeartbeats 4000000 in
set_option maxRecDepth 100000 in
theorem mX9_has (l : Launch) (D : va_G) (cI cZ : ClassId) (x0 : Int32) (x1 : Int32) (z : Int32) (hF : fX9_has x0 x1 = some z) : mp l yX9_has wtX9_has rmX9_has D cI cZ [.int x0, .int x1] (wdX9_has cI cZ ) (some (.int z)) (wdX9_has cI cZ ) := by
  refine mp_z (lv0 := [(0, .int x0), (1, .int x1)]) cX9_has 2 z (by decide) rfl (Nat.le_of_ble_eq_true rfl) rfl (fun E h hend0 => ?_)
  have hend : ∀ (z' : Int32), some z' = some z → ∀ (pc : Nat) (lv : List (Nat × Value)), z' = z' &&& 1 → decode cX9_has pc = .ok (.ireturn, 1) → G l D E 2 0 0 (wdX9_has cI cZ ) pc lv [.int z'] := fun z' e => by cases e; exact hend0
  clear hend0
  unfold fX9_has at hF
  refine g_iload_n (np := 1) h 0 rfl rfl dX9_has_0 rfl ?_
  refine g_iload_n (np := 2) h 1 rfl rfl dX9_has_1 rfl ?_
  refine g_ishr (np := 3) h dX9_has_2 rfl ?_
  refine g_iconst (np := 4) (v := (1 : Int32)) h (by decide) dX9_has_3 rfl ?_
  refine g_iand (np := 5) h dX9_has_4 rfl ?_
  refine g_iconst (np := 6) (v := (1 : Int32)) h (by decide) dX9_has_5 rfl ?_
  refine g_icmp_ne h hF dX9_has_6 (np := 9) rfl (tg := 13) rfl (fun c1 hF => ?_) (fun c1 hF => ?_)
  · refine g_iconst (np := 14) (v := (0 : Int32)) h (by decide) dX9_has_13 rfl ?_
    exact hend _ hF _ _ zb0 dX9_has_14
  · refine g_iconst (np := 10) (v := (1 : Int32)) h (by decide) dX9_has_9 rfl ?_
    refine g_goto h dX9_has_10 (np := 14) rfl ?_
    exact hend _ hF _ _ zb1 dX9_has_14
theorem dX9_bits_0 : decode cX9_bits 0 = .ok (.iconst 0, 1) := by decide +kernel
theorem dX9_bits_1 : decode cX9_bits 1 = .ok (.istore_n 1, 1) := by decide +kernel
theorem dX9_bits_2 : decode cX9_bits 2 = .ok (.iconst 0, 1) := by decide +kernel
theorem dX9_bits_3 : decode cX9_bits 3 = .ok (.istore_n 2, 1) := by decide +kernel
theorem dX9_bits_4 : decode cX9_bits 4 = .ok (.iload_n 2, 1) := by decide +kernel
theorem dX9_bits_5 : decode cX9_bits 5 = .ok (.bipush 10, 2) := by decide +kernel
theorem dX9_bits_7 : decode cX9_bits 7 = .ok (.if_icmp .ge 17, 3) := by decide +kernel
theorem dX9_bits_10 : decode cX9_bits 10 = .ok (.iload_n 1, 1) := by decide +kernel
theorem dX9_bits_11 : decode cX9_bits 11 = .ok (.iload_n 0, 1) := by decide +kernel
theorem dX9_bits_12 : decode cX9_bits 12 = .ok (.iload_n 2, 1) := by decide +kernel
theorem dX9_bits_13 : decode cX9_bits 13 = .ok (.ishr, 1) := by decide +kernel
theorem dX9_bits_14 : decode cX9_bits 14 = .ok (.iconst 1, 1) := by decide +kernel
theorem dX9_bits_15 : decode cX9_bits 15 = .ok (.iand, 1) := by decide +kernel
theorem dX9_bits_16 : decode cX9_bits 16 = .ok (.iadd, 1) := by decide +kernel
theorem dX9_bits_17 : decode cX9_bits 17 = .ok (.istore_n 1, 1) := by decide +kernel
theorem dX9_bits_18 : decode cX9_bits 18 = .ok (.iinc 2 1, 3) := by decide +kernel
theorem dX9_bits_21 : decode cX9_bits 21 = .ok (.goto (-17), 3) := by decide +kernel
theorem dX9_bits_24 : decode cX9_bits 24 = .ok (.iload_n 1, 1) := by decide +kernel
theorem dX9_bits_25 : decode cX9_bits 25 = .ok (.ireturn, 1) := by decide +kernel
def wtX9_bits : List Cond := .code yX9_bits cX9_bits 3 (some .int) :: (([]) ++ [])
theorem imX9_bits_own : ∀ w ∈ ([] : List Cond), w ∈ wtX9_bits := fun w h => List.mem_cons_of_mem _ (inl h)
theorem gdX9_bits : ∀ w ∈ wtX9_bits, Gd w := gdc rfl (gda (gdl (by decide +kernel)) gdn)
def fX9_bits_4 (x0 : Int32) : Nat → Int32 → Int32 → Option (Int32)
  | 0, _, _ => none
  | n + 1, x1, x2 =>
    if (10 : Int32) ≤ x2 then
      some x1
    else
      fX9_bits_4 x0 n (x1 + ((jshr x0 x2) &&& (1 : Int32))) (x2 + (1 : Int32))
def fX9_bits (x0 : Int32) : Option (Int32) :=
  fX9_bits_4 x0 2000 (0 : Int32) (0 : Int32)
def wdX9_bits (cI cZ : ClassId)    : va_W := []
abbrev rmX9_bits : Jvm.Room := { frames := 0, cells := 0, slots := 0, locals := 0 }
theorem hyX9_bits : yX9_bits.cls ≠ "java/lang/invoke/MethodHandle" ∧ yX9_bits.cls ≠ "java/lang/invoke/VarHandle" ∧ (parseMethodDescriptor yX9_bits.desc).map (fun d => d.parameters.length) = some 1 := by decide +kernel
set_option maxHeartbeats 4000000 in
set_option maxRecDepth 100000 in
theorem mX9_bits (l : Launch) (D : va_G) (cI cZ : ClassId) (x0 : Int32) (z : Int32) (hF : fX9_bits x0 = some z) : mp l yX9_bits wtX9_bits rmX9_bits D cI cZ [.int x0] (wdX9_bits cI cZ ) (some (.int z)) (wdX9_bits cI cZ ) := by
  refine mp_i (lv0 := [(0, .int x0)]) cX9_bits 3 z (by decide) rfl (Nat.le_of_ble_eq_true rfl) rfl (fun E h hend0 => ?_)
  have hend : ∀ (z' : Int32), some z' = some z → ∀ (pc : Nat) (lv : List (Nat × Value)), decode cX9_bits pc = .ok (.ireturn, 1) → G l D E 3 0 0 (wdX9_bits cI cZ ) pc lv [.int z'] := fun z' e => by cases e; exact hend0
  clear hend0
  have hL4 : ∀ (n4 : Nat) (x1 : Int32) (x2 : Int32), fX9_bits_4 x0 n4 x1 x2 = some z → G l D E 3 0 0 (wdX9_bits cI cZ ) 4 [(0, .int x0), (1, .int x1), (2, .int x2)] [] := by
    intro n4
    induction n4 with
    | zero =>
      intro x1 x2 hF
      rw [fX9_bits_4] at hF
      cases hF
    | succ n4 ih4 =>
      intro x1 x2 hF
      rw [fX9_bits_4] at hF
      refine g_iload_n (np := 5) h 2 rfl rfl dX9_bits_4 rfl ?_
      refine g_bipush (np := 7) (v := (10 : Int32)) h (by decide) dX9_bits_5 rfl ?_
      refine g_icmp_ge h hF dX9_bits_7 (np := 10) rfl (tg := 24) rfl (fun c1001 hF => ?_) (fun c1001 hF => ?_)
      · refine g_iload_n (np := 25) h 1 rfl rfl dX9_bits_24 rfl ?_
        exact hend _ hF _ _ dX9_bits_25
      · refine g_iload_n (np := 11) h 1 rfl rfl dX9_bits_10 rfl ?_
        refine g_iload_n (np := 12) h 0 rfl rfl dX9_bits_11 rfl ?_
        refine g_iload_n (np := 13) h 2 rfl rfl dX9_bits_12 rfl ?_
        refine g_ishr (np := 14) h dX9_bits_13 rfl ?_
        refine g_iconst (np := 15) (v := (1 : Int32)) h (by decide) dX9_bits_14 rfl ?_
        refine g_iand (np := 16) h dX9_bits_15 rfl ?_
        refine g_iadd (np := 17) h dX9_bits_16 rfl ?_
        refine g_istore_n (np := 18) (lv' := [(1, .int (x1 + ((jshr x0 x2) &&& (1 : Int32)))), (0, .int x0), (2, .int x2)]) h rfl (by decide) rfl dX9_bits_17 rfl ?_
        refine g_iinc (np := 21) (v := (x2 + (1 : Int32))) (lv' := [(2, .int (x2 + (1 : Int32))), (1, .int (x1 + ((jshr x0 x2) &&& (1 : Int32)))), (0, .int x0)]) h 2 rfl rfl (by decide) rfl dX9_bits_18 rfl ?_
        refine g_goto h dX9_bits_21 (np := 4) rfl ?_
        refine g_lv [2, 1, 0] rfl ?_
        exact ih4 (x1 + ((jshr x0 x2) &&& (1 : Int32))) (x2 + (1 : Int32)) hF
  unfold fX9_bits at hF
  refine g_iconst (np := 1) (v := (0 : Int32)) h (by decide) dX9_bits_0 rfl ?_
  refine g_istore_n (np := 2) (lv' := [(1, .int (0 : Int32)), (0, .int x0)]) h rfl (by decide) rfl dX9_bits_1 rfl ?_
  refine g_iconst (np := 3) (v := (0 : Int32)) h (by decide) dX9_bits_2 rfl ?_
  refine g_istore_n (np := 4) (lv' := [(2, .int (0 : Int32)), (1, .int (0 : Int32)), (0, .int x0)]) h rfl (by decide) rfl dX9_bits_3 rfl ?_
  refine g_lv [2, 1, 0] rfl ?_
  exact hL4 _ (0 : Int32) (0 : Int32) hF
theorem dX9_isPiece_0 : decode cX9_isPiece 0 = .ok (.iload_n 0, 1) := by decide +kernel
theorem dX9_isPiece_1 : decode cX9_isPiece 1 = .ok (.iconst 0, 1) := by decide +kernel
theorem dX9_isPiece_2 : decode cX9_isPiece 2 = .ok (.bipush 9, 2) := by decide +kernel
theorem dX9_isPiece_4 : decode cX9_isPiece 4 = .ok (.invokestatic 41, 3) := by decide +kernel
theorem dX9_isPiece_7 : decode cX9_isPiece 7 = .ok (.ireturn, 1) := by decide +kernel
def wtX9_isPiece : List Cond := .code yX9_isPiece cX9_isPiece 1 (some .boolean) :: (([]) ++ ((va_wsS RX9 41 yX9_in wtX9_in) ++ []))
theorem imX9_isPiece_own : ∀ w ∈ ([] : List Cond), w ∈ wtX9_isPiece := fun w h => List.mem_cons_of_mem _ (inl h)
theorem imX9_isPiece_c_X9_in : ∀ w ∈ (va_wsS RX9 41 yX9_in wtX9_in : List Cond), w ∈ wtX9_isPiece := fun w h => List.mem_cons_of_mem _ (inr (inl h))
theorem gdX9_isPiece : ∀ w ∈ wtX9_isPiece, Gd w := gdc rfl (gda (gdl (by decide +kernel)) (gda (gda (gdl (by decide +kernel)) gdX9_in) gdn))
theorem gcX9_isPiece_X9_in : GoodIn wtX9_isPiece (va_wsS RX9 41 yX9_in wtX9_in) := fun w h => ⟨imX9_isPiece_c_X9_in w h, (gda (gdl (by decide +kernel)) gdX9_in) w h⟩
def fX9_isPiece (x0 : Int32) : Option (Int32) :=
  (fX9_in x0 (0 : Int32) (9 : Int32)).bind (fun r1 =>
    (bz r1).bind (fun r2 =>
      some r2))
def wdX9_isPiece (cI cZ : ClassId)    : va_W := []
abbrev rmX9_isPiece : Jvm.Room := { frames := 1, cells := 0, slots := 0, locals := 22 }
theorem hyX9_isPiece : yX9_isPiece.cls ≠ "java/lang/invoke/MethodHandle" ∧ yX9_isPiece.cls ≠ "java/lang/invoke/VarHandle" ∧ (parseMethodDescriptor yX9_isPiece.desc).map (fun d => d.parameters.length) = some 1 := by decide +kernel
set_option maxHeartbeats 4000000 in
set_option maxRecDepth 100000 in
theorem mX9_isPiece (l : Launch) (D : va_G) (cI cZ : ClassId) (x0 : Int32) (z : Int32) (hF : fX9_isPiece x0 = some z) : mp l yX9_isPiece wtX9_isPiece rmX9_isPiece D cI cZ [.int x0] (wdX9_isPiece cI cZ ) (some (.int z)) (wdX9_isPiece cI cZ ) := by
  refine mp_z (lv0 := [(0, .int x0)]) cX9_isPiece 1 z (by decide) rfl (Nat.le_of_ble_eq_true rfl) rfl (fun E h hend0 => ?_)
  have hend : ∀ (z' : Int32), some z' = some z → ∀ (pc : Nat) (lv : List (Nat × Value)), z' = z' &&& 1 → decode cX9_isPiece pc = .ok (.ireturn, 1) → G l D E 1 0 0 (wdX9_isPiece cI cZ ) pc lv [.int z'] := fun z' e => by cases e; exact hend0
  clear hend0
  unfold fX9_isPiece at hF
  refine g_iload_n (np := 1) h 0 rfl rfl dX9_isPiece_0 rfl ?_
  refine g_iconst (np := 2) (v := (0 : Int32)) h (by decide) dX9_isPiece_1 rfl ?_
  refine g_bipush (np := 4) (v := (9 : Int32)) h (by decide) dX9_isPiece_2 rfl ?_
  obtain ⟨r1, hr1, hF⟩ := Option.bind_eq_some_iff.mp hF
  refine g_callS (np := 7) (Wd' := (wdX9_isPiece cI cZ )) (As := [.int x0, .int (0 : Int32), .int (9 : Int32)]) h (mX9_in l D cI cZ x0 (0 : Int32) (9 : Int32) r1 hr1) gcX9_isPiece_X9_in rfl ⟨rfl, rfl⟩ hyX9_in rfl rfl rfl rfl ⟨Nat.zero_le _, Nat.zero_le _⟩ [] [] (N := 0) (by decide +kernel) rfl rfl rfl rfl rfl dX9_isPiece_4 rfl ?_
  obtain ⟨r2, hr2, hF⟩ := Option.bind_eq_some_iff.mp hF
  obtain ⟨hbr2, her2⟩ := bz_e hr2
  subst her2
  exact hend _ hF _ _ hbr2 dX9_isPiece_7
theorem dX9_isHouse_0 : decode cX9_isHouse 0 = .ok (.iload_n 0, 1) := by decide +kernel
theorem dX9_isHouse_1 : decode cX9_isHouse 1 = .ok (.iconst 0, 1) := by decide +kernel
theorem dX9_isHouse_2 : decode cX9_isHouse 2 = .ok (.bipush 7, 2) := by decide +kernel
theorem dX9_isHouse_4 : decode cX9_isHouse 4 = .ok (.invokestatic 41, 3) := by decide +kernel
theorem dX9_isHouse_7 : decode cX9_isHouse 7 = .ok (.ireturn, 1) := by decide +kernel
def wtX9_isHouse : List Cond := .code yX9_isHouse cX9_isHouse 1 (some .boolean) :: (([]) ++ ((va_wsS RX9 41 yX9_in wtX9_in) ++ []))
theorem imX9_isHouse_own : ∀ w ∈ ([] : List Cond), w ∈ wtX9_isHouse := fun w h => List.mem_cons_of_mem _ (inl h)
theorem imX9_isHouse_c_X9_in : ∀ w ∈ (va_wsS RX9 41 yX9_in wtX9_in : List Cond), w ∈ wtX9_isHouse := fun w h => List.mem_cons_of_mem _ (inr (inl h))
theorem gdX9_isHouse : ∀ w ∈ wtX9_isHouse, Gd w := gdc rfl (gda (gdl (by decide +kernel)) (gda (gda (gdl (by decide +kernel)) gdX9_in) gdn))
theorem gcX9_isHouse_X9_in : GoodIn wtX9_isHouse (va_wsS RX9 41 yX9_in wtX9_in) := fun w h => ⟨imX9_isHouse_c_X9_in w h, (gda (gdl (by decide +kernel)) gdX9_in) w h⟩
def fX9_isHouse (x0 : Int32) : Option (Int32) :=
  (fX9_in x0 (0 : Int32) (7 : Int32)).bind (fun r1 =>
    (bz r1).bind (fun r2 =>
      some r2))
def wdX9_isHouse (cI cZ : ClassId)    : va_W := []
abbrev rmX9_isHouse : Jvm.Room := { frames := 1, cells := 0, slots := 0, locals := 22 }
theorem hyX9_isHouse : yX9_isHouse.cls ≠ "java/lang/invoke/MethodHandle" ∧ yX9_isHouse.cls ≠ "java/lang/invoke/VarHandle" ∧ (parseMethodDescriptor yX9_isHouse.desc).map (fun d => d.parameters.length) = some 1 := by decide +kernel
set_option maxHeartbeats 4000000 in
set_option maxRecDepth 100000 in
theorem mX9_isHouse (l : Launch) (D : va_G) (cI cZ : ClassId) (x0 : Int32) (z : Int32) (hF : fX9_isHouse x0 = some z) : mp l yX9_isHouse wtX9_isHouse rmX9_isHouse D cI cZ [.int x0] (wdX9_isHouse cI cZ ) (some (.int z)) (wdX9_isHouse cI cZ ) := by
  refine mp_z (lv0 := [(0, .int x0)]) cX9_isHouse 1 z (by decide) rfl (Nat.le_of_ble_eq_true rfl) rfl (fun E h hend0 => ?_)
  have hend : ∀ (z' : Int32), some z' = some z → ∀ (pc : Nat) (lv : List (Nat × Value)), z' = z' &&& 1 → decode cX9_isHouse pc = .ok (.ireturn, 1) → G l D E 1 0 0 (wdX9_isHouse cI cZ ) pc lv [.int z'] := fun z' e => by cases e; exact hend0
  clear hend0
  unfold fX9_isHouse at hF
  refine g_iload_n (np := 1) h 0 rfl rfl dX9_isHouse_0 rfl ?_
  refine g_iconst (np := 2) (v := (0 : Int32)) h (by decide) dX9_isHouse_1 rfl ?_
  refine g_bipush (np := 4) (v := (7 : Int32)) h (by decide) dX9_isHouse_2 rfl ?_
  obtain ⟨r1, hr1, hF⟩ := Option.bind_eq_some_iff.mp hF
  refine g_callS (np := 7) (Wd' := (wdX9_isHouse cI cZ )) (As := [.int x0, .int (0 : Int32), .int (7 : Int32)]) h (mX9_in l D cI cZ x0 (0 : Int32) (7 : Int32) r1 hr1) gcX9_isHouse_X9_in rfl ⟨rfl, rfl⟩ hyX9_in rfl rfl rfl rfl ⟨Nat.zero_le _, Nat.zero_le _⟩ [] [] (N := 0) (by decide +kernel) rfl rfl rfl rfl rfl dX9_isHouse_4 rfl ?_
  obtain ⟨r2, hr2, hF⟩ := Option.bind_eq_some_iff.mp hF
  obtain ⟨hbr2, her2⟩ := bz_e hr2
  subst her2
  exact hend _ hF _ _ hbr2 dX9_isHouse_7
theorem dX9_piece_0 : decode cX9_piece 0 = .ok (.iload_n 1, 1) := by decide +kernel
theorem dX9_piece_1 : decode cX9_piece 1 = .ok (.invokestatic 45, 3) := by decide +kernel
theorem dX9_piece_4 : decode cX9_piece 4 = .ok (.ifCond .ne 5, 3) := by decide +kernel
theorem dX9_piece_7 : decode cX9_piece 7 = .ok (.iconst (-1), 1) := by decide +kernel
theorem dX9_piece_8 : decode cX9_piece 8 = .ok (.ireturn, 1) := by decide +kernel
theorem dX9_piece_9 : decode cX9_piece 9 = .ok (.iload_n 2, 1) := by decide +kernel
theorem dX9_piece_10 : decode cX9_piece 10 = .ok (.iconst 0, 1) := by decide +kernel
theorem dX9_piece_11 : decode cX9_piece 11 = .ok (.bipush 9, 2) := by decide +kernel
theorem dX9_piece_13 : decode cX9_piece 13 = .ok (.invokestatic 41, 3) := by decide +kernel
theorem dX9_piece_16 : decode cX9_piece 16 = .ok (.ifCond .eq 23, 3) := by decide +kernel
theorem dX9_piece_19 : decode cX9_piece 19 = .ok (.iload_n 3, 1) := by decide +kernel
theorem dX9_piece_20 : decode cX9_piece 20 = .ok (.iconst 0, 1) := by decide +kernel
theorem dX9_piece_21 : decode cX9_piece 21 = .ok (.iconst 3, 1) := by decide +kernel
theorem dX9_piece_22 : decode cX9_piece 22 = .ok (.invokestatic 41, 3) := by decide +kernel
theorem dX9_piece_25 : decode cX9_piece 25 = .ok (.ifCond .eq 14, 3) := by decide +kernel
theorem dX9_piece_28 : decode cX9_piece 28 = .ok (.iload 4, 2) := by decide +kernel
theorem dX9_piece_30 : decode cX9_piece 30 = .ok (.iconst 1, 1) := by decide +kernel
theorem dX9_piece_31 : decode cX9_piece 31 = .ok (.bipush 20, 2) := by decide +kernel
theorem dX9_piece_33 : decode cX9_piece 33 = .ok (.invokestatic 41, 3) := by decide +kernel
theorem dX9_piece_36 : decode cX9_piece 36 = .ok (.ifCond .ne 6, 3) := by decide +kernel
theorem dX9_piece_39 : decode cX9_piece 39 = .ok (.bipush (-2), 2) := by decide +kernel
theorem dX9_piece_41 : decode cX9_piece 41 = .ok (.ireturn, 1) := by decide +kernel
theorem dX9_piece_42 : decode cX9_piece 42 = .ok (.aload_n 0, 1) := by decide +kernel
theorem dX9_piece_43 : decode cX9_piece 43 = .ok (.getfield 16, 3) := by decide +kernel
theorem dX9_piece_46 : decode cX9_piece 46 = .ok (.bipush 20, 2) := by decide +kernel
theorem dX9_piece_48 : decode cX9_piece 48 = .ok (.iload_n 1, 1) := by decide +kernel
theorem dX9_piece_49 : decode cX9_piece 49 = .ok (.iadd, 1) := by decide +kernel
theorem dX9_piece_50 : decode cX9_piece 50 = .ok (.iaload, 1) := by decide +kernel
theorem dX9_piece_51 : decode cX9_piece 51 = .ok (.istore 5, 2) := by decide +kernel
theorem dX9_piece_53 : decode cX9_piece 53 = .ok (.aload_n 0, 1) := by decide +kernel
theorem dX9_piece_54 : decode cX9_piece 54 = .ok (.getfield 16, 3) := by decide +kernel
theorem dX9_piece_57 : decode cX9_piece 57 = .ok (.iload_n 1, 1) := by decide +kernel
theorem dX9_piece_58 : decode cX9_piece 58 = .ok (.iload_n 2, 1) := by decide +kernel
theorem dX9_piece_59 : decode cX9_piece 59 = .ok (.iastore, 1) := by decide +kernel
theorem dX9_piece_60 : decode cX9_piece 60 = .ok (.aload_n 0, 1) := by decide +kernel
theorem dX9_piece_61 : decode cX9_piece 61 = .ok (.getfield 16, 3) := by decide +kernel
theorem dX9_piece_64 : decode cX9_piece 64 = .ok (.bipush 10, 2) := by decide +kernel
theorem dX9_piece_66 : decode cX9_piece 66 = .ok (.iload_n 1, 1) := by decide +kernel
theorem dX9_piece_67 : decode cX9_piece 67 = .ok (.iadd, 1) := by decide +kernel
theorem dX9_piece_68 : decode cX9_piece 68 = .ok (.iload_n 3, 1) := by decide +kernel
theorem dX9_piece_69 : decode cX9_piece 69 = .ok (.iastore, 1) := by decide +kernel
theorem dX9_piece_70 : decode cX9_piece 70 = .ok (.aload_n 0, 1) := by decide +kernel
theorem dX9_piece_71 : decode cX9_piece 71 = .ok (.getfield 16, 3) := by decide +kernel
theorem dX9_piece_74 : decode cX9_piece 74 = .ok (.bipush 20, 2) := by decide +kernel
theorem dX9_piece_76 : decode cX9_piece 76 = .ok (.iload_n 1, 1) := by decide +kernel
theorem dX9_piece_77 : decode cX9_piece 77 = .ok (.iadd, 1) := by decide +kernel
theorem dX9_piece_78 : decode cX9_piece 78 = .ok (.iload 4, 2) := by decide +kernel
theorem dX9_piece_80 : decode cX9_piece 80 = .ok (.iastore, 1) := by decide +kernel
theorem dX9_piece_81 : decode cX9_piece 81 = .ok (.iload 5, 2) := by decide +kernel
theorem dX9_piece_83 : decode cX9_piece 83 = .ok (.ireturn, 1) := by decide +kernel
def wtX9_piece : List Cond := .code yX9_piece cX9_piece 6 (some .int) :: (([.fieldLink RX9 16 "DriftKinModel" "of" "[I"]) ++ ((u_ws RX9 TX9 15) ++ ((va_wsS RX9 45 yX9_isPiece wtX9_isPiece) ++ ((va_wsS RX9 41 yX9_in wtX9_in) ++ []))))
theorem imX9_piece_own : ∀ w ∈ ([.fieldLink RX9 16 "DriftKinModel" "of" "[I"] : List Cond), w ∈ wtX9_piece := fun w h => List.mem_cons_of_mem _ (inl h)
theorem imX9_piece_u_X9 : ∀ w ∈ (u_ws RX9 TX9 15 : List Cond), w ∈ wtX9_piece := fun w h => List.mem_cons_of_mem _ (inr (inl h))
theorem imX9_piece_c_X9_isPiece : ∀ w ∈ (va_wsS RX9 45 yX9_isPiece wtX9_isPiece : List Cond), w ∈ wtX9_piece := fun w h => List.mem_cons_of_mem _ (inr (inr (inl h)))
theorem imX9_piece_c_X9_in : ∀ w ∈ (va_wsS RX9 41 yX9_in wtX9_in : List Cond), w ∈ wtX9_piece := fun w h => List.mem_cons_of_mem _ (inr (inr (inr (inl h))))
theorem gdX9_piece : ∀ w ∈ wtX9_piece, Gd w := gdc rfl (gda (gdl (by decide +kernel)) (gda (gdu _ _ _) (gda (gda (gdl (by decide +kernel)) gdX9_isPiece) (gda (gda (gdl (by decide +kernel)) gdX9_in) gdn))))
theorem gcX9_piece_X9_isPiece : GoodIn wtX9_piece (va_wsS RX9 45 yX9_isPiece wtX9_isPiece) := fun w h => ⟨imX9_piece_c_X9_isPiece w h, (gda (gdl (by decide +kernel)) gdX9_isPiece) w h⟩
theorem gcX9_piece_X9_in : GoodIn wtX9_piece (va_wsS RX9 41 yX9_in wtX9_in) := fun w h => ⟨imX9_piece_c_X9_in w h, (gda (gdl (by decide +kernel)) gdX9_in) w h⟩
def fX9_piece (v_of : Nat → Int32) (x1 : Int32) (x2 : Int32) (x3 : Int32) (x4 : Int32) : Option (Int32 × (Nat → Int32)) :=
  (fX9_isPiece x1).bind (fun r1 =>
    if r1 = (0 : Int32) then
      some ((-1 : Int32), v_of)
    else
      (fX9_in x2 (0 : Int32) (9 : Int32)).bind (fun r3 =>
        if r3 = (0 : Int32) then
          some ((-2 : Int32), v_of)
        else
          (fX9_in x3 (0 : Int32) (3 : Int32)).bind (fun r5 =>
            if r5 = (0 : Int32) then
              some ((-2 : Int32), v_of)
            else
              (fX9_in x4 (1 : Int32) (20 : Int32)).bind (fun r7 =>
                if r7 = (0 : Int32) then
                  some ((-2 : Int32), v_of)
                else
                  chk ((20 : Int32) + x1) 60 (
                    chk x1 60 (
                      chk ((10 : Int32) + x1) 60 (
                        chk ((20 : Int32) + x1) 60 (
                          some ((rd v_of ((20 : Int32) + x1)), (wr (wr (wr v_of x1 x2) ((10 : Int32) + x1) x3) ((20 : Int32) + x1) x4))))))))))
def wdX9_piece (cI cZ : ClassId) (q0 : Nat) (q1 : Nat) (d2 : Nat) (d3 : Nat) (d4 : Nat) (d5 : Nat) (d6 : Nat) (d7 : Nat) (d8 : Nat) (d9 : Nat) (d10 : Nat)  (v_of : Nat → Int32) (v_sights : Int32) (v_signs : Int32) (v_weddings : Int32) (v_reason : Int32) (v_acts : Int32) : va_W := [(q0, .inr (9, [.ref d2, .ref d3, .ref q1, .int v_sights, .ref d4, .int v_signs, .ref d5, .int v_weddings, .int v_reason, .int v_acts, .ref d6, .ref d7, .ref d8, .ref d9, .ref d10])), (q1, .inl (cI, 60, .inl v_of))]
abbrev rmX9_piece : Jvm.Room := { frames := 2, cells := 0, slots := 0, locals := 42 }
theorem hyX9_piece : yX9_piece.cls ≠ "java/lang/invoke/MethodHandle" ∧ yX9_piece.cls ≠ "java/lang/invoke/VarHandle" ∧ (parseMethodDescriptor yX9_piece.desc).map (fun d => d.parameters.length) = some 4 := by decide +kernel
set_option maxHeartbeats 4000000 in
set_option maxRecDepth 100000 in
theorem mX9_piece (l : Launch) (D : va_G) (cI cZ : ClassId) (q0 : Nat) (q1 : Nat) (d2 : Nat) (d3 : Nat) (d4 : Nat) (d5 : Nat) (d6 : Nat) (d7 : Nat) (d8 : Nat) (d9 : Nat) (d10 : Nat) (v_of : Nat → Int32) (v_sights : Int32) (v_signs : Int32) (v_weddings : Int32) (v_reason : Int32) (v_acts : Int32) (x1 : Int32) (x2 : Int32) (x3 : Int32) (x4 : Int32) (z : Int32 × (Nat → Int32)) (hF : fX9_piece v_of x1 x2 x3 x4 = some z) : mp l yX9_piece wtX9_piece rmX9_piece D cI cZ [.ref q0, .int x1, .int x2, .int x3, .int x4] (wdX9_piece cI cZ q0 q1 d2 d3 d4 d5 d6 d7 d8 d9 d10 v_of v_sights v_signs v_weddings v_reason v_acts) (some (.int z.1)) (wdX9_piece cI cZ q0 q1 d2 d3 d4 d5 d6 d7 d8 d9 d10 z.2 v_sights v_signs v_weddings v_reason v_acts) := by
  refine mp_i (lv0 := [(0, .ref q0), (1, .int x1), (2, .int x2), (3, .int x3), (4, .int x4)]) cX9_piece 6 z.1 (by decide) rfl (Nat.le_of_ble_eq_true rfl) rfl (fun E h hend0 => ?_)
  have hend : ∀ (z' : Int32 × (Nat → Int32)), some z' = some z → ∀ (pc : Nat) (lv : List (Nat × Value)), decode cX9_piece pc = .ok (.ireturn, 1) → G l D E 6 0 0 (wdX9_piece cI cZ q0 q1 d2 d3 d4 d5 d6 d7 d8 d9 d10 (z'.2) v_sights v_signs v_weddings v_reason v_acts) pc lv [.int z'.1] := fun z' e => by cases e; exact hend0
  clear hend0
  unfold fX9_piece at hF
  refine g_iload_n (np := 1) h 1 rfl rfl dX9_piece_0 rfl ?_
  obtain ⟨r1, hr1, hF⟩ := Option.bind_eq_some_iff.mp hF
  refine g_callS (np := 4) (Wd' := (wdX9_piece cI cZ q0 q1 d2 d3 d4 d5 d6 d7 d8 d9 d10 v_of v_sights v_signs v_weddings v_reason v_acts)) (As := [.int x1]) h (mX9_isPiece l D cI cZ x1 r1 hr1) gcX9_piece_X9_isPiece rfl ⟨rfl, rfl⟩ hyX9_isPiece rfl rfl rfl rfl ⟨Nat.zero_le _, Nat.zero_le _⟩ [] [0, 1] (N := 2) (by decide +kernel) rfl rfl rfl rfl rfl dX9_piece_1 rfl ?_
  refine g_if_ne h hF dX9_piece_4 (np := 7) rfl (tg := 9) rfl (fun c2 hF => ?_) (fun c2 hF => ?_)
  · refine g_iload_n (np := 10) h 2 rfl rfl dX9_piece_9 rfl ?_
    refine g_iconst (np := 11) (v := (0 : Int32)) h (by decide) dX9_piece_10 rfl ?_
    refine g_bipush (np := 13) (v := (9 : Int32)) h (by decide) dX9_piece_11 rfl ?_
    obtain ⟨r3, hr3, hF⟩ := Option.bind_eq_some_iff.mp hF
    refine g_callS (np := 16) (Wd' := (wdX9_piece cI cZ q0 q1 d2 d3 d4 d5 d6 d7 d8 d9 d10 v_of v_sights v_signs v_weddings v_reason v_acts)) (As := [.int x2, .int (0 : Int32), .int (9 : Int32)]) h (mX9_in l D cI cZ x2 (0 : Int32) (9 : Int32) r3 hr3) gcX9_piece_X9_in rfl ⟨rfl, rfl⟩ hyX9_in rfl rfl rfl rfl ⟨Nat.zero_le _, Nat.zero_le _⟩ [] [0, 1] (N := 2) (by decide +kernel) rfl rfl rfl rfl rfl dX9_piece_13 rfl ?_
    refine g_if_eq h hF dX9_piece_16 (np := 19) rfl (tg := 39) rfl (fun c4 hF => ?_) (fun c4 hF => ?_)
    · refine g_bipush (np := 41) (v := (-2 : Int32)) h (by decide) dX9_piece_39 rfl ?_
      exact hend _ hF _ _ dX9_piece_41
    · refine g_iload_n (np := 20) h 3 rfl rfl dX9_piece_19 rfl ?_
      refine g_iconst (np := 21) (v := (0 : Int32)) h (by decide) dX9_piece_20 rfl ?_
      refine g_iconst (np := 22) (v := (3 : Int32)) h (by decide) dX9_piece_21 rfl ?_
      obtain ⟨r5, hr5, hF⟩ := Option.bind_eq_some_iff.mp hF
      refine g_callS (np := 25) (Wd' := (wdX9_piece cI cZ q0 q1 d2 d3 d4 d5 d6 d7 d8 d9 d10 v_of v_sights v_signs v_weddings v_reason v_acts)) (As := [.int x3, .int (0 : Int32), .int (3 : Int32)]) h (mX9_in l D cI cZ x3 (0 : Int32) (3 : Int32) r5 hr5) gcX9_piece_X9_in rfl ⟨rfl, rfl⟩ hyX9_in rfl rfl rfl rfl ⟨Nat.zero_le _, Nat.zero_le _⟩ [] [0, 1] (N := 2) (by decide +kernel) rfl rfl rfl rfl rfl dX9_piece_22 rfl ?_
      refine g_if_eq h hF dX9_piece_25 (np := 28) rfl (tg := 39) rfl (fun c6 hF => ?_) (fun c6 hF => ?_)
      · refine g_bipush (np := 41) (v := (-2 : Int32)) h (by decide) dX9_piece_39 rfl ?_
        exact hend _ hF _ _ dX9_piece_41
      · refine g_iload (np := 30) h 4 rfl dX9_piece_28 rfl ?_
        refine g_iconst (np := 31) (v := (1 : Int32)) h (by decide) dX9_piece_30 rfl ?_
        refine g_bipush (np := 33) (v := (20 : Int32)) h (by decide) dX9_piece_31 rfl ?_
        obtain ⟨r7, hr7, hF⟩ := Option.bind_eq_some_iff.mp hF
        refine g_callS (np := 36) (Wd' := (wdX9_piece cI cZ q0 q1 d2 d3 d4 d5 d6 d7 d8 d9 d10 v_of v_sights v_signs v_weddings v_reason v_acts)) (As := [.int x4, .int (1 : Int32), .int (20 : Int32)]) h (mX9_in l D cI cZ x4 (1 : Int32) (20 : Int32) r7 hr7) gcX9_piece_X9_in rfl ⟨rfl, rfl⟩ hyX9_in rfl rfl rfl rfl ⟨Nat.zero_le _, Nat.zero_le _⟩ [] [0, 1] (N := 2) (by decide +kernel) rfl rfl rfl rfl rfl dX9_piece_33 rfl ?_
        refine g_if_ne h hF dX9_piece_36 (np := 39) rfl (tg := 42) rfl (fun c8 hF => ?_) (fun c8 hF => ?_)
        · refine g_aload_n (np := 43) h 0 rfl rfl dX9_piece_42 rfl ?_
          refine g_get (np := 46) (T := TX9) h imX9_piece_u_X9 0 9 rfl rfl 2 (by decide) (imX9_piece_own _ (List.mem_of_getElem? (i := 0) rfl)) rfl dX9_piece_43 rfl ?_
          refine g_bipush (np := 48) (v := (20 : Int32)) h (by decide) dX9_piece_46 rfl ?_
          refine g_iload_n (np := 49) h 1 rfl rfl dX9_piece_48 rfl ?_
          refine g_iadd (np := 50) h dX9_piece_49 rfl ?_
          refine g_iald (np := 51) h 1 rfl hF dX9_piece_50 rfl (fun hi9 hF => ?_)
          refine g_istore (np := 53) (lv' := [(5, .int (rd v_of ((20 : Int32) + x1))), (0, .ref q0), (1, .int x1), (2, .int x2), (3, .int x3), (4, .int x4)]) h (by decide) rfl dX9_piece_51 rfl ?_
          refine g_aload_n (np := 54) h 1 rfl rfl dX9_piece_53 rfl ?_
          refine g_get (np := 57) (T := TX9) h imX9_piece_u_X9 0 9 rfl rfl 2 (by decide) (imX9_piece_own _ (List.mem_of_getElem? (i := 0) rfl)) rfl dX9_piece_54 rfl ?_
          refine g_iload_n (np := 58) h 2 rfl rfl dX9_piece_57 rfl ?_
          refine g_iload_n (np := 59) h 3 rfl rfl dX9_piece_58 rfl ?_
          refine g_iast (np := 60) (Wd' := (wdX9_piece cI cZ q0 q1 d2 d3 d4 d5 d6 d7 d8 d9 d10 (wr v_of x1 x2) v_sights v_signs v_weddings v_reason v_acts)) h 1 rfl hF rfl dX9_piece_59 rfl (fun hi10 hF => ?_)
          refine g_aload_n (np := 61) h 1 rfl rfl dX9_piece_60 rfl ?_
          refine g_get (np := 64) (T := TX9) h imX9_piece_u_X9 0 9 rfl rfl 2 (by decide) (imX9_piece_own _ (List.mem_of_getElem? (i := 0) rfl)) rfl dX9_piece_61 rfl ?_
          refine g_bipush (np := 66) (v := (10 : Int32)) h (by decide) dX9_piece_64 rfl ?_
          refine g_iload_n (np := 67) h 2 rfl rfl dX9_piece_66 rfl ?_
          refine g_iadd (np := 68) h dX9_piece_67 rfl ?_
          refine g_iload_n (np := 69) h 4 rfl rfl dX9_piece_68 rfl ?_
          refine g_iast (np := 70) (Wd' := (wdX9_piece cI cZ q0 q1 d2 d3 d4 d5 d6 d7 d8 d9 d10 (wr (wr v_of x1 x2) ((10 : Int32) + x1) x3) v_sights v_signs v_weddings v_reason v_acts)) h 1 rfl hF rfl dX9_piece_69 rfl (fun hi11 hF => ?_)
          refine g_aload_n (np := 71) h 1 rfl rfl dX9_piece_70 rfl ?_
          refine g_get (np := 74) (T := TX9) h imX9_piece_u_X9 0 9 rfl rfl 2 (by decide) (imX9_piece_own _ (List.mem_of_getElem? (i := 0) rfl)) rfl dX9_piece_71 rfl ?_
          refine g_bipush (np := 76) (v := (20 : Int32)) h (by decide) dX9_piece_74 rfl ?_
          refine g_iload_n (np := 77) h 2 rfl rfl dX9_piece_76 rfl ?_
          refine g_iadd (np := 78) h dX9_piece_77 rfl ?_
          refine g_iload (np := 80) h 5 rfl dX9_piece_78 rfl ?_
          refine g_iast (np := 81) (Wd' := (wdX9_piece cI cZ q0 q1 d2 d3 d4 d5 d6 d7 d8 d9 d10 (wr (wr (wr v_of x1 x2) ((10 : Int32) + x1) x3) ((20 : Int32) + x1) x4) v_sights v_signs v_weddings v_reason v_acts)) h 1 rfl hF rfl dX9_piece_80 rfl (fun hi12 hF => ?_)
          refine g_iload (np := 83) h 0 rfl dX9_piece_81 rfl ?_
          exact hend _ hF _ _ dX9_piece_83
        · refine g_bipush (np := 41) (v := (-2 : Int32)) h (by decide) dX9_piece_39 rfl ?_
          exact hend _ hF _ _ dX9_piece_41
  · refine g_iconst (np := 8) (v := (-1 : Int32)) h (by decide) dX9_piece_7 rfl ?_
    exact hend _ hF _ _ dX9_piece_8
theorem dX9_ends_0 : decode cX9_ends 0 = .ok (.iload_n 1, 1) := by decide +kernel
theorem dX9_ends_1 : decode cX9_ends 1 = .ok (.invokestatic 45, 3) := by decide +kernel
theorem dX9_ends_4 : decode cX9_ends 4 = .ok (.ifCond .ne 5, 3) := by decide +kernel
theorem dX9_ends_7 : decode cX9_ends 7 = .ok (.iconst (-1), 1) := by decide +kernel
theorem dX9_ends_8 : decode cX9_ends 8 = .ok (.ireturn, 1) := by decide +kernel
theorem dX9_ends_9 : decode cX9_ends 9 = .ok (.iload_n 2, 1) := by decide +kernel
theorem dX9_ends_10 : decode cX9_ends 10 = .ok (.iconst 0, 1) := by decide +kernel
theorem dX9_ends_11 : decode cX9_ends 11 = .ok (.bipush 9, 2) := by decide +kernel
theorem dX9_ends_13 : decode cX9_ends 13 = .ok (.invokestatic 41, 3) := by decide +kernel
theorem dX9_ends_16 : decode cX9_ends 16 = .ok (.ifCond .eq 13, 3) := by decide +kernel
theorem dX9_ends_19 : decode cX9_ends 19 = .ok (.iload_n 3, 1) := by decide +kernel
theorem dX9_ends_20 : decode cX9_ends 20 = .ok (.iconst 0, 1) := by decide +kernel
theorem dX9_ends_21 : decode cX9_ends 21 = .ok (.bipush 9, 2) := by decide +kernel
theorem dX9_ends_23 : decode cX9_ends 23 = .ok (.invokestatic 41, 3) := by decide +kernel
theorem dX9_ends_26 : decode cX9_ends 26 = .ok (.ifCond .ne 6, 3) := by decide +kernel
theorem dX9_ends_29 : decode cX9_ends 29 = .ok (.bipush (-2), 2) := by decide +kernel
theorem dX9_ends_31 : decode cX9_ends 31 = .ok (.ireturn, 1) := by decide +kernel
theorem dX9_ends_32 : decode cX9_ends 32 = .ok (.bipush 10, 2) := by decide +kernel
theorem dX9_ends_34 : decode cX9_ends 34 = .ok (.aload_n 0, 1) := by decide +kernel
theorem dX9_ends_35 : decode cX9_ends 35 = .ok (.getfield 16, 3) := by decide +kernel
theorem dX9_ends_38 : decode cX9_ends 38 = .ok (.bipush 30, 2) := by decide +kernel
theorem dX9_ends_40 : decode cX9_ends 40 = .ok (.iload_n 1, 1) := by decide +kernel
theorem dX9_ends_41 : decode cX9_ends 41 = .ok (.iadd, 1) := by decide +kernel
theorem dX9_ends_42 : decode cX9_ends 42 = .ok (.iaload, 1) := by decide +kernel
theorem dX9_ends_43 : decode cX9_ends 43 = .ok (.imul, 1) := by decide +kernel
theorem dX9_ends_44 : decode cX9_ends 44 = .ok (.aload_n 0, 1) := by decide +kernel
theorem dX9_ends_45 : decode cX9_ends 45 = .ok (.getfield 16, 3) := by decide +kernel
theorem dX9_ends_48 : decode cX9_ends 48 = .ok (.bipush 40, 2) := by decide +kernel
theorem dX9_ends_50 : decode cX9_ends 50 = .ok (.iload_n 1, 1) := by decide +kernel
theorem dX9_ends_51 : decode cX9_ends 51 = .ok (.iadd, 1) := by decide +kernel
theorem dX9_ends_52 : decode cX9_ends 52 = .ok (.iaload, 1) := by decide +kernel
theorem dX9_ends_53 : decode cX9_ends 53 = .ok (.iadd, 1) := by decide +kernel
theorem dX9_ends_54 : decode cX9_ends 54 = .ok (.istore 4, 2) := by decide +kernel
theorem dX9_ends_56 : decode cX9_ends 56 = .ok (.aload_n 0, 1) := by decide +kernel
theorem dX9_ends_57 : decode cX9_ends 57 = .ok (.getfield 16, 3) := by decide +kernel
theorem dX9_ends_60 : decode cX9_ends 60 = .ok (.bipush 30, 2) := by decide +kernel
theorem dX9_ends_62 : decode cX9_ends 62 = .ok (.iload_n 1, 1) := by decide +kernel
theorem dX9_ends_63 : decode cX9_ends 63 = .ok (.iadd, 1) := by decide +kernel
theorem dX9_ends_64 : decode cX9_ends 64 = .ok (.iload_n 2, 1) := by decide +kernel
theorem dX9_ends_65 : decode cX9_ends 65 = .ok (.iastore, 1) := by decide +kernel
theorem dX9_ends_66 : decode cX9_ends 66 = .ok (.aload_n 0, 1) := by decide +kernel
theorem dX9_ends_67 : decode cX9_ends 67 = .ok (.getfield 16, 3) := by decide +kernel
theorem dX9_ends_70 : decode cX9_ends 70 = .ok (.bipush 40, 2) := by decide +kernel
theorem dX9_ends_72 : decode cX9_ends 72 = .ok (.iload_n 1, 1) := by decide +kernel
theorem dX9_ends_73 : decode cX9_ends 73 = .ok (.iadd, 1) := by decide +kernel
theorem dX9_ends_74 : decode cX9_ends 74 = .ok (.iload_n 3, 1) := by decide +kernel
theorem dX9_ends_75 : decode cX9_ends 75 = .ok (.iastore, 1) := by decide +kernel
theorem dX9_ends_76 : decode cX9_ends 76 = .ok (.iload 4, 2) := by decide +kernel
theorem dX9_ends_78 : decode cX9_ends 78 = .ok (.ireturn, 1) := by decide +kernel
def wtX9_ends : List Cond := .code yX9_ends cX9_ends 5 (some .int) :: (([.fieldLink RX9 16 "DriftKinModel" "of" "[I"]) ++ ((u_ws RX9 TX9 15) ++ ((va_wsS RX9 45 yX9_isPiece wtX9_isPiece) ++ ((va_wsS RX9 41 yX9_in wtX9_in) ++ []))))
theorem imX9_ends_own : ∀ w ∈ ([.fieldLink RX9 16 "DriftKinModel" "of" "[I"] : List Cond), w ∈ wtX9_ends := fun w h => List.mem_cons_of_mem _ (inl h)
theorem imX9_ends_u_X9 : ∀ w ∈ (u_ws RX9 TX9 15 : List Cond), w ∈ wtX9_ends := fun w h => List.mem_cons_of_mem _ (inr (inl h))
theorem imX9_ends_c_X9_isPiece : ∀ w ∈ (va_wsS RX9 45 yX9_isPiece wtX9_isPiece : List Cond), w ∈ wtX9_ends := fun w h => List.mem_cons_of_mem _ (inr (inr (inl h)))
theorem imX9_ends_c_X9_in : ∀ w ∈ (va_wsS RX9 41 yX9_in wtX9_in : List Cond), w ∈ wtX9_ends := fun w h => List.mem_cons_of_mem _ (inr (inr (inr (inl h))))
theorem gdX9_ends : ∀ w ∈ wtX9_ends, Gd w := gdc rfl (gda (gdl (by decide +kernel)) (gda (gdu _ _ _) (gda (gda (gdl (by decide +kernel)) gdX9_isPiece) (gda (gda (gdl (by decide +kernel)) gdX9_in) gdn))))
theorem gcX9_ends_X9_isPiece : GoodIn wtX9_ends (va_wsS RX9 45 yX9_isPiece wtX9_isPiece) := fun w h => ⟨imX9_ends_c_X9_isPiece w h, (gda (gdl (by decide +kernel)) gdX9_isPiece) w h⟩
theorem gcX9_ends_X9_in : GoodIn wtX9_ends (va_wsS RX9 41 yX9_in wtX9_in) := fun w h => ⟨imX9_ends_c_X9_in w h, (gda (gdl (by decide +kernel)) gdX9_in) w h⟩
def fX9_ends (v_of : Nat → Int32) (x1 : Int32) (x2 : Int32) (x3 : Int32) : Option (Int32 × (Nat → Int32)) :=
  (fX9_isPiece x1).bind (fun r1 =>
    if r1 = (0 : Int32) then
      some ((-1 : Int32), v_of)
    else
      (fX9_in x2 (0 : Int32) (9 : Int32)).bind (fun r3 =>
        if r3 = (0 : Int32) then
          some ((-2 : Int32), v_of)
        else
          (fX9_in x3 (0 : Int32) (9 : Int32)).bind (fun r5 =>
            if r5 = (0 : Int32) then
              some ((-2 : Int32), v_of)
            else
              chk ((30 : Int32) + x1) 60 (
                chk ((40 : Int32) + x1) 60 (
                  bnd (((10 : Int32) * (rd v_of ((30 : Int32) + x1))) + (rd v_of ((40 : Int32) + x1))) (fun t9 =>
                    chk ((30 : Int32) + x1) 60 (
                      chk ((40 : Int32) + x1) 60 (
                        some (t9, (wr (wr v_of ((30 : Int32) + x1) x2) ((40 : Int32) + x1) x3))))))))))
def wdX9_ends (cI cZ : ClassId) (q0 : Nat) (q1 : Nat) (d2 : Nat) (d3 : Nat) (d4 : Nat) (d5 : Nat) (d6 : Nat) (d7 : Nat) (d8 : Nat) (d9 : Nat) (d10 : Nat)  (v_of : Nat → Int32) (v_sights : Int32) (v_signs : Int32) (v_weddings : Int32) (v_reason : Int32) (v_acts : Int32) : va_W := [(q0, .inr (9, [.ref d2, .ref d3, .ref q1, .int v_sights, .ref d4, .int v_signs, .ref d5, .int v_weddings, .int v_reason, .int v_acts, .ref d6, .ref d7, .ref d8, .ref d9, .ref d10])), (q1, .inl (cI, 60, .inl v_of))]
abbrev rmX9_ends : Jvm.Room := { frames := 2, cells := 0, slots := 0, locals := 42 }
theorem hyX9_ends : yX9_ends.cls ≠ "java/lang/invoke/MethodHandle" ∧ yX9_ends.cls ≠ "java/lang/invoke/VarHandle" ∧ (parseMethodDescriptor yX9_ends.desc).map (fun d => d.parameters.length) = some 3 := by decide +kernel
set_option maxHeartbeats 4000000 in
set_option maxRecDepth 100000 in
theorem mX9_ends (l : Launch) (D : va_G) (cI cZ : ClassId) (q0 : Nat) (q1 : Nat) (d2 : Nat) (d3 : Nat) (d4 : Nat) (d5 : Nat) (d6 : Nat) (d7 : Nat) (d8 : Nat) (d9 : Nat) (d10 : Nat) (v_of : Nat → Int32) (v_sights : Int32) (v_signs : Int32) (v_weddings : Int32) (v_reason : Int32) (v_acts : Int32) (x1 : Int32) (x2 : Int32) (x3 : Int32) (z : Int32 × (Nat → Int32)) (hF : fX9_ends v_of x1 x2 x3 = some z) : mp l yX9_ends wtX9_ends rmX9_ends D cI cZ [.ref q0, .int x1, .int x2, .int x3] (wdX9_ends cI cZ q0 q1 d2 d3 d4 d5 d6 d7 d8 d9 d10 v_of v_sights v_signs v_weddings v_reason v_acts) (some (.int z.1)) (wdX9_ends cI cZ q0 q1 d2 d3 d4 d5 d6 d7 d8 d9 d10 z.2 v_sights v_signs v_weddings v_reason v_acts) := by
  refine mp_i (lv0 := [(0, .ref q0), (1, .int x1), (2, .int x2), (3, .int x3)]) cX9_ends 5 z.1 (by decide) rfl (Nat.le_of_ble_eq_true rfl) rfl (fun E h hend0 => ?_)
  have hend : ∀ (z' : Int32 × (Nat → Int32)), some z' = some z → ∀ (pc : Nat) (lv : List (Nat × Value)), decode cX9_ends pc = .ok (.ireturn, 1) → G l D E 5 0 0 (wdX9_ends cI cZ q0 q1 d2 d3 d4 d5 d6 d7 d8 d9 d10 (z'.2) v_sights v_signs v_weddings v_reason v_acts) pc lv [.int z'.1] := fun z' e => by cases e; exact hend0
  clear hend0
  unfold fX9_ends at hF
  refine g_iload_n (np := 1) h 1 rfl rfl dX9_ends_0 rfl ?_
  obtain ⟨r1, hr1, hF⟩ := Option.bind_eq_some_iff.mp hF
  refine g_callS (np := 4) (Wd' := (wdX9_ends cI cZ q0 q1 d2 d3 d4 d5 d6 d7 d8 d9 d10 v_of v_sights v_signs v_weddings v_reason v_acts)) (As := [.int x1]) h (mX9_isPiece l D cI cZ x1 r1 hr1) gcX9_ends_X9_isPiece rfl ⟨rfl, rfl⟩ hyX9_isPiece rfl rfl rfl rfl ⟨Nat.zero_le _, Nat.zero_le _⟩ [] [0, 1] (N := 2) (by decide +kernel) rfl rfl rfl rfl rfl dX9_ends_1 rfl ?_
  refine g_if_ne h hF dX9_ends_4 (np := 7) rfl (tg := 9) rfl (fun c2 hF => ?_) (fun c2 hF => ?_)
  · refine g_iload_n (np := 10) h 2 rfl rfl dX9_ends_9 rfl ?_
    refine g_iconst (np := 11) (v := (0 : Int32)) h (by decide) dX9_ends_10 rfl ?_
    refine g_bipush (np := 13) (v := (9 : Int32)) h (by decide) dX9_ends_11 rfl ?_
    obtain ⟨r3, hr3, hF⟩ := Option.bind_eq_some_iff.mp hF
    refine g_callS (np := 16) (Wd' := (wdX9_ends cI cZ q0 q1 d2 d3 d4 d5 d6 d7 d8 d9 d10 v_of v_sights v_signs v_weddings v_reason v_acts)) (As := [.int x2, .int (0 : Int32), .int (9 : Int32)]) h (mX9_in l D cI cZ x2 (0 : Int32) (9 : Int32) r3 hr3) gcX9_ends_X9_in rfl ⟨rfl, rfl⟩ hyX9_in rfl rfl rfl rfl ⟨Nat.zero_le _, Nat.zero_le _⟩ [] [0, 1] (N := 2) (by decide +kernel) rfl rfl rfl rfl rfl dX9_ends_13 rfl ?_
    refine g_if_eq h hF dX9_ends_16 (np := 19) rfl (tg := 29) rfl (fun c4 hF => ?_) (fun c4 hF => ?_)
    · refine g_bipush (np := 31) (v := (-2 : Int32)) h (by decide) dX9_ends_29 rfl ?_
      exact hend _ hF _ _ dX9_ends_31
    · refine g_iload_n (np := 20) h 3 rfl rfl dX9_ends_19 rfl ?_
      refine g_iconst (np := 21) (v := (0 : Int32)) h (by decide) dX9_ends_20 rfl ?_
      refine g_bipush (np := 23) (v := (9 : Int32)) h (by decide) dX9_ends_21 rfl ?_
      obtain ⟨r5, hr5, hF⟩ := Option.bind_eq_some_iff.mp hF
      refine g_callS (np := 26) (Wd' := (wdX9_ends cI cZ q0 q1 d2 d3 d4 d5 d6 d7 d8 d9 d10 v_of v_sights v_signs v_weddings v_reason v_acts)) (As := [.int x3, .int (0 : Int32), .int (9 : Int32)]) h (mX9_in l D cI cZ x3 (0 : Int32) (9 : Int32) r5 hr5) gcX9_ends_X9_in rfl ⟨rfl, rfl⟩ hyX9_in rfl rfl rfl rfl ⟨Nat.zero_le _, Nat.zero_le _⟩ [] [0, 1] (N := 2) (by decide +kernel) rfl rfl rfl rfl rfl dX9_ends_23 rfl ?_
      refine g_if_ne h hF dX9_ends_26 (np := 29) rfl (tg := 32) rfl (fun c6 hF => ?_) (fun c6 hF => ?_)
      · refine g_bipush (np := 34) (v := (10 : Int32)) h (by decide) dX9_ends_32 rfl ?_
        refine g_aload_n (np := 35) h 0 rfl rfl dX9_ends_34 rfl ?_
        refine g_get (np := 38) (T := TX9) h imX9_ends_u_X9 0 9 rfl rfl 2 (by decide) (imX9_ends_own _ (List.mem_of_getElem? (i := 0) rfl)) rfl dX9_ends_35 rfl ?_
        refine g_bipush (np := 40) (v := (30 : Int32)) h (by decide) dX9_ends_38 rfl ?_
        refine g_iload_n (np := 41) h 1 rfl rfl dX9_ends_40 rfl ?_
        refine g_iadd (np := 42) h dX9_ends_41 rfl ?_
        refine g_iald (np := 43) h 1 rfl hF dX9_ends_42 rfl (fun hi7 hF => ?_)
        refine g_imul (np := 44) h dX9_ends_43 rfl ?_
        refine g_aload_n (np := 45) h 0 rfl rfl dX9_ends_44 rfl ?_
        refine g_get (np := 48) (T := TX9) h imX9_ends_u_X9 0 9 rfl rfl 2 (by decide) (imX9_ends_own _ (List.mem_of_getElem? (i := 0) rfl)) rfl dX9_ends_45 rfl ?_
        refine g_bipush (np := 50) (v := (40 : Int32)) h (by decide) dX9_ends_48 rfl ?_
        refine g_iload_n (np := 51) h 1 rfl rfl dX9_ends_50 rfl ?_
        refine g_iadd (np := 52) h dX9_ends_51 rfl ?_
        refine g_iald (np := 53) h 1 rfl hF dX9_ends_52 rfl (fun hi8 hF => ?_)
        refine g_iadd (np := 54) h dX9_ends_53 rfl ?_
        refine g_top hF (fun t9 et9 hF => ?_)
        refine g_istore (np := 56) (lv' := [(4, .int t9), (0, .ref q0), (1, .int x1), (2, .int x2), (3, .int x3)]) h (by decide) rfl dX9_ends_54 rfl ?_
        refine g_aload_n (np := 57) h 1 rfl rfl dX9_ends_56 rfl ?_
        refine g_get (np := 60) (T := TX9) h imX9_ends_u_X9 0 9 rfl rfl 2 (by decide) (imX9_ends_own _ (List.mem_of_getElem? (i := 0) rfl)) rfl dX9_ends_57 rfl ?_
        refine g_bipush (np := 62) (v := (30 : Int32)) h (by decide) dX9_ends_60 rfl ?_
        refine g_iload_n (np := 63) h 2 rfl rfl dX9_ends_62 rfl ?_
        refine g_iadd (np := 64) h dX9_ends_63 rfl ?_
        refine g_iload_n (np := 65) h 3 rfl rfl dX9_ends_64 rfl ?_
        refine g_iast (np := 66) (Wd' := (wdX9_ends cI cZ q0 q1 d2 d3 d4 d5 d6 d7 d8 d9 d10 (wr v_of ((30 : Int32) + x1) x2) v_sights v_signs v_weddings v_reason v_acts)) h 1 rfl hF rfl dX9_ends_65 rfl (fun hi10 hF => ?_)
        refine g_aload_n (np := 67) h 1 rfl rfl dX9_ends_66 rfl ?_
        refine g_get (np := 70) (T := TX9) h imX9_ends_u_X9 0 9 rfl rfl 2 (by decide) (imX9_ends_own _ (List.mem_of_getElem? (i := 0) rfl)) rfl dX9_ends_67 rfl ?_
        refine g_bipush (np := 72) (v := (40 : Int32)) h (by decide) dX9_ends_70 rfl ?_
        refine g_iload_n (np := 73) h 2 rfl rfl dX9_ends_72 rfl ?_
        refine g_iadd (np := 74) h dX9_ends_73 rfl ?_
        refine g_iload_n (np := 75) h 4 rfl rfl dX9_ends_74 rfl ?_
        refine g_iast (np := 76) (Wd' := (wdX9_ends cI cZ q0 q1 d2 d3 d4 d5 d6 d7 d8 d9 d10 (wr (wr v_of ((30 : Int32) + x1) x2) ((40 : Int32) + x1) x3) v_sights v_signs v_weddings v_reason v_acts)) h 1 rfl hF rfl dX9_ends_75 rfl (fun hi11 hF => ?_)
        refine g_iload (np := 78) h 0 rfl dX9_ends_76 rfl ?_
        exact hend _ hF _ _ dX9_ends_78
      · refine g_bipush (np := 31) (v := (-2 : Int32)) h (by decide) dX9_ends_29 rfl ?_
        exact hend _ hF _ _ dX9_ends_31
  · refine g_iconst (np := 8) (v := (-1 : Int32)) h (by decide) dX9_ends_7 rfl ?_
    exact hend _ hF _ _ dX9_ends_8
theorem dX9_rings_0 : decode cX9_rings 0 = .ok (.iload_n 1, 1) := by decide +kernel
theorem dX9_rings_1 : decode cX9_rings 1 = .ok (.invokestatic 45, 3) := by decide +kernel
theorem dX9_rings_4 : decode cX9_rings 4 = .ok (.ifCond .ne 5, 3) := by decide +kernel
theorem dX9_rings_7 : decode cX9_rings 7 = .ok (.iconst (-1), 1) := by decide +kernel
theorem dX9_rings_8 : decode cX9_rings 8 = .ok (.ireturn, 1) := by decide +kernel
theorem dX9_rings_9 : decode cX9_rings 9 = .ok (.iload_n 2, 1) := by decide +kernel
theorem dX9_rings_10 : decode cX9_rings 10 = .ok (.iconst 0, 1) := by decide +kernel
theorem dX9_rings_11 : decode cX9_rings 11 = .ok (.ldc 49, 2) := by decide +kernel
theorem dX9_rings_13 : decode cX9_rings 13 = .ok (.invokestatic 41, 3) := by decide +kernel
theorem dX9_rings_16 : decode cX9_rings 16 = .ok (.ifCond .ne 6, 3) := by decide +kernel
theorem dX9_rings_19 : decode cX9_rings 19 = .ok (.bipush (-2), 2) := by decide +kernel
theorem dX9_rings_21 : decode cX9_rings 21 = .ok (.ireturn, 1) := by decide +kernel
theorem dX9_rings_22 : decode cX9_rings 22 = .ok (.aload_n 0, 1) := by decide +kernel
theorem dX9_rings_23 : decode cX9_rings 23 = .ok (.getfield 16, 3) := by decide +kernel
theorem dX9_rings_26 : decode cX9_rings 26 = .ok (.bipush 50, 2) := by decide +kernel
theorem dX9_rings_28 : decode cX9_rings 28 = .ok (.iload_n 1, 1) := by decide +kernel
theorem dX9_rings_29 : decode cX9_rings 29 = .ok (.iadd, 1) := by decide +kernel
theorem dX9_rings_30 : decode cX9_rings 30 = .ok (.iaload, 1) := by decide +kernel
theorem dX9_rings_31 : decode cX9_rings 31 = .ok (.istore_n 3, 1) := by decide +kernel
theorem dX9_rings_32 : decode cX9_rings 32 = .ok (.aload_n 0, 1) := by decide +kernel
theorem dX9_rings_33 : decode cX9_rings 33 = .ok (.getfield 16, 3) := by decide +kernel
theorem dX9_rings_36 : decode cX9_rings 36 = .ok (.bipush 50, 2) := by decide +kernel
theorem dX9_rings_38 : decode cX9_rings 38 = .ok (.iload_n 1, 1) := by decide +kernel
theorem dX9_rings_39 : decode cX9_rings 39 = .ok (.iadd, 1) := by decide +kernel
theorem dX9_rings_40 : decode cX9_rings 40 = .ok (.iload_n 2, 1) := by decide +kernel
theorem dX9_rings_41 : decode cX9_rings 41 = .ok (.iastore, 1) := by decide +kernel
theorem dX9_rings_42 : decode cX9_rings 42 = .ok (.iload_n 3, 1) := by decide +kernel
theorem dX9_rings_43 : decode cX9_rings 43 = .ok (.ireturn, 1) := by decide +kernel
def wtX9_rings : List Cond := .code yX9_rings cX9_rings 4 (some .int) :: (([.constant RX9 49 (99999999), .fieldLink RX9 16 "DriftKinModel" "of" "[I"]) ++ ((u_ws RX9 TX9 15) ++ ((va_wsS RX9 45 yX9_isPiece wtX9_isPiece) ++ ((va_wsS RX9 41 yX9_in wtX9_in) ++ []))))
theorem imX9_rings_own : ∀ w ∈ ([.constant RX9 49 (99999999), .fieldLink RX9 16 "DriftKinModel" "of" "[I"] : List Cond), w ∈ wtX9_rings := fun w h => List.mem_cons_of_mem _ (inl h)
theorem imX9_rings_u_X9 : ∀ w ∈ (u_ws RX9 TX9 15 : List Cond), w ∈ wtX9_rings := fun w h => List.mem_cons_of_mem _ (inr (inl h))
theorem imX9_rings_c_X9_isPiece : ∀ w ∈ (va_wsS RX9 45 yX9_isPiece wtX9_isPiece : List Cond), w ∈ wtX9_rings := fun w h => List.mem_cons_of_mem _ (inr (inr (inl h)))
theorem imX9_rings_c_X9_in : ∀ w ∈ (va_wsS RX9 41 yX9_in wtX9_in : List Cond), w ∈ wtX9_rings := fun w h => List.mem_cons_of_mem _ (inr (inr (inr (inl h))))
theorem gdX9_rings : ∀ w ∈ wtX9_rings, Gd w := gdc rfl (gda (gdl (by decide +kernel)) (gda (gdu _ _ _) (gda (gda (gdl (by decide +kernel)) gdX9_isPiece) (gda (gda (gdl (by decide +kernel)) gdX9_in) gdn))))
theorem gcX9_rings_X9_isPiece : GoodIn wtX9_rings (va_wsS RX9 45 yX9_isPiece wtX9_isPiece) := fun w h => ⟨imX9_rings_c_X9_isPiece w h, (gda (gdl (by decide +kernel)) gdX9_isPiece) w h⟩
theorem gcX9_rings_X9_in : GoodIn wtX9_rings (va_wsS RX9 41 yX9_in wtX9_in) := fun w h => ⟨imX9_rings_c_X9_in w h, (gda (gdl (by decide +kernel)) gdX9_in) w h⟩
def fX9_rings (v_of : Nat → Int32) (x1 : Int32) (x2 : Int32) : Option (Int32 × (Nat → Int32)) :=
  (fX9_isPiece x1).bind (fun r1 =>
    if r1 = (0 : Int32) then
      some ((-1 : Int32), v_of)
    else
      (fX9_in x2 (0 : Int32) (99999999 : Int32)).bind (fun r3 =>
        if r3 = (0 : Int32) then
          some ((-2 : Int32), v_of)
        else
          chk ((50 : Int32) + x1) 60 (
            chk ((50 : Int32) + x1) 60 (
              some ((rd v_of ((50 : Int32) + x1)), (wr v_of ((50 : Int32) + x1) x2))))))
def wdX9_rings (cI cZ : ClassId) (q0 : Nat) (q1 : Nat) (d2 : Nat) (d3 : Nat) (d4 : Nat) (d5 : Nat) (d6 : Nat) (d7 : Nat) (d8 : Nat) (d9 : Nat) (d10 : Nat)  (v_of : Nat → Int32) (v_sights : Int32) (v_signs : Int32) (v_weddings : Int32) (v_reason : Int32) (v_acts : Int32) : va_W := [(q0, .inr (9, [.ref d2, .ref d3, .ref q1, .int v_sights, .ref d4, .int v_signs, .ref d5, .int v_weddings, .int v_reason, .int v_acts, .ref d6, .ref d7, .ref d8, .ref d9, .ref d10])), (q1, .inl (cI, 60, .inl v_of))]
abbrev rmX9_rings : Jvm.Room := { frames := 2, cells := 0, slots := 0, locals := 42 }
theorem hyX9_rings : yX9_rings.cls ≠ "java/lang/invoke/MethodHandle" ∧ yX9_rings.cls ≠ "java/lang/invoke/VarHandle" ∧ (parseMethodDescriptor yX9_rings.desc).map (fun d => d.parameters.length) = some 2 := by decide +kernel
set_option maxHeartbeats 4000000 in
set_option maxRecDepth 100000 in
theorem mX9_rings (l : Launch) (D : va_G) (cI cZ : ClassId) (q0 : Nat) (q1 : Nat) (d2 : Nat) (d3 : Nat) (d4 : Nat) (d5 : Nat) (d6 : Nat) (d7 : Nat) (d8 : Nat) (d9 : Nat) (d10 : Nat) (v_of : Nat → Int32) (v_sights : Int32) (v_signs : Int32) (v_weddings : Int32) (v_reason : Int32) (v_acts : Int32) (x1 : Int32) (x2 : Int32) (z : Int32 × (Nat → Int32)) (hF : fX9_rings v_of x1 x2 = some z) : mp l yX9_rings wtX9_rings rmX9_rings D cI cZ [.ref q0, .int x1, .int x2] (wdX9_rings cI cZ q0 q1 d2 d3 d4 d5 d6 d7 d8 d9 d10 v_of v_sights v_signs v_weddings v_reason v_acts) (some (.int z.1)) (wdX9_rings cI cZ q0 q1 d2 d3 d4 d5 d6 d7 d8 d9 d10 z.2 v_sights v_signs v_weddings v_reason v_acts) := by
  refine mp_i (lv0 := [(0, .ref q0), (1, .int x1), (2, .int x2)]) cX9_rings 4 z.1 (by decide) rfl (Nat.le_of_ble_eq_true rfl) rfl (fun E h hend0 => ?_)
  have hend : ∀ (z' : Int32 × (Nat → Int32)), some z' = some z → ∀ (pc : Nat) (lv : List (Nat × Value)), decode cX9_rings pc = .ok (.ireturn, 1) → G l D E 4 0 0 (wdX9_rings cI cZ q0 q1 d2 d3 d4 d5 d6 d7 d8 d9 d10 (z'.2) v_sights v_signs v_weddings v_reason v_acts) pc lv [.int z'.1] := fun z' e => by cases e; exact hend0
  clear hend0
  unfold fX9_rings at hF
  refine g_iload_n (np := 1) h 1 rfl rfl dX9_rings_0 rfl ?_
  obtain ⟨r1, hr1, hF⟩ := Option.bind_eq_some_iff.mp hF
  refine g_callS (np := 4) (Wd' := (wdX9_rings cI cZ q0 q1 d2 d3 d4 d5 d6 d7 d8 d9 d10 v_of v_sights v_signs v_weddings v_reason v_acts)) (As := [.int x1]) h (mX9_isPiece l D cI cZ x1 r1 hr1) gcX9_rings_X9_isPiece rfl ⟨rfl, rfl⟩ hyX9_isPiece rfl rfl rfl rfl ⟨Nat.zero_le _, Nat.zero_le _⟩ [] [0, 1] (N := 2) (by decide +kernel) rfl rfl rfl rfl rfl dX9_rings_1 rfl ?_
  refine g_if_ne h hF dX9_rings_4 (np := 7) rfl (tg := 9) rfl (fun c2 hF => ?_) (fun c2 hF => ?_)
  · refine g_iload_n (np := 10) h 2 rfl rfl dX9_rings_9 rfl ?_
    refine g_iconst (np := 11) (v := (0 : Int32)) h (by decide) dX9_rings_10 rfl ?_
    refine g_ldc (np := 13) (v := (99999999 : Int32)) h (imX9_rings_own _ (List.mem_of_getElem? (i := 0) rfl)) dX9_rings_11 rfl ?_
    obtain ⟨r3, hr3, hF⟩ := Option.bind_eq_some_iff.mp hF
    refine g_callS (np := 16) (Wd' := (wdX9_rings cI cZ q0 q1 d2 d3 d4 d5 d6 d7 d8 d9 d10 v_of v_sights v_signs v_weddings v_reason v_acts)) (As := [.int x2, .int (0 : Int32), .int (99999999 : Int32)]) h (mX9_in l D cI cZ x2 (0 : Int32) (99999999 : Int32) r3 hr3) gcX9_rings_X9_in rfl ⟨rfl, rfl⟩ hyX9_in rfl rfl rfl rfl ⟨Nat.zero_le _, Nat.zero_le _⟩ [] [0, 1] (N := 2) (by decide +kernel) rfl rfl rfl rfl rfl dX9_rings_13 rfl ?_
    refine g_if_ne h hF dX9_rings_16 (np := 19) rfl (tg := 22) rfl (fun c4 hF => ?_) (fun c4 hF => ?_)
    · refine g_aload_n (np := 23) h 0 rfl rfl dX9_rings_22 rfl ?_
      refine g_get (np := 26) (T := TX9) h imX9_rings_u_X9 0 9 rfl rfl 2 (by decide) (imX9_rings_own _ (List.mem_of_getElem? (i := 1) rfl)) rfl dX9_rings_23 rfl ?_
      refine g_bipush (np := 28) (v := (50 : Int32)) h (by decide) dX9_rings_26 rfl ?_
      refine g_iload_n (np := 29) h 1 rfl rfl dX9_rings_28 rfl ?_
      refine g_iadd (np := 30) h dX9_rings_29 rfl ?_
      refine g_iald (np := 31) h 1 rfl hF dX9_rings_30 rfl (fun hi5 hF => ?_)
      refine g_istore_n (np := 32) (lv' := [(3, .int (rd v_of ((50 : Int32) + x1))), (0, .ref q0), (1, .int x1), (2, .int x2)]) h rfl (by decide) rfl dX9_rings_31 rfl ?_
      refine g_aload_n (np := 33) h 1 rfl rfl dX9_rings_32 rfl ?_
      refine g_get (np := 36) (T := TX9) h imX9_rings_u_X9 0 9 rfl rfl 2 (by decide) (imX9_rings_own _ (List.mem_of_getElem? (i := 1) rfl)) rfl dX9_rings_33 rfl ?_
      refine g_bipush (np := 38) (v := (50 : Int32)) h (by decide) dX9_rings_36 rfl ?_
      refine g_iload_n (np := 39) h 2 rfl rfl dX9_rings_38 rfl ?_
      refine g_iadd (np := 40) h dX9_rings_39 rfl ?_
      refine g_iload_n (np := 41) h 3 rfl rfl dX9_rings_40 rfl ?_
      refine g_iast (np := 42) (Wd' := (wdX9_rings cI cZ q0 q1 d2 d3 d4 d5 d6 d7 d8 d9 d10 (wr v_of ((50 : Int32) + x1) x2) v_sights v_signs v_weddings v_reason v_acts)) h 1 rfl hF rfl dX9_rings_41 rfl (fun hi6 hF => ?_)
      refine g_iload_n (np := 43) h 0 rfl rfl dX9_rings_42 rfl ?_
      exact hend _ hF _ _ dX9_rings_43
    · refine g_bipush (np := 21) (v := (-2 : Int32)) h (by decide) dX9_rings_19 rfl ?_
      exact hend _ hF _ _ dX9_rings_21
  · refine g_iconst (np := 8) (v := (-1 : Int32)) h (by decide) dX9_rings_7 rfl ?_
    exact hend _ hF _ _ dX9_rings_8
theorem dX9_say_0 : decode cX9_say 0 = .ok (.iload_n 1, 1) := by decide +kernel
theorem dX9_say_1 : decode cX9_say 1 = .ok (.bipush 33, 2) := by decide +kernel
theorem dX9_say_3 : decode cX9_say 3 = .ok (.bipush 126, 2) := by decide +kernel
theorem dX9_say_5 : decode cX9_say 5 = .ok (.invokestatic 41, 3) := by decide +kernel
theorem dX9_say_8 : decode cX9_say 8 = .ok (.ifCond .ne 6, 3) := by decide +kernel
theorem dX9_say_11 : decode cX9_say 11 = .ok (.bipush (-2), 2) := by decide +kernel
theorem dX9_say_13 : decode cX9_say 13 = .ok (.ireturn, 1) := by decide +kernel
theorem dX9_say_14 : decode cX9_say 14 = .ok (.aload_n 0, 1) := by decide +kernel
theorem dX9_say_15 : decode cX9_say 15 = .ok (.getfield 50, 3) := by decide +kernel
theorem dX9_say_18 : decode cX9_say 18 = .ok (.bipush 60, 2) := by decide +kernel
theorem dX9_say_20 : decode cX9_say 20 = .ok (.if_icmp .ne 6, 3) := by decide +kernel
theorem dX9_say_23 : decode cX9_say 23 = .ok (.bipush (-4), 2) := by decide +kernel
theorem dX9_say_25 : decode cX9_say 25 = .ok (.ireturn, 1) := by decide +kernel
theorem dX9_say_26 : decode cX9_say 26 = .ok (.aload_n 0, 1) := by decide +kernel
theorem dX9_say_27 : decode cX9_say 27 = .ok (.getfield 22, 3) := by decide +kernel
theorem dX9_say_30 : decode cX9_say 30 = .ok (.aload_n 0, 1) := by decide +kernel
theorem dX9_say_31 : decode cX9_say 31 = .ok (.getfield 50, 3) := by decide +kernel
theorem dX9_say_34 : decode cX9_say 34 = .ok (.iload_n 1, 1) := by decide +kernel
theorem dX9_say_35 : decode cX9_say 35 = .ok (.iastore, 1) := by decide +kernel
theorem dX9_say_36 : decode cX9_say 36 = .ok (.aload_n 0, 1) := by decide +kernel
theorem dX9_say_37 : decode cX9_say 37 = .ok (.dup, 1) := by decide +kernel
theorem dX9_say_38 : decode cX9_say 38 = .ok (.getfield 50, 3) := by decide +kernel
theorem dX9_say_41 : decode cX9_say 41 = .ok (.iconst 1, 1) := by decide +kernel
theorem dX9_say_42 : decode cX9_say 42 = .ok (.iadd, 1) := by decide +kernel
theorem dX9_say_43 : decode cX9_say 43 = .ok (.putfield 50, 3) := by decide +kernel
theorem dX9_say_46 : decode cX9_say 46 = .ok (.aload_n 0, 1) := by decide +kernel
theorem dX9_say_47 : decode cX9_say 47 = .ok (.getfield 50, 3) := by decide +kernel
theorem dX9_say_50 : decode cX9_say 50 = .ok (.ireturn, 1) := by decide +kernel
def wtX9_say : List Cond := .code yX9_say cX9_say 2 (some .int) :: (([.fieldLink RX9 50 "DriftKinModel" "signs" "I", .fieldLink RX9 22 "DriftKinModel" "pad" "[I"]) ++ ((u_ws RX9 TX9 15) ++ ((va_wsS RX9 41 yX9_in wtX9_in) ++ [])))
theorem imX9_say_own : ∀ w ∈ ([.fieldLink RX9 50 "DriftKinModel" "signs" "I", .fieldLink RX9 22 "DriftKinModel" "pad" "[I"] : List Cond), w ∈ wtX9_say := fun w h => List.mem_cons_of_mem _ (inl h)
theorem imX9_say_u_X9 : ∀ w ∈ (u_ws RX9 TX9 15 : List Cond), w ∈ wtX9_say := fun w h => List.mem_cons_of_mem _ (inr (inl h))
theorem imX9_say_c_X9_in : ∀ w ∈ (va_wsS RX9 41 yX9_in wtX9_in : List Cond), w ∈ wtX9_say := fun w h => List.mem_cons_of_mem _ (inr (inr (inl h)))
theorem gdX9_say : ∀ w ∈ wtX9_say, Gd w := gdc rfl (gda (gdl (by decide +kernel)) (gda (gdu _ _ _) (gda (gda (gdl (by decide +kernel)) gdX9_in) gdn)))
theorem gcX9_say_X9_in : GoodIn wtX9_say (va_wsS RX9 41 yX9_in wtX9_in) := fun w h => ⟨imX9_say_c_X9_in w h, (gda (gdl (by decide +kernel)) gdX9_in) w h⟩
def fX9_say (v_signs : Int32) (v_pad : Nat → Int32) (x1 : Int32) : Option (Int32 × Int32 × (Nat → Int32)) :=
  (fX9_in x1 (33 : Int32) (126 : Int32)).bind (fun r1 =>
    if r1 = (0 : Int32) then
      some ((-2 : Int32), v_signs, v_pad)
    else
      if v_signs = (60 : Int32) then
        some ((-4 : Int32), v_signs, v_pad)
      else
        chk v_signs 60 (
          some ((v_signs + (1 : Int32)), (v_signs + (1 : Int32)), (wr v_pad v_signs x1))))
def wdX9_say (cI cZ : ClassId) (q0 : Nat) (q1 : Nat) (d2 : Nat) (d3 : Nat) (d4 : Nat) (d5 : Nat) (d6 : Nat) (d7 : Nat) (d8 : Nat) (d9 : Nat) (d10 : Nat)  (v_signs : Int32) (v_pad : Nat → Int32) (v_sights : Int32) (v_weddings : Int32) (v_reason : Int32) (v_acts : Int32) : va_W := [(q0, .inr (9, [.ref d2, .ref d3, .ref d4, .int v_sights, .ref d5, .int v_signs, .ref q1, .int v_weddings, .int v_reason, .int v_acts, .ref d6, .ref d7, .ref d8, .ref d9, .ref d10])), (q1, .inl (cI, 60, .inl v_pad))]
abbrev rmX9_say : Jvm.Room := { frames := 1, cells := 0, slots := 0, locals := 22 }
theorem hyX9_say : yX9_say.cls ≠ "java/lang/invoke/MethodHandle" ∧ yX9_say.cls ≠ "java/lang/invoke/VarHandle" ∧ (parseMethodDescriptor yX9_say.desc).map (fun d => d.parameters.length) = some 1 := by decide +kernel
set_option maxHeartbeats 4000000 in
set_option maxRecDepth 100000 in
theorem mX9_say (l : Launch) (D : va_G) (cI cZ : ClassId) (q0 : Nat) (q1 : Nat) (d2 : Nat) (d3 : Nat) (d4 : Nat) (d5 : Nat) (d6 : Nat) (d7 : Nat) (d8 : Nat) (d9 : Nat) (d10 : Nat) (v_signs : Int32) (v_pad : Nat → Int32) (v_sights : Int32) (v_weddings : Int32) (v_reason : Int32) (v_acts : Int32) (x1 : Int32) (z : Int32 × Int32 × (Nat → Int32)) (hF : fX9_say v_signs v_pad x1 = some z) : mp l yX9_say wtX9_say rmX9_say D cI cZ [.ref q0, .int x1] (wdX9_say cI cZ q0 q1 d2 d3 d4 d5 d6 d7 d8 d9 d10 v_signs v_pad v_sights v_weddings v_reason v_acts) (some (.int z.1)) (wdX9_say cI cZ q0 q1 d2 d3 d4 d5 d6 d7 d8 d9 d10 z.2.1 z.2.2 v_sights v_weddings v_reason v_acts) := by
  refine mp_i (lv0 := [(0, .ref q0), (1, .int x1)]) cX9_say 2 z.1 (by decide) rfl (Nat.le_of_ble_eq_true rfl) rfl (fun E h hend0 => ?_)
  have hend : ∀ (z' : Int32 × Int32 × (Nat → Int32)), some z' = some z → ∀ (pc : Nat) (lv : List (Nat × Value)), decode cX9_say pc = .ok (.ireturn, 1) → G l D E 2 0 0 (wdX9_say cI cZ q0 q1 d2 d3 d4 d5 d6 d7 d8 d9 d10 (z'.2.1) (z'.2.2) v_sights v_weddings v_reason v_acts) pc lv [.int z'.1] := fun z' e => by cases e; exact hend0
  clear hend0
  unfold fX9_say at hF
  refine g_iload_n (np := 1) h 1 rfl rfl dX9_say_0 rfl ?_
  refine g_bipush (np := 3) (v := (33 : Int32)) h (by decide) dX9_say_1 rfl ?_
  refine g_bipush (np := 5) (v := (126 : Int32)) h (by decide) dX9_say_3 rfl ?_
  obtain ⟨r1, hr1, hF⟩ := Option.bind_eq_some_iff.mp hF
  refine g_callS (np := 8) (Wd' := (wdX9_say cI cZ q0 q1 d2 d3 d4 d5 d6 d7 d8 d9 d10 v_signs v_pad v_sights v_weddings v_reason v_acts)) (As := [.int x1, .int (33 : Int32), .int (126 : Int32)]) h (mX9_in l D cI cZ x1 (33 : Int32) (126 : Int32) r1 hr1) gcX9_say_X9_in rfl ⟨rfl, rfl⟩ hyX9_in rfl rfl rfl rfl ⟨Nat.zero_le _, Nat.zero_le _⟩ [] [0, 1] (N := 2) (by decide +kernel) rfl rfl rfl rfl rfl dX9_say_5 rfl ?_
  refine g_if_ne h hF dX9_say_8 (np := 11) rfl (tg := 14) rfl (fun c2 hF => ?_) (fun c2 hF => ?_)
  · refine g_aload_n (np := 15) h 0 rfl rfl dX9_say_14 rfl ?_
    refine g_get (np := 18) (T := TX9) h imX9_say_u_X9 0 9 rfl rfl 5 (by decide) (imX9_say_own _ (List.mem_of_getElem? (i := 0) rfl)) rfl dX9_say_15 rfl ?_
    refine g_bipush (np := 20) (v := (60 : Int32)) h (by decide) dX9_say_18 rfl ?_
    refine g_icmp_ne h hF dX9_say_20 (np := 23) rfl (tg := 26) rfl (fun c3 hF => ?_) (fun c3 hF => ?_)
    · refine g_aload_n (np := 27) h 0 rfl rfl dX9_say_26 rfl ?_
      refine g_get (np := 30) (T := TX9) h imX9_say_u_X9 0 9 rfl rfl 6 (by decide) (imX9_say_own _ (List.mem_of_getElem? (i := 1) rfl)) rfl dX9_say_27 rfl ?_
      refine g_aload_n (np := 31) h 0 rfl rfl dX9_say_30 rfl ?_
      refine g_get (np := 34) (T := TX9) h imX9_say_u_X9 0 9 rfl rfl 5 (by decide) (imX9_say_own _ (List.mem_of_getElem? (i := 0) rfl)) rfl dX9_say_31 rfl ?_
      refine g_iload_n (np := 35) h 1 rfl rfl dX9_say_34 rfl ?_
      refine g_iast (np := 36) (Wd' := (wdX9_say cI cZ q0 q1 d2 d3 d4 d5 d6 d7 d8 d9 d10 v_signs (wr v_pad v_signs x1) v_sights v_weddings v_reason v_acts)) h 1 rfl hF rfl dX9_say_35 rfl (fun hi4 hF => ?_)
      refine g_aload_n (np := 37) h 0 rfl rfl dX9_say_36 rfl ?_
      refine g_dup (np := 38) h rfl dX9_say_37 rfl ?_
      refine g_get (np := 41) (T := TX9) h imX9_say_u_X9 0 9 rfl rfl 5 (by decide) (imX9_say_own _ (List.mem_of_getElem? (i := 0) rfl)) rfl dX9_say_38 rfl ?_
      refine g_iconst (np := 42) (v := (1 : Int32)) h (by decide) dX9_say_41 rfl ?_
      refine g_iadd (np := 43) h dX9_say_42 rfl ?_
      refine g_put (np := 46) (T := TX9) (Wd' := (wdX9_say cI cZ q0 q1 d2 d3 d4 d5 d6 d7 d8 d9 d10 (v_signs + (1 : Int32)) (wr v_pad v_signs x1) v_sights v_weddings v_reason v_acts)) h imX9_say_u_X9 tyX9_ok nmX9 0 9 rfl rfl 5 (by decide) (imX9_say_own _ (List.mem_of_getElem? (i := 0) rfl)) rfl rfl rfl (Nat.le_of_ble_eq_true rfl) rfl dX9_say_43 rfl ?_
      refine g_aload_n (np := 47) h 0 rfl rfl dX9_say_46 rfl ?_
      refine g_get (np := 50) (T := TX9) h imX9_say_u_X9 0 9 rfl rfl 5 (by decide) (imX9_say_own _ (List.mem_of_getElem? (i := 0) rfl)) rfl dX9_say_47 rfl ?_
      exact hend _ hF _ _ dX9_say_50
    · refine g_bipush (np := 25) (v := (-4 : Int32)) h (by decide) dX9_say_23 rfl ?_
      exact hend _ hF _ _ dX9_say_25
  · refine g_bipush (np := 13) (v := (-2 : Int32)) h (by decide) dX9_say_11 rfl ?_
    exact hend _ hF _ _ dX9_say_13
theorem dX9_wipe_0 : decode cX9_wipe 0 = .ok (.aload_n 0, 1) := by decide +kernel
theorem dX9_wipe_1 : decode cX9_wipe 1 = .ok (.getfield 50, 3) := by decide +kernel
theorem dX9_wipe_4 : decode cX9_wipe 4 = .ok (.istore_n 1, 1) := by decide +kernel
theorem dX9_wipe_5 : decode cX9_wipe 5 = .ok (.aload_n 0, 1) := by decide +kernel
theorem dX9_wipe_6 : decode cX9_wipe 6 = .ok (.iconst 0, 1) := by decide +kernel
theorem dX9_wipe_7 : decode cX9_wipe 7 = .ok (.putfield 50, 3) := by decide +kernel
theorem dX9_wipe_10 : decode cX9_wipe 10 = .ok (.iload_n 1, 1) := by decide +kernel
theorem dX9_wipe_11 : decode cX9_wipe 11 = .ok (.ireturn, 1) := by decide +kernel
def wtX9_wipe : List Cond := .code yX9_wipe cX9_wipe 2 (some .int) :: (([.fieldLink RX9 50 "DriftKinModel" "signs" "I"]) ++ ((u_ws RX9 TX9 15) ++ []))
theorem imX9_wipe_own : ∀ w ∈ ([.fieldLink RX9 50 "DriftKinModel" "signs" "I"] : List Cond), w ∈ wtX9_wipe := fun w h => List.mem_cons_of_mem _ (inl h)
theorem imX9_wipe_u_X9 : ∀ w ∈ (u_ws RX9 TX9 15 : List Cond), w ∈ wtX9_wipe := fun w h => List.mem_cons_of_mem _ (inr (inl h))
theorem gdX9_wipe : ∀ w ∈ wtX9_wipe, Gd w := gdc rfl (gda (gdl (by decide +kernel)) (gda (gdu _ _ _) gdn))
def fX9_wipe (v_signs : Int32) : Option (Int32 × Int32) :=
  some (v_signs, (0 : Int32))
def wdX9_wipe (cI cZ : ClassId) (q0 : Nat) (d1 : Nat) (d2 : Nat) (d3 : Nat) (d4 : Nat) (d5 : Nat) (d6 : Nat) (d7 : Nat) (d8 : Nat) (d9 : Nat) (d10 : Nat)  (v_signs : Int32) (v_sights : Int32) (v_weddings : Int32) (v_reason : Int32) (v_acts : Int32) : va_W := [(q0, .inr (9, [.ref d1, .ref d2, .ref d3, .int v_sights, .ref d4, .int v_signs, .ref d5, .int v_weddings, .int v_reason, .int v_acts, .ref d6, .ref d7, .ref d8, .ref d9, .ref d10]))]
abbrev rmX9_wipe : Jvm.Room := { frames := 0, cells := 0, slots := 0, locals := 0 }
theorem hyX9_wipe : yX9_wipe.cls ≠ "java/lang/invoke/MethodHandle" ∧ yX9_wipe.cls ≠ "java/lang/invoke/VarHandle" ∧ (parseMethodDescriptor yX9_wipe.desc).map (fun d => d.parameters.length) = some 0 := by decide +kernel
set_option maxHeartbeats 4000000 in
set_option maxRecDepth 100000 in
theorem mX9_wipe (l : Launch) (D : va_G) (cI cZ : ClassId) (q0 : Nat) (d1 : Nat) (d2 : Nat) (d3 : Nat) (d4 : Nat) (d5 : Nat) (d6 : Nat) (d7 : Nat) (d8 : Nat) (d9 : Nat) (d10 : Nat) (v_signs : Int32) (v_sights : Int32) (v_weddings : Int32) (v_reason : Int32) (v_acts : Int32) (z : Int32 × Int32) (hF : fX9_wipe v_signs = some z) : mp l yX9_wipe wtX9_wipe rmX9_wipe D cI cZ [.ref q0] (wdX9_wipe cI cZ q0 d1 d2 d3 d4 d5 d6 d7 d8 d9 d10 v_signs v_sights v_weddings v_reason v_acts) (some (.int z.1)) (wdX9_wipe cI cZ q0 d1 d2 d3 d4 d5 d6 d7 d8 d9 d10 z.2 v_sights v_weddings v_reason v_acts) := by
  refine mp_i (lv0 := [(0, .ref q0)]) cX9_wipe 2 z.1 (by decide) rfl (Nat.le_of_ble_eq_true rfl) rfl (fun E h hend0 => ?_)
  have hend : ∀ (z' : Int32 × Int32), some z' = some z → ∀ (pc : Nat) (lv : List (Nat × Value)), decode cX9_wipe pc = .ok (.ireturn, 1) → G l D E 2 0 0 (wdX9_wipe cI cZ q0 d1 d2 d3 d4 d5 d6 d7 d8 d9 d10 (z'.2) v_sights v_weddings v_reason v_acts) pc lv [.int z'.1] := fun z' e => by cases e; exact hend0
  clear hend0
  unfold fX9_wipe at hF
  refine g_aload_n (np := 1) h 0 rfl rfl dX9_wipe_0 rfl ?_
  refine g_get (np := 4) (T := TX9) h imX9_wipe_u_X9 0 9 rfl rfl 5 (by decide) (imX9_wipe_own _ (List.mem_of_getElem? (i := 0) rfl)) rfl dX9_wipe_1 rfl ?_
  refine g_istore_n (np := 5) (lv' := [(1, .int v_signs), (0, .ref q0)]) h rfl (by decide) rfl dX9_wipe_4 rfl ?_
  refine g_aload_n (np := 6) h 1 rfl rfl dX9_wipe_5 rfl ?_
  refine g_iconst (np := 7) (v := (0 : Int32)) h (by decide) dX9_wipe_6 rfl ?_
  refine g_put (np := 10) (T := TX9) (Wd' := (wdX9_wipe cI cZ q0 d1 d2 d3 d4 d5 d6 d7 d8 d9 d10 (0 : Int32) v_sights v_weddings v_reason v_acts)) h imX9_wipe_u_X9 tyX9_ok nmX9 0 9 rfl rfl 5 (by decide) (imX9_wipe_own _ (List.mem_of_getElem? (i := 0) rfl)) rfl rfl rfl (Nat.le_of_ble_eq_true rfl) rfl dX9_wipe_7 rfl ?_
  refine g_iload_n (np := 11) h 0 rfl rfl dX9_wipe_10 rfl ?_
  exact hend _ hF _ _ dX9_wipe_11
theorem dX9_isLetter_0 : decode cX9_isLetter 0 = .ok (.iload_n 0, 1) := by decide +kernel
theorem dX9_isLetter_1 : decode cX9_isLetter 1 = .ok (.bipush 65, 2) := by decide +kernel
theorem dX9_isLetter_3 : decode cX9_isLetter 3 = .ok (.bipush 72, 2) := by decide +kernel
theorem dX9_isLetter_5 : decode cX9_isLetter 5 = .ok (.invokestatic 41, 3) := by decide +kernel
theorem dX9_isLetter_8 : decode cX9_isLetter 8 = .ok (.ireturn, 1) := by decide +kernel
def wtX9_isLetter : List Cond := .code yX9_isLetter cX9_isLetter 1 (some .boolean) :: (([]) ++ ((va_wsS RX9 41 yX9_in wtX9_in) ++ []))
theorem imX9_isLetter_own : ∀ w ∈ ([] : List Cond), w ∈ wtX9_isLetter := fun w h => List.mem_cons_of_mem _ (inl h)
theorem imX9_isLetter_c_X9_in : ∀ w ∈ (va_wsS RX9 41 yX9_in wtX9_in : List Cond), w ∈ wtX9_isLetter := fun w h => List.mem_cons_of_mem _ (inr (inl h))
theorem gdX9_isLetter : ∀ w ∈ wtX9_isLetter, Gd w := gdc rfl (gda (gdl (by decide +kernel)) (gda (gda (gdl (by decide +kernel)) gdX9_in) gdn))
theorem gcX9_isLetter_X9_in : GoodIn wtX9_isLetter (va_wsS RX9 41 yX9_in wtX9_in) := fun w h => ⟨imX9_isLetter_c_X9_in w h, (gda (gdl (by decide +kernel)) gdX9_in) w h⟩
def fX9_isLetter (x0 : Int32) : Option (Int32) :=
  (fX9_in x0 (65 : Int32) (72 : Int32)).bind (fun r1 =>
    (bz r1).bind (fun r2 =>
      some r2))
def wdX9_isLetter (cI cZ : ClassId)    : va_W := []
abbrev rmX9_isLetter : Jvm.Room := { frames := 1, cells := 0, slots := 0, locals := 22 }
theorem hyX9_isLetter : yX9_isLetter.cls ≠ "java/lang/invoke/MethodHandle" ∧ yX9_isLetter.cls ≠ "java/lang/invoke/VarHandle" ∧ (parseMethodDescriptor yX9_isLetter.desc).map (fun d => d.parameters.length) = some 1 := by decide +kernel
set_option maxHeartbeats 4000000 in
set_option maxRecDepth 100000 in
theorem mX9_isLetter (l : Launch) (D : va_G) (cI cZ : ClassId) (x0 : Int32) (z : Int32) (hF : fX9_isLetter x0 = some z) : mp l yX9_isLetter wtX9_isLetter rmX9_isLetter D cI cZ [.int x0] (wdX9_isLetter cI cZ ) (some (.int z)) (wdX9_isLetter cI cZ ) := by
  refine mp_z (lv0 := [(0, .int x0)]) cX9_isLetter 1 z (by decide) rfl (Nat.le_of_ble_eq_true rfl) rfl (fun E h hend0 => ?_)
  have hend : ∀ (z' : Int32), some z' = some z → ∀ (pc : Nat) (lv : List (Nat × Value)), z' = z' &&& 1 → decode cX9_isLetter pc = .ok (.ireturn, 1) → G l D E 1 0 0 (wdX9_isLetter cI cZ ) pc lv [.int z'] := fun z' e => by cases e; exact hend0
  clear hend0
  unfold fX9_isLetter at hF
  refine g_iload_n (np := 1) h 0 rfl rfl dX9_isLetter_0 rfl ?_
  refine g_bipush (np := 3) (v := (65 : Int32)) h (by decide) dX9_isLetter_1 rfl ?_
  refine g_bipush (np := 5) (v := (72 : Int32)) h (by decide) dX9_isLetter_3 rfl ?_
  obtain ⟨r1, hr1, hF⟩ := Option.bind_eq_some_iff.mp hF
  refine g_callS (np := 8) (Wd' := (wdX9_isLetter cI cZ )) (As := [.int x0, .int (65 : Int32), .int (72 : Int32)]) h (mX9_in l D cI cZ x0 (65 : Int32) (72 : Int32) r1 hr1) gcX9_isLetter_X9_in rfl ⟨rfl, rfl⟩ hyX9_in rfl rfl rfl rfl ⟨Nat.zero_le _, Nat.zero_le _⟩ [] [] (N := 0) (by decide +kernel) rfl rfl rfl rfl rfl dX9_isLetter_5 rfl ?_
  obtain ⟨r2, hr2, hF⟩ := Option.bind_eq_some_iff.mp hF
  obtain ⟨hbr2, her2⟩ := bz_e hr2
  subst her2
  exact hend _ hF _ _ hbr2 dX9_isLetter_8
theorem dX9_isDigit_0 : decode cX9_isDigit 0 = .ok (.iload_n 0, 1) := by decide +kernel
theorem dX9_isDigit_1 : decode cX9_isDigit 1 = .ok (.bipush 48, 2) := by decide +kernel
theorem dX9_isDigit_3 : decode cX9_isDigit 3 = .ok (.bipush 57, 2) := by decide +kernel
theorem dX9_isDigit_5 : decode cX9_isDigit 5 = .ok (.invokestatic 41, 3) := by decide +kernel
theorem dX9_isDigit_8 : decode cX9_isDigit 8 = .ok (.ireturn, 1) := by decide +kernel
def wtX9_isDigit : List Cond := .code yX9_isDigit cX9_isDigit 1 (some .boolean) :: (([]) ++ ((va_wsS RX9 41 yX9_in wtX9_in) ++ []))
theorem imX9_isDigit_own : ∀ w ∈ ([] : List Cond), w ∈ wtX9_isDigit := fun w h => List.mem_cons_of_mem _ (inl h)
theorem imX9_isDigit_c_X9_in : ∀ w ∈ (va_wsS RX9 41 yX9_in wtX9_in : List Cond), w ∈ wtX9_isDigit := fun w h => List.mem_cons_of_mem _ (inr (inl h))
theorem gdX9_isDigit : ∀ w ∈ wtX9_isDigit, Gd w := gdc rfl (gda (gdl (by decide +kernel)) (gda (gda (gdl (by decide +kernel)) gdX9_in) gdn))
theorem gcX9_isDigit_X9_in : GoodIn wtX9_isDigit (va_wsS RX9 41 yX9_in wtX9_in) := fun w h => ⟨imX9_isDigit_c_X9_in w h, (gda (gdl (by decide +kernel)) gdX9_in) w h⟩
def fX9_isDigit (x0 : Int32) : Option (Int32) :=
  (fX9_in x0 (48 : Int32) (57 : Int32)).bind (fun r1 =>
    (bz r1).bind (fun r2 =>
      some r2))
def wdX9_isDigit (cI cZ : ClassId)    : va_W := []
abbrev rmX9_isDigit : Jvm.Room := { frames := 1, cells := 0, slots := 0, locals := 22 }
theorem hyX9_isDigit : yX9_isDigit.cls ≠ "java/lang/invoke/MethodHandle" ∧ yX9_isDigit.cls ≠ "java/lang/invoke/VarHandle" ∧ (parseMethodDescriptor yX9_isDigit.desc).map (fun d => d.parameters.length) = some 1 := by decide +kernel
set_option maxHeartbeats 4000000 in
set_option maxRecDepth 100000 in
theorem mX9_isDigit (l : Launch) (D : va_G) (cI cZ : ClassId) (x0 : Int32) (z : Int32) (hF : fX9_isDigit x0 = some z) : mp l yX9_isDigit wtX9_isDigit rmX9_isDigit D cI cZ [.int x0] (wdX9_isDigit cI cZ ) (some (.int z)) (wdX9_isDigit cI cZ ) := by
  refine mp_z (lv0 := [(0, .int x0)]) cX9_isDigit 1 z (by decide) rfl (Nat.le_of_ble_eq_true rfl) rfl (fun E h hend0 => ?_)
  have hend : ∀ (z' : Int32), some z' = some z → ∀ (pc : Nat) (lv : List (Nat × Value)), z' = z' &&& 1 → decode cX9_isDigit pc = .ok (.ireturn, 1) → G l D E 1 0 0 (wdX9_isDigit cI cZ ) pc lv [.int z'] := fun z' e => by cases e; exact hend0
  clear hend0
  unfold fX9_isDigit at hF
  refine g_iload_n (np := 1) h 0 rfl rfl dX9_isDigit_0 rfl ?_
  refine g_bipush (np := 3) (v := (48 : Int32)) h (by decide) dX9_isDigit_1 rfl ?_
  refine g_bipush (np := 5) (v := (57 : Int32)) h (by decide) dX9_isDigit_3 rfl ?_
  obtain ⟨r1, hr1, hF⟩ := Option.bind_eq_some_iff.mp hF
  refine g_callS (np := 8) (Wd' := (wdX9_isDigit cI cZ )) (As := [.int x0, .int (48 : Int32), .int (57 : Int32)]) h (mX9_in l D cI cZ x0 (48 : Int32) (57 : Int32) r1 hr1) gcX9_isDigit_X9_in rfl ⟨rfl, rfl⟩ hyX9_in rfl rfl rfl rfl ⟨Nat.zero_le _, Nat.zero_le _⟩ [] [] (N := 0) (by decide +kernel) rfl rfl rfl rfl rfl dX9_isDigit_5 rfl ?_
  obtain ⟨r2, hr2, hF⟩ := Option.bind_eq_some_iff.mp hF
  obtain ⟨hbr2, her2⟩ := bz_e hr2
  subst her2
  exact hend _ hF _ _ hbr2 dX9_isDigit_8
theorem dX9_faultOf_0 : decode cX9_faultOf 0 = .ok (.iconst 0, 1) := by decide +kernel
theorem dX9_faultOf_1 : decode cX9_faultOf 1 = .ok (.istore_n 1, 1) := by decide +kernel
theorem dX9_faultOf_2 : decode cX9_faultOf 2 = .ok (.iconst 0, 1) := by decide +kernel
theorem dX9_faultOf_3 : decode cX9_faultOf 3 = .ok (.istore_n 2, 1) := by decide +kernel
theorem dX9_faultOf_4 : decode cX9_faultOf 4 = .ok (.iload_n 2, 1) := by decide +kernel
theorem dX9_faultOf_5 : decode cX9_faultOf 5 = .ok (.aload_n 0, 1) := by decide +kernel
theorem dX9_faultOf_6 : decode cX9_faultOf 6 = .ok (.getfield 50, 3) := by decide +kernel
theorem dX9_faultOf_9 : decode cX9_faultOf 9 = .ok (.if_icmp .ge 135, 3) := by decide +kernel
theorem dX9_faultOf_12 : decode cX9_faultOf 12 = .ok (.aload_n 0, 1) := by decide +kernel
theorem dX9_faultOf_13 : decode cX9_faultOf 13 = .ok (.getfield 22, 3) := by decide +kernel
theorem dX9_faultOf_16 : decode cX9_faultOf 16 = .ok (.iload_n 2, 1) := by decide +kernel
theorem dX9_faultOf_17 : decode cX9_faultOf 17 = .ok (.iaload, 1) := by decide +kernel
theorem dX9_faultOf_18 : decode cX9_faultOf 18 = .ok (.istore_n 3, 1) := by decide +kernel
theorem dX9_faultOf_19 : decode cX9_faultOf 19 = .ok (.iload_n 1, 1) := by decide +kernel
theorem dX9_faultOf_20 : decode cX9_faultOf 20 = .ok (.ifCond .ne 31, 3) := by decide +kernel
theorem dX9_faultOf_23 : decode cX9_faultOf 23 = .ok (.iload_n 3, 1) := by decide +kernel
theorem dX9_faultOf_24 : decode cX9_faultOf 24 = .ok (.invokestatic 54, 3) := by decide +kernel
theorem dX9_faultOf_27 : decode cX9_faultOf 27 = .ok (.ifCond .ne 16, 3) := by decide +kernel
theorem dX9_faultOf_30 : decode cX9_faultOf 30 = .ok (.iload_n 3, 1) := by decide +kernel
theorem dX9_faultOf_31 : decode cX9_faultOf 31 = .ok (.invokestatic 57, 3) := by decide +kernel
theorem dX9_faultOf_34 : decode cX9_faultOf 34 = .ok (.ifCond .ne 9, 3) := by decide +kernel
theorem dX9_faultOf_37 : decode cX9_faultOf 37 = .ok (.iload_n 3, 1) := by decide +kernel
theorem dX9_faultOf_38 : decode cX9_faultOf 38 = .ok (.bipush 46, 2) := by decide +kernel
theorem dX9_faultOf_40 : decode cX9_faultOf 40 = .ok (.if_icmp .ne 7, 3) := by decide +kernel
theorem dX9_faultOf_43 : decode cX9_faultOf 43 = .ok (.iconst 1, 1) := by decide +kernel
theorem dX9_faultOf_44 : decode cX9_faultOf 44 = .ok (.goto 49, 3) := by decide +kernel
theorem dX9_faultOf_47 : decode cX9_faultOf 47 = .ok (.iconst 0, 1) := by decide +kernel
theorem dX9_faultOf_48 : decode cX9_faultOf 48 = .ok (.goto 45, 3) := by decide +kernel
theorem dX9_faultOf_51 : decode cX9_faultOf 51 = .ok (.iload_n 1, 1) := by decide +kernel
theorem dX9_faultOf_52 : decode cX9_faultOf 52 = .ok (.iconst 2, 1) := by decide +kernel
theorem dX9_faultOf_53 : decode cX9_faultOf 53 = .ok (.if_icmp .ne 10, 3) := by decide +kernel
theorem dX9_faultOf_56 : decode cX9_faultOf 56 = .ok (.iload_n 3, 1) := by decide +kernel
theorem dX9_faultOf_57 : decode cX9_faultOf 57 = .ok (.invokestatic 54, 3) := by decide +kernel
theorem dX9_faultOf_60 : decode cX9_faultOf 60 = .ok (.goto 33, 3) := by decide +kernel
theorem dX9_faultOf_63 : decode cX9_faultOf 63 = .ok (.iload_n 3, 1) := by decide +kernel
theorem dX9_faultOf_64 : decode cX9_faultOf 64 = .ok (.invokestatic 57, 3) := by decide +kernel
theorem dX9_faultOf_67 : decode cX9_faultOf 67 = .ok (.ifCond .ne 21, 3) := by decide +kernel
theorem dX9_faultOf_70 : decode cX9_faultOf 70 = .ok (.iload_n 3, 1) := by decide +kernel
theorem dX9_faultOf_71 : decode cX9_faultOf 71 = .ok (.bipush 43, 2) := by decide +kernel
theorem dX9_faultOf_73 : decode cX9_faultOf 73 = .ok (.if_icmp .eq 15, 3) := by decide +kernel
theorem dX9_faultOf_76 : decode cX9_faultOf 76 = .ok (.iload_n 3, 1) := by decide +kernel
theorem dX9_faultOf_77 : decode cX9_faultOf 77 = .ok (.bipush 45, 2) := by decide +kernel
theorem dX9_faultOf_79 : decode cX9_faultOf 79 = .ok (.if_icmp .eq 9, 3) := by decide +kernel
theorem dX9_faultOf_82 : decode cX9_faultOf 82 = .ok (.iload_n 3, 1) := by decide +kernel
theorem dX9_faultOf_83 : decode cX9_faultOf 83 = .ok (.bipush 42, 2) := by decide +kernel
theorem dX9_faultOf_85 : decode cX9_faultOf 85 = .ok (.if_icmp .ne 7, 3) := by decide +kernel
theorem dX9_faultOf_88 : decode cX9_faultOf 88 = .ok (.iconst 1, 1) := by decide +kernel
theorem dX9_faultOf_89 : decode cX9_faultOf 89 = .ok (.goto 4, 3) := by decide +kernel
theorem dX9_faultOf_92 : decode cX9_faultOf 92 = .ok (.iconst 0, 1) := by decide +kernel
theorem dX9_faultOf_93 : decode cX9_faultOf 93 = .ok (.istore 4, 2) := by decide +kernel
theorem dX9_faultOf_95 : decode cX9_faultOf 95 = .ok (.iload 4, 2) := by decide +kernel
theorem dX9_faultOf_97 : decode cX9_faultOf 97 = .ok (.ifCond .ne 5, 3) := by decide +kernel
theorem dX9_faultOf_100 : decode cX9_faultOf 100 = .ok (.iload_n 2, 1) := by decide +kernel
theorem dX9_faultOf_101 : decode cX9_faultOf 101 = .ok (.ireturn, 1) := by decide +kernel
theorem dX9_faultOf_102 : decode cX9_faultOf 102 = .ok (.iload_n 1, 1) := by decide +kernel
theorem dX9_faultOf_103 : decode cX9_faultOf 103 = .ok (.ifCond .ne 18, 3) := by decide +kernel
theorem dX9_faultOf_106 : decode cX9_faultOf 106 = .ok (.iload_n 3, 1) := by decide +kernel
theorem dX9_faultOf_107 : decode cX9_faultOf 107 = .ok (.invokestatic 54, 3) := by decide +kernel
theorem dX9_faultOf_110 : decode cX9_faultOf 110 = .ok (.ifCond .eq 7, 3) := by decide +kernel
theorem dX9_faultOf_113 : decode cX9_faultOf 113 = .ok (.iconst 1, 1) := by decide +kernel
theorem dX9_faultOf_114 : decode cX9_faultOf 114 = .ok (.goto 23, 3) := by decide +kernel
theorem dX9_faultOf_117 : decode cX9_faultOf 117 = .ok (.iconst 0, 1) := by decide +kernel
theorem dX9_faultOf_118 : decode cX9_faultOf 118 = .ok (.goto 19, 3) := by decide +kernel
theorem dX9_faultOf_121 : decode cX9_faultOf 121 = .ok (.iload_n 1, 1) := by decide +kernel
theorem dX9_faultOf_122 : decode cX9_faultOf 122 = .ok (.iconst 1, 1) := by decide +kernel
theorem dX9_faultOf_123 : decode cX9_faultOf 123 = .ok (.if_icmp .ne 13, 3) := by decide +kernel
theorem dX9_faultOf_126 : decode cX9_faultOf 126 = .ok (.iload_n 3, 1) := by decide +kernel
theorem dX9_faultOf_127 : decode cX9_faultOf 127 = .ok (.bipush 43, 2) := by decide +kernel
theorem dX9_faultOf_129 : decode cX9_faultOf 129 = .ok (.if_icmp .ne 7, 3) := by decide +kernel
theorem dX9_faultOf_132 : decode cX9_faultOf 132 = .ok (.iconst 2, 1) := by decide +kernel
theorem dX9_faultOf_133 : decode cX9_faultOf 133 = .ok (.goto 4, 3) := by decide +kernel
theorem dX9_faultOf_136 : decode cX9_faultOf 136 = .ok (.iconst 0, 1) := by decide +kernel
theorem dX9_faultOf_137 : decode cX9_faultOf 137 = .ok (.istore_n 1, 1) := by decide +kernel
theorem dX9_faultOf_138 : decode cX9_faultOf 138 = .ok (.iinc 2 1, 3) := by decide +kernel
theorem dX9_faultOf_141 : decode cX9_faultOf 141 = .ok (.goto (-137), 3) := by decide +kernel
theorem dX9_faultOf_144 : decode cX9_faultOf 144 = .ok (.iload_n 1, 1) := by decide +kernel
theorem dX9_faultOf_145 : decode cX9_faultOf 145 = .ok (.ifCond .ne 8, 3) := by decide +kernel
theorem dX9_faultOf_148 : decode cX9_faultOf 148 = .ok (.bipush (-6), 2) := by decide +kernel
theorem dX9_faultOf_150 : decode cX9_faultOf 150 = .ok (.goto 7, 3) := by decide +kernel
theorem dX9_faultOf_153 : decode cX9_faultOf 153 = .ok (.aload_n 0, 1) := by decide +kernel
theorem dX9_faultOf_154 : decode cX9_faultOf 154 = .ok (.getfield 50, 3) := by decide +kernel
theorem dX9_faultOf_157 : decode cX9_faultOf 157 = .ok (.ireturn, 1) := by decide +kernel
def wtX9_faultOf : List Cond := .code yX9_faultOf cX9_faultOf 5 (some .int) :: (([.fieldLink RX9 50 "DriftKinModel" "signs" "I", .fieldLink RX9 22 "DriftKinModel" "pad" "[I"]) ++ ((u_ws RX9 TX9 15) ++ ((va_wsS RX9 54 yX9_isLetter wtX9_isLetter) ++ ((va_wsS RX9 57 yX9_isDigit wtX9_isDigit) ++ []))))
theorem imX9_faultOf_own : ∀ w ∈ ([.fieldLink RX9 50 "DriftKinModel" "signs" "I", .fieldLink RX9 22 "DriftKinModel" "pad" "[I"] : List Cond), w ∈ wtX9_faultOf := fun w h => List.mem_cons_of_mem _ (inl h)
theorem imX9_faultOf_u_X9 : ∀ w ∈ (u_ws RX9 TX9 15 : List Cond), w ∈ wtX9_faultOf := fun w h => List.mem_cons_of_mem _ (inr (inl h))
theorem imX9_faultOf_c_X9_isLetter : ∀ w ∈ (va_wsS RX9 54 yX9_isLetter wtX9_isLetter : List Cond), w ∈ wtX9_faultOf := fun w h => List.mem_cons_of_mem _ (inr (inr (inl h)))
theorem imX9_faultOf_c_X9_isDigit : ∀ w ∈ (va_wsS RX9 57 yX9_isDigit wtX9_isDigit : List Cond), w ∈ wtX9_faultOf := fun w h => List.mem_cons_of_mem _ (inr (inr (inr (inl h))))
theorem gdX9_faultOf : ∀ w ∈ wtX9_faultOf, Gd w := gdc rfl (gda (gdl (by decide +kernel)) (gda (gdu _ _ _) (gda (gda (gdl (by decide +kernel)) gdX9_isLetter) (gda (gda (gdl (by decide +kernel)) gdX9_isDigit) gdn))))
theorem gcX9_faultOf_X9_isLetter : GoodIn wtX9_faultOf (va_wsS RX9 54 yX9_isLetter wtX9_isLetter) := fun w h => ⟨imX9_faultOf_c_X9_isLetter w h, (gda (gdl (by decide +kernel)) gdX9_isLetter) w h⟩
theorem gcX9_faultOf_X9_isDigit : GoodIn wtX9_faultOf (va_wsS RX9 57 yX9_isDigit wtX9_isDigit) := fun w h => ⟨imX9_faultOf_c_X9_isDigit w h, (gda (gdl (by decide +kernel)) gdX9_isDigit) w h⟩
def fX9_faultOf_93 (k4 : Int32 → Int32 → Option (Int32)) (v_signs : Int32) (v_pad : Nat → Int32) (x1 : Int32) (x2 : Int32) (x3 : Int32) (s0 : Int32) : Option (Int32) :=
  if s0 = (0 : Int32) then
    some x2
  else
    if x1 = (0 : Int32) then
      (fX9_isLetter x3).bind (fun r1005 =>
        if r1005 = (0 : Int32) then
          k4 (0 : Int32) (x2 + (1 : Int32))
        else
          k4 (1 : Int32) (x2 + (1 : Int32)))
    else
      if x1 = (1 : Int32) then
        if x3 = (43 : Int32) then
          k4 (2 : Int32) (x2 + (1 : Int32))
        else
          k4 (0 : Int32) (x2 + (1 : Int32))
      else
        k4 (0 : Int32) (x2 + (1 : Int32))
def fX9_faultOf_4 (v_signs : Int32) (v_pad : Nat → Int32) : Nat → Int32 → Int32 → Option (Int32)
  | 0, _, _ => none
  | n + 1, x1, x2 =>
    if v_signs ≤ x2 then
      if x1 = (0 : Int32) then
        some (-6 : Int32)
      else
        some v_signs
    else
      chk x2 60 (
        if x1 = (0 : Int32) then
          (fX9_isLetter (rd v_pad x2)).bind (fun r2012 =>
            if r2012 = (0 : Int32) then
              (fX9_isDigit (rd v_pad x2)).bind (fun r2014 =>
                if r2014 = (0 : Int32) then
                  if (rd v_pad x2) = (46 : Int32) then
                    fX9_faultOf_93 (fun y0 y1 => fX9_faultOf_4 v_signs v_pad n y0 y1) v_signs v_pad x1 x2 (rd v_pad x2) (1 : Int32)
                  else
                    fX9_faultOf_93 (fun y0 y1 => fX9_faultOf_4 v_signs v_pad n y0 y1) v_signs v_pad x1 x2 (rd v_pad x2) (0 : Int32)
                else
                  fX9_faultOf_93 (fun y0 y1 => fX9_faultOf_4 v_signs v_pad n y0 y1) v_signs v_pad x1 x2 (rd v_pad x2) (1 : Int32))
            else
              fX9_faultOf_93 (fun y0 y1 => fX9_faultOf_4 v_signs v_pad n y0 y1) v_signs v_pad x1 x2 (rd v_pad x2) (1 : Int32))
        else
          if x1 = (2 : Int32) then
            (fX9_isLetter (rd v_pad x2)).bind (fun r2011 =>
              fX9_faultOf_93 (fun y0 y1 => fX9_faultOf_4 v_signs v_pad n y0 y1) v_signs v_pad x1 x2 (rd v_pad x2) r2011)
          else
            (fX9_isDigit (rd v_pad x2)).bind (fun r2006 =>
              if r2006 = (0 : Int32) then
                if (rd v_pad x2) = (43 : Int32) then
                  fX9_faultOf_93 (fun y0 y1 => fX9_faultOf_4 v_signs v_pad n y0 y1) v_signs v_pad x1 x2 (rd v_pad x2) (1 : Int32)
                else
                  if (rd v_pad x2) = (45 : Int32) then
                    fX9_faultOf_93 (fun y0 y1 => fX9_faultOf_4 v_signs v_pad n y0 y1) v_signs v_pad x1 x2 (rd v_pad x2) (1 : Int32)
                  else
                    if (rd v_pad x2) = (42 : Int32) then
                      fX9_faultOf_93 (fun y0 y1 => fX9_faultOf_4 v_signs v_pad n y0 y1) v_signs v_pad x1 x2 (rd v_pad x2) (1 : Int32)
                    else
                      fX9_faultOf_93 (fun y0 y1 => fX9_faultOf_4 v_signs v_pad n y0 y1) v_signs v_pad x1 x2 (rd v_pad x2) (0 : Int32)
              else
                fX9_faultOf_93 (fun y0 y1 => fX9_faultOf_4 v_signs v_pad n y0 y1) v_signs v_pad x1 x2 (rd v_pad x2) (1 : Int32)))
def fX9_faultOf (v_signs : Int32) (v_pad : Nat → Int32) : Option (Int32) :=
  fX9_faultOf_4 v_signs v_pad 2000 (0 : Int32) (0 : Int32)
def wdX9_faultOf (cI cZ : ClassId) (q0 : Nat) (q1 : Nat) (d2 : Nat) (d3 : Nat) (d4 : Nat) (d5 : Nat) (d6 : Nat) (d7 : Nat) (d8 : Nat) (d9 : Nat) (d10 : Nat)  (v_signs : Int32) (v_pad : Nat → Int32) (v_sights : Int32) (v_weddings : Int32) (v_reason : Int32) (v_acts : Int32) : va_W := [(q0, .inr (9, [.ref d2, .ref d3, .ref d4, .int v_sights, .ref d5, .int v_signs, .ref q1, .int v_weddings, .int v_reason, .int v_acts, .ref d6, .ref d7, .ref d8, .ref d9, .ref d10])), (q1, .inl (cI, 60, .inl v_pad))]
abbrev rmX9_faultOf : Jvm.Room := { frames := 2, cells := 0, slots := 0, locals := 42 }
theorem hyX9_faultOf : yX9_faultOf.cls ≠ "java/lang/invoke/MethodHandle" ∧ yX9_faultOf.cls ≠ "java/lang/invoke/VarHandle" ∧ (parseMethodDescriptor yX9_faultOf.desc).map (fun d => d.parameters.length) = some 0 := by decide +kernel
set_option maxHeartbeats 4000000 in
set_option maxRecDepth 100000 in
theorem mX9_faultOf (l : Launch) (D : va_G) (cI cZ : ClassId) (q0 : Nat) (q1 : Nat) (d2 : Nat) (d3 : Nat) (d4 : Nat) (d5 : Nat) (d6 : Nat) (d7 : Nat) (d8 : Nat) (d9 : Nat) (d10 : Nat) (v_signs : Int32) (v_pad : Nat → Int32) (v_sights : Int32) (v_weddings : Int32) (v_reason : Int32) (v_acts : Int32) (z : Int32) (hF : fX9_faultOf v_signs v_pad = some z) : mp l yX9_faultOf wtX9_faultOf rmX9_faultOf D cI cZ [.ref q0] (wdX9_faultOf cI cZ q0 q1 d2 d3 d4 d5 d6 d7 d8 d9 d10 v_signs v_pad v_sights v_weddings v_reason v_acts) (some (.int z)) (wdX9_faultOf cI cZ q0 q1 d2 d3 d4 d5 d6 d7 d8 d9 d10 v_signs v_pad v_sights v_weddings v_reason v_acts) := by
  refine mp_i (lv0 := [(0, .ref q0)]) cX9_faultOf 5 z (by decide) rfl (Nat.le_of_ble_eq_true rfl) rfl (fun E h hend0 => ?_)
  have hend : ∀ (z' : Int32), some z' = some z → ∀ (pc : Nat) (lv : List (Nat × Value)), decode cX9_faultOf pc = .ok (.ireturn, 1) → G l D E 5 0 0 (wdX9_faultOf cI cZ q0 q1 d2 d3 d4 d5 d6 d7 d8 d9 d10 v_signs v_pad v_sights v_weddings v_reason v_acts) pc lv [.int z'] := fun z' e => by cases e; exact hend0
  clear hend0
  have hL4 : ∀ (n4 : Nat) (x1 : Int32) (x2 : Int32), fX9_faultOf_4 v_signs v_pad n4 x1 x2 = some z → G l D E 5 0 0 (wdX9_faultOf cI cZ q0 q1 d2 d3 d4 d5 d6 d7 d8 d9 d10 v_signs v_pad v_sights v_weddings v_reason v_acts) 4 [(0, .ref q0), (1, .int x1), (2, .int x2)] [] := by
    intro n4
    induction n4 with
    | zero =>
      intro x1 x2 hF
      rw [fX9_faultOf_4] at hF
      cases hF
    | succ n4 ih4 =>
      have hL93 : ∀ (x1 : Int32) (x2 : Int32) (x3 : Int32) (s0 : Int32), fX9_faultOf_93 (fun y0 y1 => fX9_faultOf_4 v_signs v_pad n4 y0 y1) v_signs v_pad x1 x2 x3 s0 = some z → G l D E 5 0 0 (wdX9_faultOf cI cZ q0 q1 d2 d3 d4 d5 d6 d7 d8 d9 d10 v_signs v_pad v_sights v_weddings v_reason v_acts) 93 [(0, .ref q0), (1, .int x1), (2, .int x2), (3, .int x3)] [.int s0] := by
        intro x1 x2 x3 s0 hF
        rw [fX9_faultOf_93] at hF
        refine g_istore (np := 95) (lv' := [(4, .int s0), (0, .ref q0), (1, .int x1), (2, .int x2), (3, .int x3)]) h (by decide) rfl dX9_faultOf_93 rfl ?_
        refine g_iload (np := 97) h 0 rfl dX9_faultOf_95 rfl ?_
        refine g_if_ne h hF dX9_faultOf_97 (np := 100) rfl (tg := 102) rfl (fun c1001 hF => ?_) (fun c1001 hF => ?_)
        · refine g_iload_n (np := 103) h 2 rfl rfl dX9_faultOf_102 rfl ?_
          refine g_if_ne h hF dX9_faultOf_103 (np := 106) rfl (tg := 121) rfl (fun c1002 hF => ?_) (fun c1002 hF => ?_)
          · refine g_iload_n (np := 122) h 2 rfl rfl dX9_faultOf_121 rfl ?_
            refine g_iconst (np := 123) (v := (1 : Int32)) h (by decide) dX9_faultOf_122 rfl ?_
            refine g_icmp_ne h hF dX9_faultOf_123 (np := 126) rfl (tg := 136) rfl (fun c1003 hF => ?_) (fun c1003 hF => ?_)
            · refine g_iconst (np := 137) (v := (0 : Int32)) h (by decide) dX9_faultOf_136 rfl ?_
              refine g_istore_n (np := 138) (lv' := [(1, .int (0 : Int32)), (4, .int s0), (0, .ref q0), (2, .int x2), (3, .int x3)]) h rfl (by decide) rfl dX9_faultOf_137 rfl ?_
              refine g_iinc (np := 141) (v := (x2 + (1 : Int32))) (lv' := [(2, .int (x2 + (1 : Int32))), (1, .int (0 : Int32)), (4, .int s0), (0, .ref q0), (3, .int x3)]) h 3 rfl rfl (by decide) rfl dX9_faultOf_138 rfl ?_
              refine g_goto h dX9_faultOf_141 (np := 4) rfl ?_
              refine g_lv [3, 1, 0] rfl ?_
              exact ih4 (0 : Int32) (x2 + (1 : Int32)) hF
            · refine g_iload_n (np := 127) h 4 rfl rfl dX9_faultOf_126 rfl ?_
              refine g_bipush (np := 129) (v := (43 : Int32)) h (by decide) dX9_faultOf_127 rfl ?_
              refine g_icmp_ne h hF dX9_faultOf_129 (np := 132) rfl (tg := 136) rfl (fun c1004 hF => ?_) (fun c1004 hF => ?_)
              · refine g_iconst (np := 137) (v := (0 : Int32)) h (by decide) dX9_faultOf_136 rfl ?_
                refine g_istore_n (np := 138) (lv' := [(1, .int (0 : Int32)), (4, .int s0), (0, .ref q0), (2, .int x2), (3, .int x3)]) h rfl (by decide) rfl dX9_faultOf_137 rfl ?_
                refine g_iinc (np := 141) (v := (x2 + (1 : Int32))) (lv' := [(2, .int (x2 + (1 : Int32))), (1, .int (0 : Int32)), (4, .int s0), (0, .ref q0), (3, .int x3)]) h 3 rfl rfl (by decide) rfl dX9_faultOf_138 rfl ?_
                refine g_goto h dX9_faultOf_141 (np := 4) rfl ?_
                refine g_lv [3, 1, 0] rfl ?_
                exact ih4 (0 : Int32) (x2 + (1 : Int32)) hF
              · refine g_iconst (np := 133) (v := (2 : Int32)) h (by decide) dX9_faultOf_132 rfl ?_
                refine g_goto h dX9_faultOf_133 (np := 137) rfl ?_
                refine g_istore_n (np := 138) (lv' := [(1, .int (2 : Int32)), (4, .int s0), (0, .ref q0), (2, .int x2), (3, .int x3)]) h rfl (by decide) rfl dX9_faultOf_137 rfl ?_
                refine g_iinc (np := 141) (v := (x2 + (1 : Int32))) (lv' := [(2, .int (x2 + (1 : Int32))), (1, .int (2 : Int32)), (4, .int s0), (0, .ref q0), (3, .int x3)]) h 3 rfl rfl (by decide) rfl dX9_faultOf_138 rfl ?_
                refine g_goto h dX9_faultOf_141 (np := 4) rfl ?_
                refine g_lv [3, 1, 0] rfl ?_
                exact ih4 (2 : Int32) (x2 + (1 : Int32)) hF
          · refine g_iload_n (np := 107) h 4 rfl rfl dX9_faultOf_106 rfl ?_
            obtain ⟨r1005, hr1005, hF⟩ := Option.bind_eq_some_iff.mp hF
            refine g_callS (np := 110) (Wd' := (wdX9_faultOf cI cZ q0 q1 d2 d3 d4 d5 d6 d7 d8 d9 d10 v_signs v_pad v_sights v_weddings v_reason v_acts)) (As := [.int x3]) h (mX9_isLetter l D cI cZ x3 r1005 hr1005) gcX9_faultOf_X9_isLetter rfl ⟨rfl, rfl⟩ hyX9_isLetter rfl rfl rfl rfl ⟨Nat.zero_le _, Nat.zero_le _⟩ [] [0, 1] (N := 2) (by decide +kernel) rfl rfl rfl rfl rfl dX9_faultOf_107 rfl ?_
            refine g_if_eq h hF dX9_faultOf_110 (np := 113) rfl (tg := 117) rfl (fun c1006 hF => ?_) (fun c1006 hF => ?_)
            · refine g_iconst (np := 118) (v := (0 : Int32)) h (by decide) dX9_faultOf_117 rfl ?_
              refine g_goto h dX9_faultOf_118 (np := 137) rfl ?_
              refine g_istore_n (np := 138) (lv' := [(1, .int (0 : Int32)), (4, .int s0), (0, .ref q0), (2, .int x2), (3, .int x3)]) h rfl (by decide) rfl dX9_faultOf_137 rfl ?_
              refine g_iinc (np := 141) (v := (x2 + (1 : Int32))) (lv' := [(2, .int (x2 + (1 : Int32))), (1, .int (0 : Int32)), (4, .int s0), (0, .ref q0), (3, .int x3)]) h 3 rfl rfl (by decide) rfl dX9_faultOf_138 rfl ?_
              refine g_goto h dX9_faultOf_141 (np := 4) rfl ?_
              refine g_lv [3, 1, 0] rfl ?_
              exact ih4 (0 : Int32) (x2 + (1 : Int32)) hF
            · refine g_iconst (np := 114) (v := (1 : Int32)) h (by decide) dX9_faultOf_113 rfl ?_
              refine g_goto h dX9_faultOf_114 (np := 137) rfl ?_
              refine g_istore_n (np := 138) (lv' := [(1, .int (1 : Int32)), (4, .int s0), (0, .ref q0), (2, .int x2), (3, .int x3)]) h rfl (by decide) rfl dX9_faultOf_137 rfl ?_
              refine g_iinc (np := 141) (v := (x2 + (1 : Int32))) (lv' := [(2, .int (x2 + (1 : Int32))), (1, .int (1 : Int32)), (4, .int s0), (0, .ref q0), (3, .int x3)]) h 3 rfl rfl (by decide) rfl dX9_faultOf_138 rfl ?_
              refine g_goto h dX9_faultOf_141 (np := 4) rfl ?_
              refine g_lv [3, 1, 0] rfl ?_
              exact ih4 (1 : Int32) (x2 + (1 : Int32)) hF
        · refine g_iload_n (np := 101) h 3 rfl rfl dX9_faultOf_100 rfl ?_
          exact hend _ hF _ _ dX9_faultOf_101
      intro x1 x2 hF
      rw [fX9_faultOf_4] at hF
      refine g_iload_n (np := 5) h 2 rfl rfl dX9_faultOf_4 rfl ?_
      refine g_aload_n (np := 6) h 0 rfl rfl dX9_faultOf_5 rfl ?_
      refine g_get (np := 9) (T := TX9) h imX9_faultOf_u_X9 0 9 rfl rfl 5 (by decide) (imX9_faultOf_own _ (List.mem_of_getElem? (i := 0) rfl)) rfl dX9_faultOf_6 rfl ?_
      refine g_icmp_ge h hF dX9_faultOf_9 (np := 12) rfl (tg := 144) rfl (fun c2001 hF => ?_) (fun c2001 hF => ?_)
      · refine g_iload_n (np := 145) h 1 rfl rfl dX9_faultOf_144 rfl ?_
        refine g_if_ne h hF dX9_faultOf_145 (np := 148) rfl (tg := 153) rfl (fun c2002 hF => ?_) (fun c2002 hF => ?_)
        · refine g_aload_n (np := 154) h 0 rfl rfl dX9_faultOf_153 rfl ?_
          refine g_get (np := 157) (T := TX9) h imX9_faultOf_u_X9 0 9 rfl rfl 5 (by decide) (imX9_faultOf_own _ (List.mem_of_getElem? (i := 0) rfl)) rfl dX9_faultOf_154 rfl ?_
          exact hend _ hF _ _ dX9_faultOf_157
        · refine g_bipush (np := 150) (v := (-6 : Int32)) h (by decide) dX9_faultOf_148 rfl ?_
          refine g_goto h dX9_faultOf_150 (np := 157) rfl ?_
          exact hend _ hF _ _ dX9_faultOf_157
      · refine g_aload_n (np := 13) h 0 rfl rfl dX9_faultOf_12 rfl ?_
        refine g_get (np := 16) (T := TX9) h imX9_faultOf_u_X9 0 9 rfl rfl 6 (by decide) (imX9_faultOf_own _ (List.mem_of_getElem? (i := 1) rfl)) rfl dX9_faultOf_13 rfl ?_
        refine g_iload_n (np := 17) h 2 rfl rfl dX9_faultOf_16 rfl ?_
        refine g_iald (np := 18) h 1 rfl hF dX9_faultOf_17 rfl (fun hi2003 hF => ?_)
        refine g_istore_n (np := 19) (lv' := [(3, .int (rd v_pad x2)), (0, .ref q0), (1, .int x1), (2, .int x2)]) h rfl (by decide) rfl dX9_faultOf_18 rfl ?_
        refine g_iload_n (np := 20) h 2 rfl rfl dX9_faultOf_19 rfl ?_
        refine g_if_ne h hF dX9_faultOf_20 (np := 23) rfl (tg := 51) rfl (fun c2004 hF => ?_) (fun c2004 hF => ?_)
        · refine g_iload_n (np := 52) h 2 rfl rfl dX9_faultOf_51 rfl ?_
          refine g_iconst (np := 53) (v := (2 : Int32)) h (by decide) dX9_faultOf_52 rfl ?_
          refine g_icmp_ne h hF dX9_faultOf_53 (np := 56) rfl (tg := 63) rfl (fun c2005 hF => ?_) (fun c2005 hF => ?_)
          · refine g_iload_n (np := 64) h 0 rfl rfl dX9_faultOf_63 rfl ?_
            obtain ⟨r2006, hr2006, hF⟩ := Option.bind_eq_some_iff.mp hF
            refine g_callS (np := 67) (Wd' := (wdX9_faultOf cI cZ q0 q1 d2 d3 d4 d5 d6 d7 d8 d9 d10 v_signs v_pad v_sights v_weddings v_reason v_acts)) (As := [.int (rd v_pad x2)]) h (mX9_isDigit l D cI cZ (rd v_pad x2) r2006 hr2006) gcX9_faultOf_X9_isDigit rfl ⟨rfl, rfl⟩ hyX9_isDigit rfl rfl rfl rfl ⟨Nat.zero_le _, Nat.zero_le _⟩ [] [0, 1] (N := 2) (by decide +kernel) rfl rfl rfl rfl rfl dX9_faultOf_64 rfl ?_
            refine g_if_ne h hF dX9_faultOf_67 (np := 70) rfl (tg := 88) rfl (fun c2007 hF => ?_) (fun c2007 hF => ?_)
            · refine g_iconst (np := 89) (v := (1 : Int32)) h (by decide) dX9_faultOf_88 rfl ?_
              refine g_goto h dX9_faultOf_89 (np := 93) rfl ?_
              refine g_lv [1, 2, 3, 0] rfl ?_
              exact hL93 x1 x2 (rd v_pad x2) (1 : Int32) hF
            · refine g_iload_n (np := 71) h 0 rfl rfl dX9_faultOf_70 rfl ?_
              refine g_bipush (np := 73) (v := (43 : Int32)) h (by decide) dX9_faultOf_71 rfl ?_
              refine g_icmp_eq h hF dX9_faultOf_73 (np := 76) rfl (tg := 88) rfl (fun c2008 hF => ?_) (fun c2008 hF => ?_)
              · refine g_iconst (np := 89) (v := (1 : Int32)) h (by decide) dX9_faultOf_88 rfl ?_
                refine g_goto h dX9_faultOf_89 (np := 93) rfl ?_
                refine g_lv [1, 2, 3, 0] rfl ?_
                exact hL93 x1 x2 (rd v_pad x2) (1 : Int32) hF
              · refine g_iload_n (np := 77) h 0 rfl rfl dX9_faultOf_76 rfl ?_
                refine g_bipush (np := 79) (v := (45 : Int32)) h (by decide) dX9_faultOf_77 rfl ?_
                refine g_icmp_eq h hF dX9_faultOf_79 (np := 82) rfl (tg := 88) rfl (fun c2009 hF => ?_) (fun c2009 hF => ?_)
                · refine g_iconst (np := 89) (v := (1 : Int32)) h (by decide) dX9_faultOf_88 rfl ?_
                  refine g_goto h dX9_faultOf_89 (np := 93) rfl ?_
                  refine g_lv [1, 2, 3, 0] rfl ?_
                  exact hL93 x1 x2 (rd v_pad x2) (1 : Int32) hF
                · refine g_iload_n (np := 83) h 0 rfl rfl dX9_faultOf_82 rfl ?_
                  refine g_bipush (np := 85) (v := (42 : Int32)) h (by decide) dX9_faultOf_83 rfl ?_
                  refine g_icmp_ne h hF dX9_faultOf_85 (np := 88) rfl (tg := 92) rfl (fun c2010 hF => ?_) (fun c2010 hF => ?_)
                  · refine g_iconst (np := 93) (v := (0 : Int32)) h (by decide) dX9_faultOf_92 rfl ?_
                    refine g_lv [1, 2, 3, 0] rfl ?_
                    exact hL93 x1 x2 (rd v_pad x2) (0 : Int32) hF
                  · refine g_iconst (np := 89) (v := (1 : Int32)) h (by decide) dX9_faultOf_88 rfl ?_
                    refine g_goto h dX9_faultOf_89 (np := 93) rfl ?_
                    refine g_lv [1, 2, 3, 0] rfl ?_
                    exact hL93 x1 x2 (rd v_pad x2) (1 : Int32) hF
          · refine g_iload_n (np := 57) h 0 rfl rfl dX9_faultOf_56 rfl ?_
            obtain ⟨r2011, hr2011, hF⟩ := Option.bind_eq_some_iff.mp hF
            refine g_callS (np := 60) (Wd' := (wdX9_faultOf cI cZ q0 q1 d2 d3 d4 d5 d6 d7 d8 d9 d10 v_signs v_pad v_sights v_weddings v_reason v_acts)) (As := [.int (rd v_pad x2)]) h (mX9_isLetter l D cI cZ (rd v_pad x2) r2011 hr2011) gcX9_faultOf_X9_isLetter rfl ⟨rfl, rfl⟩ hyX9_isLetter rfl rfl rfl rfl ⟨Nat.zero_le _, Nat.zero_le _⟩ [] [0, 1] (N := 2) (by decide +kernel) rfl rfl rfl rfl rfl dX9_faultOf_57 rfl ?_
            refine g_goto h dX9_faultOf_60 (np := 93) rfl ?_
            refine g_lv [1, 2, 3, 0] rfl ?_
            exact hL93 x1 x2 (rd v_pad x2) r2011 hF
        · refine g_iload_n (np := 24) h 0 rfl rfl dX9_faultOf_23 rfl ?_
          obtain ⟨r2012, hr2012, hF⟩ := Option.bind_eq_some_iff.mp hF
          refine g_callS (np := 27) (Wd' := (wdX9_faultOf cI cZ q0 q1 d2 d3 d4 d5 d6 d7 d8 d9 d10 v_signs v_pad v_sights v_weddings v_reason v_acts)) (As := [.int (rd v_pad x2)]) h (mX9_isLetter l D cI cZ (rd v_pad x2) r2012 hr2012) gcX9_faultOf_X9_isLetter rfl ⟨rfl, rfl⟩ hyX9_isLetter rfl rfl rfl rfl ⟨Nat.zero_le _, Nat.zero_le _⟩ [] [0, 1] (N := 2) (by decide +kernel) rfl rfl rfl rfl rfl dX9_faultOf_24 rfl ?_
          refine g_if_ne h hF dX9_faultOf_27 (np := 30) rfl (tg := 43) rfl (fun c2013 hF => ?_) (fun c2013 hF => ?_)
          · refine g_iconst (np := 44) (v := (1 : Int32)) h (by decide) dX9_faultOf_43 rfl ?_
            refine g_goto h dX9_faultOf_44 (np := 93) rfl ?_
            refine g_lv [1, 2, 3, 0] rfl ?_
            exact hL93 x1 x2 (rd v_pad x2) (1 : Int32) hF
          · refine g_iload_n (np := 31) h 0 rfl rfl dX9_faultOf_30 rfl ?_
            obtain ⟨r2014, hr2014, hF⟩ := Option.bind_eq_some_iff.mp hF
            refine g_callS (np := 34) (Wd' := (wdX9_faultOf cI cZ q0 q1 d2 d3 d4 d5 d6 d7 d8 d9 d10 v_signs v_pad v_sights v_weddings v_reason v_acts)) (As := [.int (rd v_pad x2)]) h (mX9_isDigit l D cI cZ (rd v_pad x2) r2014 hr2014) gcX9_faultOf_X9_isDigit rfl ⟨rfl, rfl⟩ hyX9_isDigit rfl rfl rfl rfl ⟨Nat.zero_le _, Nat.zero_le _⟩ [] [0, 1] (N := 2) (by decide +kernel) rfl rfl rfl rfl rfl dX9_faultOf_31 rfl ?_
            refine g_if_ne h hF dX9_faultOf_34 (np := 37) rfl (tg := 43) rfl (fun c2015 hF => ?_) (fun c2015 hF => ?_)
            · refine g_iconst (np := 44) (v := (1 : Int32)) h (by decide) dX9_faultOf_43 rfl ?_
              refine g_goto h dX9_faultOf_44 (np := 93) rfl ?_
              refine g_lv [1, 2, 3, 0] rfl ?_
              exact hL93 x1 x2 (rd v_pad x2) (1 : Int32) hF
            · refine g_iload_n (np := 38) h 0 rfl rfl dX9_faultOf_37 rfl ?_
              refine g_bipush (np := 40) (v := (46 : Int32)) h (by decide) dX9_faultOf_38 rfl ?_
              refine g_icmp_ne h hF dX9_faultOf_40 (np := 43) rfl (tg := 47) rfl (fun c2016 hF => ?_) (fun c2016 hF => ?_)
              · refine g_iconst (np := 48) (v := (0 : Int32)) h (by decide) dX9_faultOf_47 rfl ?_
                refine g_goto h dX9_faultOf_48 (np := 93) rfl ?_
                refine g_lv [1, 2, 3, 0] rfl ?_
                exact hL93 x1 x2 (rd v_pad x2) (0 : Int32) hF
              · refine g_iconst (np := 44) (v := (1 : Int32)) h (by decide) dX9_faultOf_43 rfl ?_
                refine g_goto h dX9_faultOf_44 (np := 93) rfl ?_
                refine g_lv [1, 2, 3, 0] rfl ?_
                exact hL93 x1 x2 (rd v_pad x2) (1 : Int32) hF
  unfold fX9_faultOf at hF
  refine g_iconst (np := 1) (v := (0 : Int32)) h (by decide) dX9_faultOf_0 rfl ?_
  refine g_istore_n (np := 2) (lv' := [(1, .int (0 : Int32)), (0, .ref q0)]) h rfl (by decide) rfl dX9_faultOf_1 rfl ?_
  refine g_iconst (np := 3) (v := (0 : Int32)) h (by decide) dX9_faultOf_2 rfl ?_
  refine g_istore_n (np := 4) (lv' := [(2, .int (0 : Int32)), (1, .int (0 : Int32)), (0, .ref q0)]) h rfl (by decide) rfl dX9_faultOf_3 rfl ?_
  refine g_lv [2, 1, 0] rfl ?_
  exact hL4 _ (0 : Int32) (0 : Int32) hF
theorem dX9_fault_0 : decode cX9_fault 0 = .ok (.aload_n 0, 1) := by decide +kernel
theorem dX9_fault_1 : decode cX9_fault 1 = .ok (.invokevirtual 60, 3) := by decide +kernel
theorem dX9_fault_4 : decode cX9_fault 4 = .ok (.ireturn, 1) := by decide +kernel
def wtX9_fault : List Cond := .code yX9_fault cX9_fault 1 (some .int) :: (([]) ++ ((wsV RX9 60 RX9 yX9_faultOf wtX9_faultOf) ++ []))
theorem imX9_fault_own : ∀ w ∈ ([] : List Cond), w ∈ wtX9_fault := fun w h => List.mem_cons_of_mem _ (inl h)
theorem imX9_fault_c_X9_faultOf : ∀ w ∈ (wsV RX9 60 RX9 yX9_faultOf wtX9_faultOf : List Cond), w ∈ wtX9_fault := fun w h => List.mem_cons_of_mem _ (inr (inl h))
theorem gdX9_fault : ∀ w ∈ wtX9_fault, Gd w := gdc rfl (gda (gdl (by decide +kernel)) (gda (gda (gdl (by decide +kernel)) gdX9_faultOf) gdn))
theorem gcX9_fault_X9_faultOf : GoodIn wtX9_fault (wsV RX9 60 RX9 yX9_faultOf wtX9_faultOf) := fun w h => ⟨imX9_fault_c_X9_faultOf w h, (gda (gdl (by decide +kernel)) gdX9_faultOf) w h⟩
def fX9_fault (v_signs : Int32) (v_pad : Nat → Int32) : Option (Int32) :=
  (fX9_faultOf v_signs v_pad).bind (fun r1 =>
    some r1)
def wdX9_fault (cI cZ : ClassId) (q0 : Nat) (q1 : Nat) (d2 : Nat) (d3 : Nat) (d4 : Nat) (d5 : Nat) (d6 : Nat) (d7 : Nat) (d8 : Nat) (d9 : Nat) (d10 : Nat)  (v_signs : Int32) (v_pad : Nat → Int32) (v_sights : Int32) (v_weddings : Int32) (v_reason : Int32) (v_acts : Int32) : va_W := [(q0, .inr (9, [.ref d2, .ref d3, .ref d4, .int v_sights, .ref d5, .int v_signs, .ref q1, .int v_weddings, .int v_reason, .int v_acts, .ref d6, .ref d7, .ref d8, .ref d9, .ref d10])), (q1, .inl (cI, 60, .inl v_pad))]
abbrev rmX9_fault : Jvm.Room := { frames := 3, cells := 0, slots := 0, locals := 66 }
theorem hyX9_fault : yX9_fault.cls ≠ "java/lang/invoke/MethodHandle" ∧ yX9_fault.cls ≠ "java/lang/invoke/VarHandle" ∧ (parseMethodDescriptor yX9_fault.desc).map (fun d => d.parameters.length) = some 0 := by decide +kernel
set_option maxHeartbeats 4000000 in
set_option maxRecDepth 100000 in
theorem mX9_fault (l : Launch) (D : va_G) (cI cZ : ClassId) (q0 : Nat) (q1 : Nat) (d2 : Nat) (d3 : Nat) (d4 : Nat) (d5 : Nat) (d6 : Nat) (d7 : Nat) (d8 : Nat) (d9 : Nat) (d10 : Nat) (v_signs : Int32) (v_pad : Nat → Int32) (v_sights : Int32) (v_weddings : Int32) (v_reason : Int32) (v_acts : Int32) (z : Int32) (hF : fX9_fault v_signs v_pad = some z) : mp l yX9_fault wtX9_fault rmX9_fault D cI cZ [.ref q0] (wdX9_fault cI cZ q0 q1 d2 d3 d4 d5 d6 d7 d8 d9 d10 v_signs v_pad v_sights v_weddings v_reason v_acts) (some (.int z)) (wdX9_fault cI cZ q0 q1 d2 d3 d4 d5 d6 d7 d8 d9 d10 v_signs v_pad v_sights v_weddings v_reason v_acts) := by
  refine mp_i (lv0 := [(0, .ref q0)]) cX9_fault 1 z (by decide) rfl (Nat.le_of_ble_eq_true rfl) rfl (fun E h hend0 => ?_)
  have hend : ∀ (z' : Int32), some z' = some z → ∀ (pc : Nat) (lv : List (Nat × Value)), decode cX9_fault pc = .ok (.ireturn, 1) → G l D E 1 0 0 (wdX9_fault cI cZ q0 q1 d2 d3 d4 d5 d6 d7 d8 d9 d10 v_signs v_pad v_sights v_weddings v_reason v_acts) pc lv [.int z'] := fun z' e => by cases e; exact hend0
  clear hend0
  unfold fX9_fault at hF
  refine g_aload_n (np := 1) h 0 rfl rfl dX9_fault_0 rfl ?_
  obtain ⟨r1, hr1, hF⟩ := Option.bind_eq_some_iff.mp hF
  refine g_callV (np := 4) (Wd' := (wdX9_fault cI cZ q0 q1 d2 d3 d4 d5 d6 d7 d8 d9 d10 v_signs v_pad v_sights v_weddings v_reason v_acts)) (As := []) h (mX9_faultOf l D cI cZ q0 q1 d2 d3 d4 d5 d6 d7 d8 d9 d10 v_signs v_pad v_sights v_weddings v_reason v_acts r1 hr1) gcX9_fault_X9_faultOf rfl ⟨rfl, rfl⟩ ⟨rfl, hyX9_faultOf⟩ rfl 9 0 rfl rfl rfl rfl rfl rfl ⟨Nat.zero_le _, Nat.zero_le _⟩ [0, 1] [] (N := 2) (by decide +kernel) rfl rfl rfl rfl rfl dX9_fault_1 rfl ?_
  exact hend _ hF _ _ dX9_fault_4
theorem dX9_asNow_0 : decode cX9_asNow 0 = .ok (.iconst 0, 1) := by decide +kernel
theorem dX9_asNow_1 : decode cX9_asNow 1 = .ok (.istore_n 1, 1) := by decide +kernel
theorem dX9_asNow_2 : decode cX9_asNow 2 = .ok (.iload_n 1, 1) := by decide +kernel
theorem dX9_asNow_3 : decode cX9_asNow 3 = .ok (.bipush 35, 2) := by decide +kernel
theorem dX9_asNow_5 : decode cX9_asNow 5 = .ok (.if_icmp .ge 21, 3) := by decide +kernel
theorem dX9_asNow_8 : decode cX9_asNow 8 = .ok (.aload_n 0, 1) := by decide +kernel
theorem dX9_asNow_9 : decode cX9_asNow 9 = .ok (.getfield 13, 3) := by decide +kernel
theorem dX9_asNow_12 : decode cX9_asNow 12 = .ok (.iload_n 1, 1) := by decide +kernel
theorem dX9_asNow_13 : decode cX9_asNow 13 = .ok (.aload_n 0, 1) := by decide +kernel
theorem dX9_asNow_14 : decode cX9_asNow 14 = .ok (.getfield 7, 3) := by decide +kernel
theorem dX9_asNow_17 : decode cX9_asNow 17 = .ok (.iload_n 1, 1) := by decide +kernel
theorem dX9_asNow_18 : decode cX9_asNow 18 = .ok (.iaload, 1) := by decide +kernel
theorem dX9_asNow_19 : decode cX9_asNow 19 = .ok (.iastore, 1) := by decide +kernel
theorem dX9_asNow_20 : decode cX9_asNow 20 = .ok (.iinc 1 1, 3) := by decide +kernel
theorem dX9_asNow_23 : decode cX9_asNow 23 = .ok (.goto (-21), 3) := by decide +kernel
theorem dX9_asNow_26 : decode cX9_asNow 26 = .ok (.aload_n 0, 1) := by decide +kernel
theorem dX9_asNow_27 : decode cX9_asNow 27 = .ok (.iconst 0, 1) := by decide +kernel
theorem dX9_asNow_28 : decode cX9_asNow 28 = .ok (.putfield 64, 3) := by decide +kernel
theorem dX9_asNow_31 : decode cX9_asNow 31 = .ok (.return_, 1) := by decide +kernel
def wtX9_asNow : List Cond := .code yX9_asNow cX9_asNow 2 none :: (([.fieldLink RX9 13 "DriftKinModel" "now" "[I", .fieldLink RX9 7 "DriftKinModel" "book" "[I", .fieldLink RX9 64 "DriftKinModel" "weddings" "I"]) ++ ((u_ws RX9 TX9 15) ++ []))
theorem imX9_asNow_own : ∀ w ∈ ([.fieldLink RX9 13 "DriftKinModel" "now" "[I", .fieldLink RX9 7 "DriftKinModel" "book" "[I", .fieldLink RX9 64 "DriftKinModel" "weddings" "I"] : List Cond), w ∈ wtX9_asNow := fun w h => List.mem_cons_of_mem _ (inl h)
theorem imX9_asNow_u_X9 : ∀ w ∈ (u_ws RX9 TX9 15 : List Cond), w ∈ wtX9_asNow := fun w h => List.mem_cons_of_mem _ (inr (inl h))
theorem gdX9_asNow : ∀ w ∈ wtX9_asNow, Gd w := gdc rfl (gda (gdl (by decide +kernel)) (gda (gdu _ _ _) gdn))
def fX9_asNow_2 (v_weddings : Int32) (v_book : Nat → Int32) : Nat → (Nat → Int32) → Int32 → Option (Int32 × (Nat → Int32))
  | 0, _, _ => none
  | n + 1, v_now, x1 =>
    if (35 : Int32) ≤ x1 then
      some ((0 : Int32), v_now)
    else
      chk x1 35 (
        chk x1 35 (
          fX9_asNow_2 v_weddings v_book n (wr v_now x1 (rd v_book x1)) (x1 + (1 : Int32))))
def fX9_asNow (v_weddings : Int32) (v_book : Nat → Int32) (v_now : Nat → Int32) : Option (Int32 × (Nat → Int32)) :=
  fX9_asNow_2 v_weddings v_book 2000 v_now (0 : Int32)
def wdX9_asNow (cI cZ : ClassId) (q0 : Nat) (q1 : Nat) (q2 : Nat) (d3 : Nat) (d4 : Nat) (d5 : Nat) (d6 : Nat) (d7 : Nat) (d8 : Nat) (d9 : Nat) (d10 : Nat)  (v_weddings : Int32) (v_book : Nat → Int32) (v_now : Nat → Int32) (v_sights : Int32) (v_signs : Int32) (v_reason : Int32) (v_acts : Int32) : va_W := [(q0, .inr (9, [.ref q1, .ref q2, .ref d3, .int v_sights, .ref d4, .int v_signs, .ref d5, .int v_weddings, .int v_reason, .int v_acts, .ref d6, .ref d7, .ref d8, .ref d9, .ref d10])), (q1, .inl (cI, 35, .inl v_book)), (q2, .inl (cI, 35, .inl v_now))]
abbrev rmX9_asNow : Jvm.Room := { frames := 0, cells := 0, slots := 0, locals := 0 }
theorem hyX9_asNow : yX9_asNow.cls ≠ "java/lang/invoke/MethodHandle" ∧ yX9_asNow.cls ≠ "java/lang/invoke/VarHandle" ∧ (parseMethodDescriptor yX9_asNow.desc).map (fun d => d.parameters.length) = some 0 := by decide +kernel
set_option maxHeartbeats 4000000 in
set_option maxRecDepth 100000 in
theorem mX9_asNow (l : Launch) (D : va_G) (cI cZ : ClassId) (q0 : Nat) (q1 : Nat) (q2 : Nat) (d3 : Nat) (d4 : Nat) (d5 : Nat) (d6 : Nat) (d7 : Nat) (d8 : Nat) (d9 : Nat) (d10 : Nat) (v_weddings : Int32) (v_book : Nat → Int32) (v_now : Nat → Int32) (v_sights : Int32) (v_signs : Int32) (v_reason : Int32) (v_acts : Int32) (z : Int32 × (Nat → Int32)) (hF : fX9_asNow v_weddings v_book v_now = some z) : mp l yX9_asNow wtX9_asNow rmX9_asNow D cI cZ [.ref q0] (wdX9_asNow cI cZ q0 q1 q2 d3 d4 d5 d6 d7 d8 d9 d10 v_weddings v_book v_now v_sights v_signs v_reason v_acts) none (wdX9_asNow cI cZ q0 q1 q2 d3 d4 d5 d6 d7 d8 d9 d10 z.1 v_book z.2 v_sights v_signs v_reason v_acts) := by
  refine mp_v (lv0 := [(0, .ref q0)]) cX9_asNow 2 (by decide) rfl (Nat.le_of_ble_eq_true rfl) rfl (fun E h hend0 => ?_)
  have hend : ∀ (z' : Int32 × (Nat → Int32)), some z' = some z → ∀ (pc : Nat) (lv : List (Nat × Value)), decode cX9_asNow pc = .ok (.return_, 1) → G l D E 2 0 0 (wdX9_asNow cI cZ q0 q1 q2 d3 d4 d5 d6 d7 d8 d9 d10 (z'.1) v_book (z'.2) v_sights v_signs v_reason v_acts) pc lv [] := fun z' e => by cases e; exact hend0
  clear hend0
  have hL2 : ∀ (n2 : Nat) (v_weddings : Int32) (v_now : Nat → Int32) (x1 : Int32), fX9_asNow_2 v_weddings v_book n2 v_now x1 = some z → G l D E 2 0 0 (wdX9_asNow cI cZ q0 q1 q2 d3 d4 d5 d6 d7 d8 d9 d10 v_weddings v_book v_now v_sights v_signs v_reason v_acts) 2 [(0, .ref q0), (1, .int x1)] [] := by
    intro n2
    induction n2 with
    | zero =>
      intro v_weddings v_now x1 hF
      rw [fX9_asNow_2] at hF
      cases hF
    | succ n2 ih2 =>
      intro v_weddings v_now x1 hF
      rw [fX9_asNow_2] at hF
      refine g_iload_n (np := 3) h 1 rfl rfl dX9_asNow_2 rfl ?_
      refine g_bipush (np := 5) (v := (35 : Int32)) h (by decide) dX9_asNow_3 rfl ?_
      refine g_icmp_ge h hF dX9_asNow_5 (np := 8) rfl (tg := 26) rfl (fun c1001 hF => ?_) (fun c1001 hF => ?_)
      · refine g_aload_n (np := 27) h 0 rfl rfl dX9_asNow_26 rfl ?_
        refine g_iconst (np := 28) (v := (0 : Int32)) h (by decide) dX9_asNow_27 rfl ?_
        refine g_put (np := 31) (T := TX9) (Wd' := (wdX9_asNow cI cZ q0 q1 q2 d3 d4 d5 d6 d7 d8 d9 d10 (0 : Int32) v_book v_now v_sights v_signs v_reason v_acts)) h imX9_asNow_u_X9 tyX9_ok nmX9 0 9 rfl rfl 7 (by decide) (imX9_asNow_own _ (List.mem_of_getElem? (i := 2) rfl)) rfl rfl rfl (Nat.le_of_ble_eq_true rfl) rfl dX9_asNow_28 rfl ?_
        exact hend _ hF _ _ dX9_asNow_31
      · refine g_aload_n (np := 9) h 0 rfl rfl dX9_asNow_8 rfl ?_
        refine g_get (np := 12) (T := TX9) h imX9_asNow_u_X9 0 9 rfl rfl 1 (by decide) (imX9_asNow_own _ (List.mem_of_getElem? (i := 0) rfl)) rfl dX9_asNow_9 rfl ?_
        refine g_iload_n (np := 13) h 1 rfl rfl dX9_asNow_12 rfl ?_
        refine g_aload_n (np := 14) h 0 rfl rfl dX9_asNow_13 rfl ?_
        refine g_get (np := 17) (T := TX9) h imX9_asNow_u_X9 0 9 rfl rfl 0 (by decide) (imX9_asNow_own _ (List.mem_of_getElem? (i := 1) rfl)) rfl dX9_asNow_14 rfl ?_
        refine g_iload_n (np := 18) h 1 rfl rfl dX9_asNow_17 rfl ?_
        refine g_iald (np := 19) h 1 rfl hF dX9_asNow_18 rfl (fun hi1002 hF => ?_)
        refine g_iast (np := 20) (Wd' := (wdX9_asNow cI cZ q0 q1 q2 d3 d4 d5 d6 d7 d8 d9 d10 v_weddings v_book (wr v_now x1 (rd v_book x1)) v_sights v_signs v_reason v_acts)) h 2 rfl hF rfl dX9_asNow_19 rfl (fun hi1003 hF => ?_)
        refine g_iinc (np := 23) (v := (x1 + (1 : Int32))) (lv' := [(1, .int (x1 + (1 : Int32))), (0, .ref q0)]) h 1 rfl rfl (by decide) rfl dX9_asNow_20 rfl ?_
        refine g_goto h dX9_asNow_23 (np := 2) rfl ?_
        refine g_lv [1, 0] rfl ?_
        exact ih2 v_weddings (wr v_now x1 (rd v_book x1)) (x1 + (1 : Int32)) hF
  unfold fX9_asNow at hF
  refine g_iconst (np := 1) (v := (0 : Int32)) h (by decide) dX9_asNow_0 rfl ?_
  refine g_istore_n (np := 2) (lv' := [(1, .int (0 : Int32)), (0, .ref q0)]) h rfl (by decide) rfl dX9_asNow_1 rfl ?_
  refine g_lv [1, 0] rfl ?_
  exact hL2 _ v_weddings v_now (0 : Int32) hF
theorem dX9_comeIn_0 : decode cX9_comeIn 0 = .ok (.aload_n 0, 1) := by decide +kernel
theorem dX9_comeIn_1 : decode cX9_comeIn 1 = .ok (.getfield 13, 3) := by decide +kernel
theorem dX9_comeIn_4 : decode cX9_comeIn 4 = .ok (.iload_n 1, 1) := by decide +kernel
theorem dX9_comeIn_5 : decode cX9_comeIn 5 = .ok (.iaload, 1) := by decide +kernel
theorem dX9_comeIn_6 : decode cX9_comeIn 6 = .ok (.ifCond .eq 5, 3) := by decide +kernel
theorem dX9_comeIn_9 : decode cX9_comeIn 9 = .ok (.iconst 1, 1) := by decide +kernel
theorem dX9_comeIn_10 : decode cX9_comeIn 10 = .ok (.ireturn, 1) := by decide +kernel
theorem dX9_comeIn_11 : decode cX9_comeIn 11 = .ok (.aload_n 0, 1) := by decide +kernel
theorem dX9_comeIn_12 : decode cX9_comeIn 12 = .ok (.getfield 13, 3) := by decide +kernel
theorem dX9_comeIn_15 : decode cX9_comeIn 15 = .ok (.iload_n 1, 1) := by decide +kernel
theorem dX9_comeIn_16 : decode cX9_comeIn 16 = .ok (.iconst 1, 1) := by decide +kernel
theorem dX9_comeIn_17 : decode cX9_comeIn 17 = .ok (.iastore, 1) := by decide +kernel
theorem dX9_comeIn_18 : decode cX9_comeIn 18 = .ok (.iconst 0, 1) := by decide +kernel
theorem dX9_comeIn_19 : decode cX9_comeIn 19 = .ok (.ireturn, 1) := by decide +kernel
def wtX9_comeIn : List Cond := .code yX9_comeIn cX9_comeIn 2 (some .int) :: (([.fieldLink RX9 13 "DriftKinModel" "now" "[I"]) ++ ((u_ws RX9 TX9 15) ++ []))
theorem imX9_comeIn_own : ∀ w ∈ ([.fieldLink RX9 13 "DriftKinModel" "now" "[I"] : List Cond), w ∈ wtX9_comeIn := fun w h => List.mem_cons_of_mem _ (inl h)
theorem imX9_comeIn_u_X9 : ∀ w ∈ (u_ws RX9 TX9 15 : List Cond), w ∈ wtX9_comeIn := fun w h => List.mem_cons_of_mem _ (inr (inl h))
theorem gdX9_comeIn : ∀ w ∈ wtX9_comeIn, Gd w := gdc rfl (gda (gdl (by decide +kernel)) (gda (gdu _ _ _) gdn))
def fX9_comeIn (v_now : Nat → Int32) (x1 : Int32) : Option (Int32 × (Nat → Int32)) :=
  chk x1 35 (
    if (rd v_now x1) = (0 : Int32) then
      chk x1 35 (
        some ((0 : Int32), (wr v_now x1 (1 : Int32))))
    else
      some ((1 : Int32), v_now))
def wdX9_comeIn (cI cZ : ClassId) (q0 : Nat) (q1 : Nat) (d2 : Nat) (d3 : Nat) (d4 : Nat) (d5 : Nat) (d6 : Nat) (d7 : Nat) (d8 : Nat) (d9 : Nat) (d10 : Nat)  (v_now : Nat → Int32) (v_sights : Int32) (v_signs : Int32) (v_weddings : Int32) (v_reason : Int32) (v_acts : Int32) : va_W := [(q0, .inr (9, [.ref d2, .ref q1, .ref d3, .int v_sights, .ref d4, .int v_signs, .ref d5, .int v_weddings, .int v_reason, .int v_acts, .ref d6, .ref d7, .ref d8, .ref d9, .ref d10])), (q1, .inl (cI, 35, .inl v_now))]
abbrev rmX9_comeIn : Jvm.Room := { frames := 0, cells := 0, slots := 0, locals := 0 }
theorem hyX9_comeIn : yX9_comeIn.cls ≠ "java/lang/invoke/MethodHandle" ∧ yX9_comeIn.cls ≠ "java/lang/invoke/VarHandle" ∧ (parseMethodDescriptor yX9_comeIn.desc).map (fun d => d.parameters.length) = some 1 := by decide +kernel
set_option maxHeartbeats 4000000 in
set_option maxRecDepth 100000 in
theorem mX9_comeIn (l : Launch) (D : va_G) (cI cZ : ClassId) (q0 : Nat) (q1 : Nat) (d2 : Nat) (d3 : Nat) (d4 : Nat) (d5 : Nat) (d6 : Nat) (d7 : Nat) (d8 : Nat) (d9 : Nat) (d10 : Nat) (v_now : Nat → Int32) (v_sights : Int32) (v_signs : Int32) (v_weddings : Int32) (v_reason : Int32) (v_acts : Int32) (x1 : Int32) (z : Int32 × (Nat → Int32)) (hF : fX9_comeIn v_now x1 = some z) : mp l yX9_comeIn wtX9_comeIn rmX9_comeIn D cI cZ [.ref q0, .int x1] (wdX9_comeIn cI cZ q0 q1 d2 d3 d4 d5 d6 d7 d8 d9 d10 v_now v_sights v_signs v_weddings v_reason v_acts) (some (.int z.1)) (wdX9_comeIn cI cZ q0 q1 d2 d3 d4 d5 d6 d7 d8 d9 d10 z.2 v_sights v_signs v_weddings v_reason v_acts) := by
  refine mp_i (lv0 := [(0, .ref q0), (1, .int x1)]) cX9_comeIn 2 z.1 (by decide) rfl (Nat.le_of_ble_eq_true rfl) rfl (fun E h hend0 => ?_)
  have hend : ∀ (z' : Int32 × (Nat → Int32)), some z' = some z → ∀ (pc : Nat) (lv : List (Nat × Value)), decode cX9_comeIn pc = .ok (.ireturn, 1) → G l D E 2 0 0 (wdX9_comeIn cI cZ q0 q1 d2 d3 d4 d5 d6 d7 d8 d9 d10 (z'.2) v_sights v_signs v_weddings v_reason v_acts) pc lv [.int z'.1] := fun z' e => by cases e; exact hend0
  clear hend0
  unfold fX9_comeIn at hF
  refine g_aload_n (np := 1) h 0 rfl rfl dX9_comeIn_0 rfl ?_
  refine g_get (np := 4) (T := TX9) h imX9_comeIn_u_X9 0 9 rfl rfl 1 (by decide) (imX9_comeIn_own _ (List.mem_of_getElem? (i := 0) rfl)) rfl dX9_comeIn_1 rfl ?_
  refine g_iload_n (np := 5) h 1 rfl rfl dX9_comeIn_4 rfl ?_
  refine g_iald (np := 6) h 1 rfl hF dX9_comeIn_5 rfl (fun hi1 hF => ?_)
  refine g_if_eq h hF dX9_comeIn_6 (np := 9) rfl (tg := 11) rfl (fun c2 hF => ?_) (fun c2 hF => ?_)
  · refine g_aload_n (np := 12) h 0 rfl rfl dX9_comeIn_11 rfl ?_
    refine g_get (np := 15) (T := TX9) h imX9_comeIn_u_X9 0 9 rfl rfl 1 (by decide) (imX9_comeIn_own _ (List.mem_of_getElem? (i := 0) rfl)) rfl dX9_comeIn_12 rfl ?_
    refine g_iload_n (np := 16) h 1 rfl rfl dX9_comeIn_15 rfl ?_
    refine g_iconst (np := 17) (v := (1 : Int32)) h (by decide) dX9_comeIn_16 rfl ?_
    refine g_iast (np := 18) (Wd' := (wdX9_comeIn cI cZ q0 q1 d2 d3 d4 d5 d6 d7 d8 d9 d10 (wr v_now x1 (1 : Int32)) v_sights v_signs v_weddings v_reason v_acts)) h 1 rfl hF rfl dX9_comeIn_17 rfl (fun hi3 hF => ?_)
    refine g_iconst (np := 19) (v := (0 : Int32)) h (by decide) dX9_comeIn_18 rfl ?_
    exact hend _ hF _ _ dX9_comeIn_19
  · refine g_iconst (np := 10) (v := (1 : Int32)) h (by decide) dX9_comeIn_9 rfl ?_
    exact hend _ hF _ _ dX9_comeIn_10
theorem dX9_take_0 : decode cX9_take 0 = .ok (.aload_n 0, 1) := by decide +kernel
theorem dX9_take_1 : decode cX9_take 1 = .ok (.getfield 13, 3) := by decide +kernel
theorem dX9_take_4 : decode cX9_take 4 = .ok (.iload_n 2, 1) := by decide +kernel
theorem dX9_take_5 : decode cX9_take 5 = .ok (.iaload, 1) := by decide +kernel
theorem dX9_take_6 : decode cX9_take 6 = .ok (.iconst 1, 1) := by decide +kernel
theorem dX9_take_7 : decode cX9_take 7 = .ok (.if_icmp .eq 5, 3) := by decide +kernel
theorem dX9_take_10 : decode cX9_take 10 = .ok (.iconst 1, 1) := by decide +kernel
theorem dX9_take_11 : decode cX9_take 11 = .ok (.ireturn, 1) := by decide +kernel
theorem dX9_take_12 : decode cX9_take 12 = .ok (.aload_n 0, 1) := by decide +kernel
theorem dX9_take_13 : decode cX9_take 13 = .ok (.getfield 13, 3) := by decide +kernel
theorem dX9_take_16 : decode cX9_take 16 = .ok (.bipush 10, 2) := by decide +kernel
theorem dX9_take_18 : decode cX9_take 18 = .ok (.iload_n 1, 1) := by decide +kernel
theorem dX9_take_19 : decode cX9_take 19 = .ok (.iadd, 1) := by decide +kernel
theorem dX9_take_20 : decode cX9_take 20 = .ok (.iaload, 1) := by decide +kernel
theorem dX9_take_21 : decode cX9_take 21 = .ok (.ifCond .lt 5, 3) := by decide +kernel
theorem dX9_take_24 : decode cX9_take 24 = .ok (.iconst 2, 1) := by decide +kernel
theorem dX9_take_25 : decode cX9_take 25 = .ok (.ireturn, 1) := by decide +kernel
theorem dX9_take_26 : decode cX9_take 26 = .ok (.aload_n 0, 1) := by decide +kernel
theorem dX9_take_27 : decode cX9_take 27 = .ok (.getfield 13, 3) := by decide +kernel
theorem dX9_take_30 : decode cX9_take 30 = .ok (.iload_n 2, 1) := by decide +kernel
theorem dX9_take_31 : decode cX9_take 31 = .ok (.iconst 2, 1) := by decide +kernel
theorem dX9_take_32 : decode cX9_take 32 = .ok (.iastore, 1) := by decide +kernel
theorem dX9_take_33 : decode cX9_take 33 = .ok (.aload_n 0, 1) := by decide +kernel
theorem dX9_take_34 : decode cX9_take 34 = .ok (.getfield 13, 3) := by decide +kernel
theorem dX9_take_37 : decode cX9_take 37 = .ok (.bipush 10, 2) := by decide +kernel
theorem dX9_take_39 : decode cX9_take 39 = .ok (.iload_n 1, 1) := by decide +kernel
theorem dX9_take_40 : decode cX9_take 40 = .ok (.iadd, 1) := by decide +kernel
theorem dX9_take_41 : decode cX9_take 41 = .ok (.iload_n 2, 1) := by decide +kernel
theorem dX9_take_42 : decode cX9_take 42 = .ok (.iastore, 1) := by decide +kernel
theorem dX9_take_43 : decode cX9_take 43 = .ok (.iconst 0, 1) := by decide +kernel
theorem dX9_take_44 : decode cX9_take 44 = .ok (.ireturn, 1) := by decide +kernel
def wtX9_take : List Cond := .code yX9_take cX9_take 3 (some .int) :: (([.fieldLink RX9 13 "DriftKinModel" "now" "[I"]) ++ ((u_ws RX9 TX9 15) ++ []))
theorem imX9_take_own : ∀ w ∈ ([.fieldLink RX9 13 "DriftKinModel" "now" "[I"] : List Cond), w ∈ wtX9_take := fun w h => List.mem_cons_of_mem _ (inl h)
theorem imX9_take_u_X9 : ∀ w ∈ (u_ws RX9 TX9 15 : List Cond), w ∈ wtX9_take := fun w h => List.mem_cons_of_mem _ (inr (inl h))
theorem gdX9_take : ∀ w ∈ wtX9_take, Gd w := gdc rfl (gda (gdl (by decide +kernel)) (gda (gdu _ _ _) gdn))
def fX9_take (v_now : Nat → Int32) (x1 : Int32) (x2 : Int32) : Option (Int32 × (Nat → Int32)) :=
  chk x2 35 (
    if (rd v_now x2) = (1 : Int32) then
      chk ((10 : Int32) + x1) 35 (
        if (rd v_now ((10 : Int32) + x1)) < (0 : Int32) then
          chk x2 35 (
            chk ((10 : Int32) + x1) 35 (
              some ((0 : Int32), (wr (wr v_now x2 (2 : Int32)) ((10 : Int32) + x1) x2))))
        else
          some ((2 : Int32), v_now))
    else
      some ((1 : Int32), v_now))
def wdX9_take (cI cZ : ClassId) (q0 : Nat) (q1 : Nat) (d2 : Nat) (d3 : Nat) (d4 : Nat) (d5 : Nat) (d6 : Nat) (d7 : Nat) (d8 : Nat) (d9 : Nat) (d10 : Nat)  (v_now : Nat → Int32) (v_sights : Int32) (v_signs : Int32) (v_weddings : Int32) (v_reason : Int32) (v_acts : Int32) : va_W := [(q0, .inr (9, [.ref d2, .ref q1, .ref d3, .int v_sights, .ref d4, .int v_signs, .ref d5, .int v_weddings, .int v_reason, .int v_acts, .ref d6, .ref d7, .ref d8, .ref d9, .ref d10])), (q1, .inl (cI, 35, .inl v_now))]
abbrev rmX9_take : Jvm.Room := { frames := 0, cells := 0, slots := 0, locals := 0 }
theorem hyX9_take : yX9_take.cls ≠ "java/lang/invoke/MethodHandle" ∧ yX9_take.cls ≠ "java/lang/invoke/VarHandle" ∧ (parseMethodDescriptor yX9_take.desc).map (fun d => d.parameters.length) = some 2 := by decide +kernel
set_option maxHeartbeats 4000000 in
set_option maxRecDepth 100000 in
theorem mX9_take (l : Launch) (D : va_G) (cI cZ : ClassId) (q0 : Nat) (q1 : Nat) (d2 : Nat) (d3 : Nat) (d4 : Nat) (d5 : Nat) (d6 : Nat) (d7 : Nat) (d8 : Nat) (d9 : Nat) (d10 : Nat) (v_now : Nat → Int32) (v_sights : Int32) (v_signs : Int32) (v_weddings : Int32) (v_reason : Int32) (v_acts : Int32) (x1 : Int32) (x2 : Int32) (z : Int32 × (Nat → Int32)) (hF : fX9_take v_now x1 x2 = some z) : mp l yX9_take wtX9_take rmX9_take D cI cZ [.ref q0, .int x1, .int x2] (wdX9_take cI cZ q0 q1 d2 d3 d4 d5 d6 d7 d8 d9 d10 v_now v_sights v_signs v_weddings v_reason v_acts) (some (.int z.1)) (wdX9_take cI cZ q0 q1 d2 d3 d4 d5 d6 d7 d8 d9 d10 z.2 v_sights v_signs v_weddings v_reason v_acts) := by
  refine mp_i (lv0 := [(0, .ref q0), (1, .int x1), (2, .int x2)]) cX9_take 3 z.1 (by decide) rfl (Nat.le_of_ble_eq_true rfl) rfl (fun E h hend0 => ?_)
  have hend : ∀ (z' : Int32 × (Nat → Int32)), some z' = some z → ∀ (pc : Nat) (lv : List (Nat × Value)), decode cX9_take pc = .ok (.ireturn, 1) → G l D E 3 0 0 (wdX9_take cI cZ q0 q1 d2 d3 d4 d5 d6 d7 d8 d9 d10 (z'.2) v_sights v_signs v_weddings v_reason v_acts) pc lv [.int z'.1] := fun z' e => by cases e; exact hend0
  clear hend0
  unfold fX9_take at hF
  refine g_aload_n (np := 1) h 0 rfl rfl dX9_take_0 rfl ?_
  refine g_get (np := 4) (T := TX9) h imX9_take_u_X9 0 9 rfl rfl 1 (by decide) (imX9_take_own _ (List.mem_of_getElem? (i := 0) rfl)) rfl dX9_take_1 rfl ?_
  refine g_iload_n (np := 5) h 2 rfl rfl dX9_take_4 rfl ?_
  refine g_iald (np := 6) h 1 rfl hF dX9_take_5 rfl (fun hi1 hF => ?_)
  refine g_iconst (np := 7) (v := (1 : Int32)) h (by decide) dX9_take_6 rfl ?_
  refine g_icmp_eq h hF dX9_take_7 (np := 10) rfl (tg := 12) rfl (fun c2 hF => ?_) (fun c2 hF => ?_)
  · refine g_aload_n (np := 13) h 0 rfl rfl dX9_take_12 rfl ?_
    refine g_get (np := 16) (T := TX9) h imX9_take_u_X9 0 9 rfl rfl 1 (by decide) (imX9_take_own _ (List.mem_of_getElem? (i := 0) rfl)) rfl dX9_take_13 rfl ?_
    refine g_bipush (np := 18) (v := (10 : Int32)) h (by decide) dX9_take_16 rfl ?_
    refine g_iload_n (np := 19) h 1 rfl rfl dX9_take_18 rfl ?_
    refine g_iadd (np := 20) h dX9_take_19 rfl ?_
    refine g_iald (np := 21) h 1 rfl hF dX9_take_20 rfl (fun hi3 hF => ?_)
    refine g_if_lt h hF dX9_take_21 (np := 24) rfl (tg := 26) rfl (fun c4 hF => ?_) (fun c4 hF => ?_)
    · refine g_aload_n (np := 27) h 0 rfl rfl dX9_take_26 rfl ?_
      refine g_get (np := 30) (T := TX9) h imX9_take_u_X9 0 9 rfl rfl 1 (by decide) (imX9_take_own _ (List.mem_of_getElem? (i := 0) rfl)) rfl dX9_take_27 rfl ?_
      refine g_iload_n (np := 31) h 2 rfl rfl dX9_take_30 rfl ?_
      refine g_iconst (np := 32) (v := (2 : Int32)) h (by decide) dX9_take_31 rfl ?_
      refine g_iast (np := 33) (Wd' := (wdX9_take cI cZ q0 q1 d2 d3 d4 d5 d6 d7 d8 d9 d10 (wr v_now x2 (2 : Int32)) v_sights v_signs v_weddings v_reason v_acts)) h 1 rfl hF rfl dX9_take_32 rfl (fun hi5 hF => ?_)
      refine g_aload_n (np := 34) h 0 rfl rfl dX9_take_33 rfl ?_
      refine g_get (np := 37) (T := TX9) h imX9_take_u_X9 0 9 rfl rfl 1 (by decide) (imX9_take_own _ (List.mem_of_getElem? (i := 0) rfl)) rfl dX9_take_34 rfl ?_
      refine g_bipush (np := 39) (v := (10 : Int32)) h (by decide) dX9_take_37 rfl ?_
      refine g_iload_n (np := 40) h 1 rfl rfl dX9_take_39 rfl ?_
      refine g_iadd (np := 41) h dX9_take_40 rfl ?_
      refine g_iload_n (np := 42) h 2 rfl rfl dX9_take_41 rfl ?_
      refine g_iast (np := 43) (Wd' := (wdX9_take cI cZ q0 q1 d2 d3 d4 d5 d6 d7 d8 d9 d10 (wr (wr v_now x2 (2 : Int32)) ((10 : Int32) + x1) x2) v_sights v_signs v_weddings v_reason v_acts)) h 1 rfl hF rfl dX9_take_42 rfl (fun hi6 hF => ?_)
      refine g_iconst (np := 44) (v := (0 : Int32)) h (by decide) dX9_take_43 rfl ?_
      exact hend _ hF _ _ dX9_take_44
    · refine g_iconst (np := 25) (v := (2 : Int32)) h (by decide) dX9_take_24 rfl ?_
      exact hend _ hF _ _ dX9_take_25
  · refine g_iconst (np := 11) (v := (1 : Int32)) h (by decide) dX9_take_10 rfl ?_
    exact hend _ hF _ _ dX9_take_11
theorem dX9_wed_0 : decode cX9_wed 0 = .ok (.aload_n 0, 1) := by decide +kernel
theorem dX9_wed_1 : decode cX9_wed 1 = .ok (.getfield 13, 3) := by decide +kernel
theorem dX9_wed_4 : decode cX9_wed 4 = .ok (.bipush 10, 2) := by decide +kernel
theorem dX9_wed_6 : decode cX9_wed 6 = .ok (.iload_n 1, 1) := by decide +kernel
theorem dX9_wed_7 : decode cX9_wed 7 = .ok (.iadd, 1) := by decide +kernel
theorem dX9_wed_8 : decode cX9_wed 8 = .ok (.iaload, 1) := by decide +kernel
theorem dX9_wed_9 : decode cX9_wed 9 = .ok (.ifCond .lt 15, 3) := by decide +kernel
theorem dX9_wed_12 : decode cX9_wed 12 = .ok (.aload_n 0, 1) := by decide +kernel
theorem dX9_wed_13 : decode cX9_wed 13 = .ok (.getfield 13, 3) := by decide +kernel
theorem dX9_wed_16 : decode cX9_wed 16 = .ok (.bipush 10, 2) := by decide +kernel
theorem dX9_wed_18 : decode cX9_wed 18 = .ok (.iload_n 2, 1) := by decide +kernel
theorem dX9_wed_19 : decode cX9_wed 19 = .ok (.iadd, 1) := by decide +kernel
theorem dX9_wed_20 : decode cX9_wed 20 = .ok (.iaload, 1) := by decide +kernel
theorem dX9_wed_21 : decode cX9_wed 21 = .ok (.ifCond .ge 5, 3) := by decide +kernel
theorem dX9_wed_24 : decode cX9_wed 24 = .ok (.iconst 2, 1) := by decide +kernel
theorem dX9_wed_25 : decode cX9_wed 25 = .ok (.ireturn, 1) := by decide +kernel
theorem dX9_wed_26 : decode cX9_wed 26 = .ok (.iload_n 1, 1) := by decide +kernel
theorem dX9_wed_27 : decode cX9_wed 27 = .ok (.iload_n 2, 1) := by decide +kernel
theorem dX9_wed_28 : decode cX9_wed 28 = .ok (.if_icmp .ne 5, 3) := by decide +kernel
theorem dX9_wed_31 : decode cX9_wed 31 = .ok (.iconst 3, 1) := by decide +kernel
theorem dX9_wed_32 : decode cX9_wed 32 = .ok (.ireturn, 1) := by decide +kernel
theorem dX9_wed_33 : decode cX9_wed 33 = .ok (.aload_n 0, 1) := by decide +kernel
theorem dX9_wed_34 : decode cX9_wed 34 = .ok (.getfield 13, 3) := by decide +kernel
theorem dX9_wed_37 : decode cX9_wed 37 = .ok (.bipush 18, 2) := by decide +kernel
theorem dX9_wed_39 : decode cX9_wed 39 = .ok (.iload_n 1, 1) := by decide +kernel
theorem dX9_wed_40 : decode cX9_wed 40 = .ok (.iadd, 1) := by decide +kernel
theorem dX9_wed_41 : decode cX9_wed 41 = .ok (.iaload, 1) := by decide +kernel
theorem dX9_wed_42 : decode cX9_wed 42 = .ok (.ifCond .ge 15, 3) := by decide +kernel
theorem dX9_wed_45 : decode cX9_wed 45 = .ok (.aload_n 0, 1) := by decide +kernel
theorem dX9_wed_46 : decode cX9_wed 46 = .ok (.getfield 13, 3) := by decide +kernel
theorem dX9_wed_49 : decode cX9_wed 49 = .ok (.bipush 18, 2) := by decide +kernel
theorem dX9_wed_51 : decode cX9_wed 51 = .ok (.iload_n 2, 1) := by decide +kernel
theorem dX9_wed_52 : decode cX9_wed 52 = .ok (.iadd, 1) := by decide +kernel
theorem dX9_wed_53 : decode cX9_wed 53 = .ok (.iaload, 1) := by decide +kernel
theorem dX9_wed_54 : decode cX9_wed 54 = .ok (.ifCond .lt 5, 3) := by decide +kernel
theorem dX9_wed_57 : decode cX9_wed 57 = .ok (.iconst 4, 1) := by decide +kernel
theorem dX9_wed_58 : decode cX9_wed 58 = .ok (.ireturn, 1) := by decide +kernel
theorem dX9_wed_59 : decode cX9_wed 59 = .ok (.aload_n 0, 1) := by decide +kernel
theorem dX9_wed_60 : decode cX9_wed 60 = .ok (.getfield 16, 3) := by decide +kernel
theorem dX9_wed_63 : decode cX9_wed 63 = .ok (.aload_n 0, 1) := by decide +kernel
theorem dX9_wed_64 : decode cX9_wed 64 = .ok (.getfield 13, 3) := by decide +kernel
theorem dX9_wed_67 : decode cX9_wed 67 = .ok (.bipush 10, 2) := by decide +kernel
theorem dX9_wed_69 : decode cX9_wed 69 = .ok (.iload_n 1, 1) := by decide +kernel
theorem dX9_wed_70 : decode cX9_wed 70 = .ok (.iadd, 1) := by decide +kernel
theorem dX9_wed_71 : decode cX9_wed 71 = .ok (.iaload, 1) := by decide +kernel
theorem dX9_wed_72 : decode cX9_wed 72 = .ok (.iaload, 1) := by decide +kernel
theorem dX9_wed_73 : decode cX9_wed 73 = .ok (.aload_n 0, 1) := by decide +kernel
theorem dX9_wed_74 : decode cX9_wed 74 = .ok (.getfield 16, 3) := by decide +kernel
theorem dX9_wed_77 : decode cX9_wed 77 = .ok (.aload_n 0, 1) := by decide +kernel
theorem dX9_wed_78 : decode cX9_wed 78 = .ok (.getfield 13, 3) := by decide +kernel
theorem dX9_wed_81 : decode cX9_wed 81 = .ok (.bipush 10, 2) := by decide +kernel
theorem dX9_wed_83 : decode cX9_wed 83 = .ok (.iload_n 2, 1) := by decide +kernel
theorem dX9_wed_84 : decode cX9_wed 84 = .ok (.iadd, 1) := by decide +kernel
theorem dX9_wed_85 : decode cX9_wed 85 = .ok (.iaload, 1) := by decide +kernel
theorem dX9_wed_86 : decode cX9_wed 86 = .ok (.iaload, 1) := by decide +kernel
theorem dX9_wed_87 : decode cX9_wed 87 = .ok (.if_icmp .ne 5, 3) := by decide +kernel
theorem dX9_wed_90 : decode cX9_wed 90 = .ok (.iconst 5, 1) := by decide +kernel
theorem dX9_wed_91 : decode cX9_wed 91 = .ok (.ireturn, 1) := by decide +kernel
theorem dX9_wed_92 : decode cX9_wed 92 = .ok (.aload_n 0, 1) := by decide +kernel
theorem dX9_wed_93 : decode cX9_wed 93 = .ok (.getfield 13, 3) := by decide +kernel
theorem dX9_wed_96 : decode cX9_wed 96 = .ok (.bipush 18, 2) := by decide +kernel
theorem dX9_wed_98 : decode cX9_wed 98 = .ok (.iload_n 1, 1) := by decide +kernel
theorem dX9_wed_99 : decode cX9_wed 99 = .ok (.iadd, 1) := by decide +kernel
theorem dX9_wed_100 : decode cX9_wed 100 = .ok (.iload_n 2, 1) := by decide +kernel
theorem dX9_wed_101 : decode cX9_wed 101 = .ok (.iastore, 1) := by decide +kernel
theorem dX9_wed_102 : decode cX9_wed 102 = .ok (.aload_n 0, 1) := by decide +kernel
theorem dX9_wed_103 : decode cX9_wed 103 = .ok (.getfield 13, 3) := by decide +kernel
theorem dX9_wed_106 : decode cX9_wed 106 = .ok (.bipush 18, 2) := by decide +kernel
theorem dX9_wed_108 : decode cX9_wed 108 = .ok (.iload_n 2, 1) := by decide +kernel
theorem dX9_wed_109 : decode cX9_wed 109 = .ok (.iadd, 1) := by decide +kernel
theorem dX9_wed_110 : decode cX9_wed 110 = .ok (.iload_n 1, 1) := by decide +kernel
theorem dX9_wed_111 : decode cX9_wed 111 = .ok (.iastore, 1) := by decide +kernel
theorem dX9_wed_112 : decode cX9_wed 112 = .ok (.aload_n 0, 1) := by decide +kernel
theorem dX9_wed_113 : decode cX9_wed 113 = .ok (.dup, 1) := by decide +kernel
theorem dX9_wed_114 : decode cX9_wed 114 = .ok (.getfield 64, 3) := by decide +kernel
theorem dX9_wed_117 : decode cX9_wed 117 = .ok (.iconst 1, 1) := by decide +kernel
theorem dX9_wed_118 : decode cX9_wed 118 = .ok (.iadd, 1) := by decide +kernel
theorem dX9_wed_119 : decode cX9_wed 119 = .ok (.putfield 64, 3) := by decide +kernel
theorem dX9_wed_122 : decode cX9_wed 122 = .ok (.iconst 0, 1) := by decide +kernel
theorem dX9_wed_123 : decode cX9_wed 123 = .ok (.ireturn, 1) := by decide +kernel
def wtX9_wed : List Cond := .code yX9_wed cX9_wed 3 (some .int) :: (([.fieldLink RX9 13 "DriftKinModel" "now" "[I", .fieldLink RX9 16 "DriftKinModel" "of" "[I", .fieldLink RX9 64 "DriftKinModel" "weddings" "I"]) ++ ((u_ws RX9 TX9 15) ++ []))
theorem imX9_wed_own : ∀ w ∈ ([.fieldLink RX9 13 "DriftKinModel" "now" "[I", .fieldLink RX9 16 "DriftKinModel" "of" "[I", .fieldLink RX9 64 "DriftKinModel" "weddings" "I"] : List Cond), w ∈ wtX9_wed := fun w h => List.mem_cons_of_mem _ (inl h)
theorem imX9_wed_u_X9 : ∀ w ∈ (u_ws RX9 TX9 15 : List Cond), w ∈ wtX9_wed := fun w h => List.mem_cons_of_mem _ (inr (inl h))
theorem gdX9_wed : ∀ w ∈ wtX9_wed, Gd w := gdc rfl (gda (gdl (by decide +kernel)) (gda (gdu _ _ _) gdn))
def fX9_wed (v_weddings : Int32) (v_now : Nat → Int32) (v_of : Nat → Int32) (x1 : Int32) (x2 : Int32) : Option (Int32 × Int32 × (Nat → Int32)) :=
  chk ((10 : Int32) + x1) 35 (
    if (rd v_now ((10 : Int32) + x1)) < (0 : Int32) then
      some ((2 : Int32), v_weddings, v_now)
    else
      chk ((10 : Int32) + x2) 35 (
        if (0 : Int32) ≤ (rd v_now ((10 : Int32) + x2)) then
          if x1 = x2 then
            some ((3 : Int32), v_weddings, v_now)
          else
            chk ((18 : Int32) + x1) 35 (
              if (0 : Int32) ≤ (rd v_now ((18 : Int32) + x1)) then
                some ((4 : Int32), v_weddings, v_now)
              else
                chk ((18 : Int32) + x2) 35 (
                  if (rd v_now ((18 : Int32) + x2)) < (0 : Int32) then
                    chk ((10 : Int32) + x1) 35 (
                      chk (rd v_now ((10 : Int32) + x1)) 60 (
                        chk ((10 : Int32) + x2) 35 (
                          chk (rd v_now ((10 : Int32) + x2)) 60 (
                            if (rd v_of (rd v_now ((10 : Int32) + x1))) = (rd v_of (rd v_now ((10 : Int32) + x2))) then
                              some ((5 : Int32), v_weddings, v_now)
                            else
                              chk ((18 : Int32) + x1) 35 (
                                chk ((18 : Int32) + x2) 35 (
                                  some ((0 : Int32), (v_weddings + (1 : Int32)), (wr (wr v_now ((18 : Int32) + x1) x2) ((18 : Int32) + x2) x1))))))))
                  else
                    some ((4 : Int32), v_weddings, v_now)))
        else
          some ((2 : Int32), v_weddings, v_now)))
def wdX9_wed (cI cZ : ClassId) (q0 : Nat) (q1 : Nat) (q2 : Nat) (d3 : Nat) (d4 : Nat) (d5 : Nat) (d6 : Nat) (d7 : Nat) (d8 : Nat) (d9 : Nat) (d10 : Nat)  (v_weddings : Int32) (v_now : Nat → Int32) (v_of : Nat → Int32) (v_sights : Int32) (v_signs : Int32) (v_reason : Int32) (v_acts : Int32) : va_W := [(q0, .inr (9, [.ref d3, .ref q1, .ref q2, .int v_sights, .ref d4, .int v_signs, .ref d5, .int v_weddings, .int v_reason, .int v_acts, .ref d6, .ref d7, .ref d8, .ref d9, .ref d10])), (q1, .inl (cI, 35, .inl v_now)), (q2, .inl (cI, 60, .inl v_of))]
abbrev rmX9_wed : Jvm.Room := { frames := 0, cells := 0, slots := 0, locals := 0 }
theorem hyX9_wed : yX9_wed.cls ≠ "java/lang/invoke/MethodHandle" ∧ yX9_wed.cls ≠ "java/lang/invoke/VarHandle" ∧ (parseMethodDescriptor yX9_wed.desc).map (fun d => d.parameters.length) = some 2 := by decide +kernel
set_option maxHeartbeats 4000000 in
set_option maxRecDepth 100000 in
theorem mX9_wed (l : Launch) (D : va_G) (cI cZ : ClassId) (q0 : Nat) (q1 : Nat) (q2 : Nat) (d3 : Nat) (d4 : Nat) (d5 : Nat) (d6 : Nat) (d7 : Nat) (d8 : Nat) (d9 : Nat) (d10 : Nat) (v_weddings : Int32) (v_now : Nat → Int32) (v_of : Nat → Int32) (v_sights : Int32) (v_signs : Int32) (v_reason : Int32) (v_acts : Int32) (x1 : Int32) (x2 : Int32) (z : Int32 × Int32 × (Nat → Int32)) (hF : fX9_wed v_weddings v_now v_of x1 x2 = some z) : mp l yX9_wed wtX9_wed rmX9_wed D cI cZ [.ref q0, .int x1, .int x2] (wdX9_wed cI cZ q0 q1 q2 d3 d4 d5 d6 d7 d8 d9 d10 v_weddings v_now v_of v_sights v_signs v_reason v_acts) (some (.int z.1)) (wdX9_wed cI cZ q0 q1 q2 d3 d4 d5 d6 d7 d8 d9 d10 z.2.1 z.2.2 v_of v_sights v_signs v_reason v_acts) := by
  refine mp_i (lv0 := [(0, .ref q0), (1, .int x1), (2, .int x2)]) cX9_wed 3 z.1 (by decide) rfl (Nat.le_of_ble_eq_true rfl) rfl (fun E h hend0 => ?_)
  have hend : ∀ (z' : Int32 × Int32 × (Nat → Int32)), some z' = some z → ∀ (pc : Nat) (lv : List (Nat × Value)), decode cX9_wed pc = .ok (.ireturn, 1) → G l D E 3 0 0 (wdX9_wed cI cZ q0 q1 q2 d3 d4 d5 d6 d7 d8 d9 d10 (z'.2.1) (z'.2.2) v_of v_sights v_signs v_reason v_acts) pc lv [.int z'.1] := fun z' e => by cases e; exact hend0
  clear hend0
  unfold fX9_wed at hF
  refine g_aload_n (np := 1) h 0 rfl rfl dX9_wed_0 rfl ?_
  refine g_get (np := 4) (T := TX9) h imX9_wed_u_X9 0 9 rfl rfl 1 (by decide) (imX9_wed_own _ (List.mem_of_getElem? (i := 0) rfl)) rfl dX9_wed_1 rfl ?_
  refine g_bipush (np := 6) (v := (10 : Int32)) h (by decide) dX9_wed_4 rfl ?_
  refine g_iload_n (np := 7) h 1 rfl rfl dX9_wed_6 rfl ?_
  refine g_iadd (np := 8) h dX9_wed_7 rfl ?_
  refine g_iald (np := 9) h 1 rfl hF dX9_wed_8 rfl (fun hi1 hF => ?_)
  refine g_if_lt h hF dX9_wed_9 (np := 12) rfl (tg := 24) rfl (fun c2 hF => ?_) (fun c2 hF => ?_)
  · refine g_iconst (np := 25) (v := (2 : Int32)) h (by decide) dX9_wed_24 rfl ?_
    exact hend _ hF _ _ dX9_wed_25
  · refine g_aload_n (np := 13) h 0 rfl rfl dX9_wed_12 rfl ?_
    refine g_get (np := 16) (T := TX9) h imX9_wed_u_X9 0 9 rfl rfl 1 (by decide) (imX9_wed_own _ (List.mem_of_getElem? (i := 0) rfl)) rfl dX9_wed_13 rfl ?_
    refine g_bipush (np := 18) (v := (10 : Int32)) h (by decide) dX9_wed_16 rfl ?_
    refine g_iload_n (np := 19) h 2 rfl rfl dX9_wed_18 rfl ?_
    refine g_iadd (np := 20) h dX9_wed_19 rfl ?_
    refine g_iald (np := 21) h 1 rfl hF dX9_wed_20 rfl (fun hi3 hF => ?_)
    refine g_if_ge h hF dX9_wed_21 (np := 24) rfl (tg := 26) rfl (fun c4 hF => ?_) (fun c4 hF => ?_)
    · refine g_iload_n (np := 27) h 1 rfl rfl dX9_wed_26 rfl ?_
      refine g_iload_n (np := 28) h 2 rfl rfl dX9_wed_27 rfl ?_
      refine g_icmp_ne h hF dX9_wed_28 (np := 31) rfl (tg := 33) rfl (fun c5 hF => ?_) (fun c5 hF => ?_)
      · refine g_aload_n (np := 34) h 0 rfl rfl dX9_wed_33 rfl ?_
        refine g_get (np := 37) (T := TX9) h imX9_wed_u_X9 0 9 rfl rfl 1 (by decide) (imX9_wed_own _ (List.mem_of_getElem? (i := 0) rfl)) rfl dX9_wed_34 rfl ?_
        refine g_bipush (np := 39) (v := (18 : Int32)) h (by decide) dX9_wed_37 rfl ?_
        refine g_iload_n (np := 40) h 1 rfl rfl dX9_wed_39 rfl ?_
        refine g_iadd (np := 41) h dX9_wed_40 rfl ?_
        refine g_iald (np := 42) h 1 rfl hF dX9_wed_41 rfl (fun hi6 hF => ?_)
        refine g_if_ge h hF dX9_wed_42 (np := 45) rfl (tg := 57) rfl (fun c7 hF => ?_) (fun c7 hF => ?_)
        · refine g_iconst (np := 58) (v := (4 : Int32)) h (by decide) dX9_wed_57 rfl ?_
          exact hend _ hF _ _ dX9_wed_58
        · refine g_aload_n (np := 46) h 0 rfl rfl dX9_wed_45 rfl ?_
          refine g_get (np := 49) (T := TX9) h imX9_wed_u_X9 0 9 rfl rfl 1 (by decide) (imX9_wed_own _ (List.mem_of_getElem? (i := 0) rfl)) rfl dX9_wed_46 rfl ?_
          refine g_bipush (np := 51) (v := (18 : Int32)) h (by decide) dX9_wed_49 rfl ?_
          refine g_iload_n (np := 52) h 2 rfl rfl dX9_wed_51 rfl ?_
          refine g_iadd (np := 53) h dX9_wed_52 rfl ?_
          refine g_iald (np := 54) h 1 rfl hF dX9_wed_53 rfl (fun hi8 hF => ?_)
          refine g_if_lt h hF dX9_wed_54 (np := 57) rfl (tg := 59) rfl (fun c9 hF => ?_) (fun c9 hF => ?_)
          · refine g_aload_n (np := 60) h 0 rfl rfl dX9_wed_59 rfl ?_
            refine g_get (np := 63) (T := TX9) h imX9_wed_u_X9 0 9 rfl rfl 2 (by decide) (imX9_wed_own _ (List.mem_of_getElem? (i := 1) rfl)) rfl dX9_wed_60 rfl ?_
            refine g_aload_n (np := 64) h 0 rfl rfl dX9_wed_63 rfl ?_
            refine g_get (np := 67) (T := TX9) h imX9_wed_u_X9 0 9 rfl rfl 1 (by decide) (imX9_wed_own _ (List.mem_of_getElem? (i := 0) rfl)) rfl dX9_wed_64 rfl ?_
            refine g_bipush (np := 69) (v := (10 : Int32)) h (by decide) dX9_wed_67 rfl ?_
            refine g_iload_n (np := 70) h 1 rfl rfl dX9_wed_69 rfl ?_
            refine g_iadd (np := 71) h dX9_wed_70 rfl ?_
            refine g_iald (np := 72) h 1 rfl hF dX9_wed_71 rfl (fun hi10 hF => ?_)
            refine g_iald (np := 73) h 2 rfl hF dX9_wed_72 rfl (fun hi11 hF => ?_)
            refine g_aload_n (np := 74) h 0 rfl rfl dX9_wed_73 rfl ?_
            refine g_get (np := 77) (T := TX9) h imX9_wed_u_X9 0 9 rfl rfl 2 (by decide) (imX9_wed_own _ (List.mem_of_getElem? (i := 1) rfl)) rfl dX9_wed_74 rfl ?_
            refine g_aload_n (np := 78) h 0 rfl rfl dX9_wed_77 rfl ?_
            refine g_get (np := 81) (T := TX9) h imX9_wed_u_X9 0 9 rfl rfl 1 (by decide) (imX9_wed_own _ (List.mem_of_getElem? (i := 0) rfl)) rfl dX9_wed_78 rfl ?_
            refine g_bipush (np := 83) (v := (10 : Int32)) h (by decide) dX9_wed_81 rfl ?_
            refine g_iload_n (np := 84) h 2 rfl rfl dX9_wed_83 rfl ?_
            refine g_iadd (np := 85) h dX9_wed_84 rfl ?_
            refine g_iald (np := 86) h 1 rfl hF dX9_wed_85 rfl (fun hi12 hF => ?_)
            refine g_iald (np := 87) h 2 rfl hF dX9_wed_86 rfl (fun hi13 hF => ?_)
            refine g_icmp_ne h hF dX9_wed_87 (np := 90) rfl (tg := 92) rfl (fun c14 hF => ?_) (fun c14 hF => ?_)
            · refine g_aload_n (np := 93) h 0 rfl rfl dX9_wed_92 rfl ?_
              refine g_get (np := 96) (T := TX9) h imX9_wed_u_X9 0 9 rfl rfl 1 (by decide) (imX9_wed_own _ (List.mem_of_getElem? (i := 0) rfl)) rfl dX9_wed_93 rfl ?_
              refine g_bipush (np := 98) (v := (18 : Int32)) h (by decide) dX9_wed_96 rfl ?_
              refine g_iload_n (np := 99) h 1 rfl rfl dX9_wed_98 rfl ?_
              refine g_iadd (np := 100) h dX9_wed_99 rfl ?_
              refine g_iload_n (np := 101) h 2 rfl rfl dX9_wed_100 rfl ?_
              refine g_iast (np := 102) (Wd' := (wdX9_wed cI cZ q0 q1 q2 d3 d4 d5 d6 d7 d8 d9 d10 v_weddings (wr v_now ((18 : Int32) + x1) x2) v_of v_sights v_signs v_reason v_acts)) h 1 rfl hF rfl dX9_wed_101 rfl (fun hi15 hF => ?_)
              refine g_aload_n (np := 103) h 0 rfl rfl dX9_wed_102 rfl ?_
              refine g_get (np := 106) (T := TX9) h imX9_wed_u_X9 0 9 rfl rfl 1 (by decide) (imX9_wed_own _ (List.mem_of_getElem? (i := 0) rfl)) rfl dX9_wed_103 rfl ?_
              refine g_bipush (np := 108) (v := (18 : Int32)) h (by decide) dX9_wed_106 rfl ?_
              refine g_iload_n (np := 109) h 2 rfl rfl dX9_wed_108 rfl ?_
              refine g_iadd (np := 110) h dX9_wed_109 rfl ?_
              refine g_iload_n (np := 111) h 1 rfl rfl dX9_wed_110 rfl ?_
              refine g_iast (np := 112) (Wd' := (wdX9_wed cI cZ q0 q1 q2 d3 d4 d5 d6 d7 d8 d9 d10 v_weddings (wr (wr v_now ((18 : Int32) + x1) x2) ((18 : Int32) + x2) x1) v_of v_sights v_signs v_reason v_acts)) h 1 rfl hF rfl dX9_wed_111 rfl (fun hi16 hF => ?_)
              refine g_aload_n (np := 113) h 0 rfl rfl dX9_wed_112 rfl ?_
              refine g_dup (np := 114) h rfl dX9_wed_113 rfl ?_
              refine g_get (np := 117) (T := TX9) h imX9_wed_u_X9 0 9 rfl rfl 7 (by decide) (imX9_wed_own _ (List.mem_of_getElem? (i := 2) rfl)) rfl dX9_wed_114 rfl ?_
              refine g_iconst (np := 118) (v := (1 : Int32)) h (by decide) dX9_wed_117 rfl ?_
              refine g_iadd (np := 119) h dX9_wed_118 rfl ?_
              refine g_put (np := 122) (T := TX9) (Wd' := (wdX9_wed cI cZ q0 q1 q2 d3 d4 d5 d6 d7 d8 d9 d10 (v_weddings + (1 : Int32)) (wr (wr v_now ((18 : Int32) + x1) x2) ((18 : Int32) + x2) x1) v_of v_sights v_signs v_reason v_acts)) h imX9_wed_u_X9 tyX9_ok nmX9 0 9 rfl rfl 7 (by decide) (imX9_wed_own _ (List.mem_of_getElem? (i := 2) rfl)) rfl rfl rfl (Nat.le_of_ble_eq_true rfl) rfl dX9_wed_119 rfl ?_
              refine g_iconst (np := 123) (v := (0 : Int32)) h (by decide) dX9_wed_122 rfl ?_
              exact hend _ hF _ _ dX9_wed_123
            · refine g_iconst (np := 91) (v := (5 : Int32)) h (by decide) dX9_wed_90 rfl ?_
              exact hend _ hF _ _ dX9_wed_91
          · refine g_iconst (np := 58) (v := (4 : Int32)) h (by decide) dX9_wed_57 rfl ?_
            exact hend _ hF _ _ dX9_wed_58
      · refine g_iconst (np := 32) (v := (3 : Int32)) h (by decide) dX9_wed_31 rfl ?_
        exact hend _ hF _ _ dX9_wed_32
    · refine g_iconst (np := 25) (v := (2 : Int32)) h (by decide) dX9_wed_24 rfl ?_
      exact hend _ hF _ _ dX9_wed_25
theorem dX9_part_0 : decode cX9_part 0 = .ok (.aload_n 0, 1) := by decide +kernel
theorem dX9_part_1 : decode cX9_part 1 = .ok (.getfield 13, 3) := by decide +kernel
theorem dX9_part_4 : decode cX9_part 4 = .ok (.bipush 18, 2) := by decide +kernel
theorem dX9_part_6 : decode cX9_part 6 = .ok (.iload_n 1, 1) := by decide +kernel
theorem dX9_part_7 : decode cX9_part 7 = .ok (.iadd, 1) := by decide +kernel
theorem dX9_part_8 : decode cX9_part 8 = .ok (.iaload, 1) := by decide +kernel
theorem dX9_part_9 : decode cX9_part 9 = .ok (.istore_n 2, 1) := by decide +kernel
theorem dX9_part_10 : decode cX9_part 10 = .ok (.iload_n 2, 1) := by decide +kernel
theorem dX9_part_11 : decode cX9_part 11 = .ok (.ifCond .ge 5, 3) := by decide +kernel
theorem dX9_part_14 : decode cX9_part 14 = .ok (.iconst 4, 1) := by decide +kernel
theorem dX9_part_15 : decode cX9_part 15 = .ok (.ireturn, 1) := by decide +kernel
theorem dX9_part_16 : decode cX9_part 16 = .ok (.aload_n 0, 1) := by decide +kernel
theorem dX9_part_17 : decode cX9_part 17 = .ok (.getfield 13, 3) := by decide +kernel
theorem dX9_part_20 : decode cX9_part 20 = .ok (.bipush 18, 2) := by decide +kernel
theorem dX9_part_22 : decode cX9_part 22 = .ok (.iload_n 1, 1) := by decide +kernel
theorem dX9_part_23 : decode cX9_part 23 = .ok (.iadd, 1) := by decide +kernel
theorem dX9_part_24 : decode cX9_part 24 = .ok (.bipush (-6), 2) := by decide +kernel
theorem dX9_part_26 : decode cX9_part 26 = .ok (.iastore, 1) := by decide +kernel
theorem dX9_part_27 : decode cX9_part 27 = .ok (.aload_n 0, 1) := by decide +kernel
theorem dX9_part_28 : decode cX9_part 28 = .ok (.getfield 13, 3) := by decide +kernel
theorem dX9_part_31 : decode cX9_part 31 = .ok (.bipush 18, 2) := by decide +kernel
theorem dX9_part_33 : decode cX9_part 33 = .ok (.iload_n 2, 1) := by decide +kernel
theorem dX9_part_34 : decode cX9_part 34 = .ok (.iadd, 1) := by decide +kernel
theorem dX9_part_35 : decode cX9_part 35 = .ok (.bipush (-6), 2) := by decide +kernel
theorem dX9_part_37 : decode cX9_part 37 = .ok (.iastore, 1) := by decide +kernel
theorem dX9_part_38 : decode cX9_part 38 = .ok (.iconst 0, 1) := by decide +kernel
theorem dX9_part_39 : decode cX9_part 39 = .ok (.ireturn, 1) := by decide +kernel
def wtX9_part : List Cond := .code yX9_part cX9_part 3 (some .int) :: (([.fieldLink RX9 13 "DriftKinModel" "now" "[I"]) ++ ((u_ws RX9 TX9 15) ++ []))
theorem imX9_part_own : ∀ w ∈ ([.fieldLink RX9 13 "DriftKinModel" "now" "[I"] : List Cond), w ∈ wtX9_part := fun w h => List.mem_cons_of_mem _ (inl h)
theorem imX9_part_u_X9 : ∀ w ∈ (u_ws RX9 TX9 15 : List Cond), w ∈ wtX9_part := fun w h => List.mem_cons_of_mem _ (inr (inl h))
theorem gdX9_part : ∀ w ∈ wtX9_part, Gd w := gdc rfl (gda (gdl (by decide +kernel)) (gda (gdu _ _ _) gdn))
def fX9_part (v_now : Nat → Int32) (x1 : Int32) : Option (Int32 × (Nat → Int32)) :=
  chk ((18 : Int32) + x1) 35 (
    if (0 : Int32) ≤ (rd v_now ((18 : Int32) + x1)) then
      chk ((18 : Int32) + x1) 35 (
        chk ((18 : Int32) + (rd v_now ((18 : Int32) + x1))) 35 (
          some ((0 : Int32), (wr (wr v_now ((18 : Int32) + x1) (-6 : Int32)) ((18 : Int32) + (rd v_now ((18 : Int32) + x1))) (-6 : Int32)))))
    else
      some ((4 : Int32), v_now))
def wdX9_part (cI cZ : ClassId) (q0 : Nat) (q1 : Nat) (d2 : Nat) (d3 : Nat) (d4 : Nat) (d5 : Nat) (d6 : Nat) (d7 : Nat) (d8 : Nat) (d9 : Nat) (d10 : Nat)  (v_now : Nat → Int32) (v_sights : Int32) (v_signs : Int32) (v_weddings : Int32) (v_reason : Int32) (v_acts : Int32) : va_W := [(q0, .inr (9, [.ref d2, .ref q1, .ref d3, .int v_sights, .ref d4, .int v_signs, .ref d5, .int v_weddings, .int v_reason, .int v_acts, .ref d6, .ref d7, .ref d8, .ref d9, .ref d10])), (q1, .inl (cI, 35, .inl v_now))]
abbrev rmX9_part : Jvm.Room := { frames := 0, cells := 0, slots := 0, locals := 0 }
theorem hyX9_part : yX9_part.cls ≠ "java/lang/invoke/MethodHandle" ∧ yX9_part.cls ≠ "java/lang/invoke/VarHandle" ∧ (parseMethodDescriptor yX9_part.desc).map (fun d => d.parameters.length) = some 1 := by decide +kernel
set_option maxHeartbeats 4000000 in
set_option maxRecDepth 100000 in
theorem mX9_part (l : Launch) (D : va_G) (cI cZ : ClassId) (q0 : Nat) (q1 : Nat) (d2 : Nat) (d3 : Nat) (d4 : Nat) (d5 : Nat) (d6 : Nat) (d7 : Nat) (d8 : Nat) (d9 : Nat) (d10 : Nat) (v_now : Nat → Int32) (v_sights : Int32) (v_signs : Int32) (v_weddings : Int32) (v_reason : Int32) (v_acts : Int32) (x1 : Int32) (z : Int32 × (Nat → Int32)) (hF : fX9_part v_now x1 = some z) : mp l yX9_part wtX9_part rmX9_part D cI cZ [.ref q0, .int x1] (wdX9_part cI cZ q0 q1 d2 d3 d4 d5 d6 d7 d8 d9 d10 v_now v_sights v_signs v_weddings v_reason v_acts) (some (.int z.1)) (wdX9_part cI cZ q0 q1 d2 d3 d4 d5 d6 d7 d8 d9 d10 z.2 v_sights v_signs v_weddings v_reason v_acts) := by
  refine mp_i (lv0 := [(0, .ref q0), (1, .int x1)]) cX9_part 3 z.1 (by decide) rfl (Nat.le_of_ble_eq_true rfl) rfl (fun E h hend0 => ?_)
  have hend : ∀ (z' : Int32 × (Nat → Int32)), some z' = some z → ∀ (pc : Nat) (lv : List (Nat × Value)), decode cX9_part pc = .ok (.ireturn, 1) → G l D E 3 0 0 (wdX9_part cI cZ q0 q1 d2 d3 d4 d5 d6 d7 d8 d9 d10 (z'.2) v_sights v_signs v_weddings v_reason v_acts) pc lv [.int z'.1] := fun z' e => by cases e; exact hend0
  clear hend0
  unfold fX9_part at hF
  refine g_aload_n (np := 1) h 0 rfl rfl dX9_part_0 rfl ?_
  refine g_get (np := 4) (T := TX9) h imX9_part_u_X9 0 9 rfl rfl 1 (by decide) (imX9_part_own _ (List.mem_of_getElem? (i := 0) rfl)) rfl dX9_part_1 rfl ?_
  refine g_bipush (np := 6) (v := (18 : Int32)) h (by decide) dX9_part_4 rfl ?_
  refine g_iload_n (np := 7) h 1 rfl rfl dX9_part_6 rfl ?_
  refine g_iadd (np := 8) h dX9_part_7 rfl ?_
  refine g_iald (np := 9) h 1 rfl hF dX9_part_8 rfl (fun hi1 hF => ?_)
  refine g_istore_n (np := 10) (lv' := [(2, .int (rd v_now ((18 : Int32) + x1))), (0, .ref q0), (1, .int x1)]) h rfl (by decide) rfl dX9_part_9 rfl ?_
  refine g_iload_n (np := 11) h 0 rfl rfl dX9_part_10 rfl ?_
  refine g_if_ge h hF dX9_part_11 (np := 14) rfl (tg := 16) rfl (fun c2 hF => ?_) (fun c2 hF => ?_)
  · refine g_aload_n (np := 17) h 1 rfl rfl dX9_part_16 rfl ?_
    refine g_get (np := 20) (T := TX9) h imX9_part_u_X9 0 9 rfl rfl 1 (by decide) (imX9_part_own _ (List.mem_of_getElem? (i := 0) rfl)) rfl dX9_part_17 rfl ?_
    refine g_bipush (np := 22) (v := (18 : Int32)) h (by decide) dX9_part_20 rfl ?_
    refine g_iload_n (np := 23) h 2 rfl rfl dX9_part_22 rfl ?_
    refine g_iadd (np := 24) h dX9_part_23 rfl ?_
    refine g_bipush (np := 26) (v := (-6 : Int32)) h (by decide) dX9_part_24 rfl ?_
    refine g_iast (np := 27) (Wd' := (wdX9_part cI cZ q0 q1 d2 d3 d4 d5 d6 d7 d8 d9 d10 (wr v_now ((18 : Int32) + x1) (-6 : Int32)) v_sights v_signs v_weddings v_reason v_acts)) h 1 rfl hF rfl dX9_part_26 rfl (fun hi3 hF => ?_)
    refine g_aload_n (np := 28) h 1 rfl rfl dX9_part_27 rfl ?_
    refine g_get (np := 31) (T := TX9) h imX9_part_u_X9 0 9 rfl rfl 1 (by decide) (imX9_part_own _ (List.mem_of_getElem? (i := 0) rfl)) rfl dX9_part_28 rfl ?_
    refine g_bipush (np := 33) (v := (18 : Int32)) h (by decide) dX9_part_31 rfl ?_
    refine g_iload_n (np := 34) h 0 rfl rfl dX9_part_33 rfl ?_
    refine g_iadd (np := 35) h dX9_part_34 rfl ?_
    refine g_bipush (np := 37) (v := (-6 : Int32)) h (by decide) dX9_part_35 rfl ?_
    refine g_iast (np := 38) (Wd' := (wdX9_part cI cZ q0 q1 d2 d3 d4 d5 d6 d7 d8 d9 d10 (wr (wr v_now ((18 : Int32) + x1) (-6 : Int32)) ((18 : Int32) + (rd v_now ((18 : Int32) + x1))) (-6 : Int32)) v_sights v_signs v_weddings v_reason v_acts)) h 1 rfl hF rfl dX9_part_37 rfl (fun hi4 hF => ?_)
    refine g_iconst (np := 39) (v := (0 : Int32)) h (by decide) dX9_part_38 rfl ?_
    exact hend _ hF _ _ dX9_part_39
  · refine g_iconst (np := 15) (v := (4 : Int32)) h (by decide) dX9_part_14 rfl ?_
    exact hend _ hF _ _ dX9_part_15
theorem dX9_burn_0 : decode cX9_burn 0 = .ok (.aload_n 0, 1) := by decide +kernel
theorem dX9_burn_1 : decode cX9_burn 1 = .ok (.getfield 13, 3) := by decide +kernel
theorem dX9_burn_4 : decode cX9_burn 4 = .ok (.bipush 10, 2) := by decide +kernel
theorem dX9_burn_6 : decode cX9_burn 6 = .ok (.iload_n 1, 1) := by decide +kernel
theorem dX9_burn_7 : decode cX9_burn 7 = .ok (.iadd, 1) := by decide +kernel
theorem dX9_burn_8 : decode cX9_burn 8 = .ok (.iaload, 1) := by decide +kernel
theorem dX9_burn_9 : decode cX9_burn 9 = .ok (.istore_n 2, 1) := by decide +kernel
theorem dX9_burn_10 : decode cX9_burn 10 = .ok (.iload_n 2, 1) := by decide +kernel
theorem dX9_burn_11 : decode cX9_burn 11 = .ok (.ifCond .ge 5, 3) := by decide +kernel
theorem dX9_burn_14 : decode cX9_burn 14 = .ok (.iconst 2, 1) := by decide +kernel
theorem dX9_burn_15 : decode cX9_burn 15 = .ok (.ireturn, 1) := by decide +kernel
theorem dX9_burn_16 : decode cX9_burn 16 = .ok (.aload_n 0, 1) := by decide +kernel
theorem dX9_burn_17 : decode cX9_burn 17 = .ok (.getfield 13, 3) := by decide +kernel
theorem dX9_burn_20 : decode cX9_burn 20 = .ok (.iload_n 2, 1) := by decide +kernel
theorem dX9_burn_21 : decode cX9_burn 21 = .ok (.iconst 3, 1) := by decide +kernel
theorem dX9_burn_22 : decode cX9_burn 22 = .ok (.iastore, 1) := by decide +kernel
theorem dX9_burn_23 : decode cX9_burn 23 = .ok (.aload_n 0, 1) := by decide +kernel
theorem dX9_burn_24 : decode cX9_burn 24 = .ok (.getfield 13, 3) := by decide +kernel
theorem dX9_burn_27 : decode cX9_burn 27 = .ok (.bipush 10, 2) := by decide +kernel
theorem dX9_burn_29 : decode cX9_burn 29 = .ok (.iload_n 1, 1) := by decide +kernel
theorem dX9_burn_30 : decode cX9_burn 30 = .ok (.iadd, 1) := by decide +kernel
theorem dX9_burn_31 : decode cX9_burn 31 = .ok (.bipush (-6), 2) := by decide +kernel
theorem dX9_burn_33 : decode cX9_burn 33 = .ok (.iastore, 1) := by decide +kernel
theorem dX9_burn_34 : decode cX9_burn 34 = .ok (.iconst 0, 1) := by decide +kernel
theorem dX9_burn_35 : decode cX9_burn 35 = .ok (.ireturn, 1) := by decide +kernel
def wtX9_burn : List Cond := .code yX9_burn cX9_burn 3 (some .int) :: (([.fieldLink RX9 13 "DriftKinModel" "now" "[I"]) ++ ((u_ws RX9 TX9 15) ++ []))
theorem imX9_burn_own : ∀ w ∈ ([.fieldLink RX9 13 "DriftKinModel" "now" "[I"] : List Cond), w ∈ wtX9_burn := fun w h => List.mem_cons_of_mem _ (inl h)
theorem imX9_burn_u_X9 : ∀ w ∈ (u_ws RX9 TX9 15 : List Cond), w ∈ wtX9_burn := fun w h => List.mem_cons_of_mem _ (inr (inl h))
theorem gdX9_burn : ∀ w ∈ wtX9_burn, Gd w := gdc rfl (gda (gdl (by decide +kernel)) (gda (gdu _ _ _) gdn))
def fX9_burn (v_now : Nat → Int32) (x1 : Int32) : Option (Int32 × (Nat → Int32)) :=
  chk ((10 : Int32) + x1) 35 (
    if (0 : Int32) ≤ (rd v_now ((10 : Int32) + x1)) then
      chk (rd v_now ((10 : Int32) + x1)) 35 (
        chk ((10 : Int32) + x1) 35 (
          some ((0 : Int32), (wr (wr v_now (rd v_now ((10 : Int32) + x1)) (3 : Int32)) ((10 : Int32) + x1) (-6 : Int32)))))
    else
      some ((2 : Int32), v_now))
def wdX9_burn (cI cZ : ClassId) (q0 : Nat) (q1 : Nat) (d2 : Nat) (d3 : Nat) (d4 : Nat) (d5 : Nat) (d6 : Nat) (d7 : Nat) (d8 : Nat) (d9 : Nat) (d10 : Nat)  (v_now : Nat → Int32) (v_sights : Int32) (v_signs : Int32) (v_weddings : Int32) (v_reason : Int32) (v_acts : Int32) : va_W := [(q0, .inr (9, [.ref d2, .ref q1, .ref d3, .int v_sights, .ref d4, .int v_signs, .ref d5, .int v_weddings, .int v_reason, .int v_acts, .ref d6, .ref d7, .ref d8, .ref d9, .ref d10])), (q1, .inl (cI, 35, .inl v_now))]
abbrev rmX9_burn : Jvm.Room := { frames := 0, cells := 0, slots := 0, locals := 0 }
theorem hyX9_burn : yX9_burn.cls ≠ "java/lang/invoke/MethodHandle" ∧ yX9_burn.cls ≠ "java/lang/invoke/VarHandle" ∧ (parseMethodDescriptor yX9_burn.desc).map (fun d => d.parameters.length) = some 1 := by decide +kernel
set_option maxHeartbeats 4000000 in
set_option maxRecDepth 100000 in
theorem mX9_burn (l : Launch) (D : va_G) (cI cZ : ClassId) (q0 : Nat) (q1 : Nat) (d2 : Nat) (d3 : Nat) (d4 : Nat) (d5 : Nat) (d6 : Nat) (d7 : Nat) (d8 : Nat) (d9 : Nat) (d10 : Nat) (v_now : Nat → Int32) (v_sights : Int32) (v_signs : Int32) (v_weddings : Int32) (v_reason : Int32) (v_acts : Int32) (x1 : Int32) (z : Int32 × (Nat → Int32)) (hF : fX9_burn v_now x1 = some z) : mp l yX9_burn wtX9_burn rmX9_burn D cI cZ [.ref q0, .int x1] (wdX9_burn cI cZ q0 q1 d2 d3 d4 d5 d6 d7 d8 d9 d10 v_now v_sights v_signs v_weddings v_reason v_acts) (some (.int z.1)) (wdX9_burn cI cZ q0 q1 d2 d3 d4 d5 d6 d7 d8 d9 d10 z.2 v_sights v_signs v_weddings v_reason v_acts) := by
  refine mp_i (lv0 := [(0, .ref q0), (1, .int x1)]) cX9_burn 3 z.1 (by decide) rfl (Nat.le_of_ble_eq_true rfl) rfl (fun E h hend0 => ?_)
  have hend : ∀ (z' : Int32 × (Nat → Int32)), some z' = some z → ∀ (pc : Nat) (lv : List (Nat × Value)), decode cX9_burn pc = .ok (.ireturn, 1) → G l D E 3 0 0 (wdX9_burn cI cZ q0 q1 d2 d3 d4 d5 d6 d7 d8 d9 d10 (z'.2) v_sights v_signs v_weddings v_reason v_acts) pc lv [.int z'.1] := fun z' e => by cases e; exact hend0
  clear hend0
  unfold fX9_burn at hF
  refine g_aload_n (np := 1) h 0 rfl rfl dX9_burn_0 rfl ?_
  refine g_get (np := 4) (T := TX9) h imX9_burn_u_X9 0 9 rfl rfl 1 (by decide) (imX9_burn_own _ (List.mem_of_getElem? (i := 0) rfl)) rfl dX9_burn_1 rfl ?_
  refine g_bipush (np := 6) (v := (10 : Int32)) h (by decide) dX9_burn_4 rfl ?_
  refine g_iload_n (np := 7) h 1 rfl rfl dX9_burn_6 rfl ?_
  refine g_iadd (np := 8) h dX9_burn_7 rfl ?_
  refine g_iald (np := 9) h 1 rfl hF dX9_burn_8 rfl (fun hi1 hF => ?_)
  refine g_istore_n (np := 10) (lv' := [(2, .int (rd v_now ((10 : Int32) + x1))), (0, .ref q0), (1, .int x1)]) h rfl (by decide) rfl dX9_burn_9 rfl ?_
  refine g_iload_n (np := 11) h 0 rfl rfl dX9_burn_10 rfl ?_
  refine g_if_ge h hF dX9_burn_11 (np := 14) rfl (tg := 16) rfl (fun c2 hF => ?_) (fun c2 hF => ?_)
  · refine g_aload_n (np := 17) h 1 rfl rfl dX9_burn_16 rfl ?_
    refine g_get (np := 20) (T := TX9) h imX9_burn_u_X9 0 9 rfl rfl 1 (by decide) (imX9_burn_own _ (List.mem_of_getElem? (i := 0) rfl)) rfl dX9_burn_17 rfl ?_
    refine g_iload_n (np := 21) h 0 rfl rfl dX9_burn_20 rfl ?_
    refine g_iconst (np := 22) (v := (3 : Int32)) h (by decide) dX9_burn_21 rfl ?_
    refine g_iast (np := 23) (Wd' := (wdX9_burn cI cZ q0 q1 d2 d3 d4 d5 d6 d7 d8 d9 d10 (wr v_now (rd v_now ((10 : Int32) + x1)) (3 : Int32)) v_sights v_signs v_weddings v_reason v_acts)) h 1 rfl hF rfl dX9_burn_22 rfl (fun hi3 hF => ?_)
    refine g_aload_n (np := 24) h 1 rfl rfl dX9_burn_23 rfl ?_
    refine g_get (np := 27) (T := TX9) h imX9_burn_u_X9 0 9 rfl rfl 1 (by decide) (imX9_burn_own _ (List.mem_of_getElem? (i := 0) rfl)) rfl dX9_burn_24 rfl ?_
    refine g_bipush (np := 29) (v := (10 : Int32)) h (by decide) dX9_burn_27 rfl ?_
    refine g_iload_n (np := 30) h 2 rfl rfl dX9_burn_29 rfl ?_
    refine g_iadd (np := 31) h dX9_burn_30 rfl ?_
    refine g_bipush (np := 33) (v := (-6 : Int32)) h (by decide) dX9_burn_31 rfl ?_
    refine g_iast (np := 34) (Wd' := (wdX9_burn cI cZ q0 q1 d2 d3 d4 d5 d6 d7 d8 d9 d10 (wr (wr v_now (rd v_now ((10 : Int32) + x1)) (3 : Int32)) ((10 : Int32) + x1) (-6 : Int32)) v_sights v_signs v_weddings v_reason v_acts)) h 1 rfl hF rfl dX9_burn_33 rfl (fun hi4 hF => ?_)
    refine g_iconst (np := 35) (v := (0 : Int32)) h (by decide) dX9_burn_34 rfl ?_
    exact hend _ hF _ _ dX9_burn_35
  · refine g_iconst (np := 15) (v := (2 : Int32)) h (by decide) dX9_burn_14 rfl ?_
    exact hend _ hF _ _ dX9_burn_15
theorem dX9_endYear_0 : decode cX9_endYear 0 = .ok (.aload_n 0, 1) := by decide +kernel
theorem dX9_endYear_1 : decode cX9_endYear 1 = .ok (.getfield 13, 3) := by decide +kernel
theorem dX9_endYear_4 : decode cX9_endYear 4 = .ok (.bipush 34, 2) := by decide +kernel
theorem dX9_endYear_6 : decode cX9_endYear 6 = .ok (.iaload, 1) := by decide +kernel
theorem dX9_endYear_7 : decode cX9_endYear 7 = .ok (.bipush 99, 2) := by decide +kernel
theorem dX9_endYear_9 : decode cX9_endYear 9 = .ok (.if_icmp .ne 6, 3) := by decide +kernel
theorem dX9_endYear_12 : decode cX9_endYear 12 = .ok (.bipush 6, 2) := by decide +kernel
theorem dX9_endYear_14 : decode cX9_endYear 14 = .ok (.ireturn, 1) := by decide +kernel
theorem dX9_endYear_15 : decode cX9_endYear 15 = .ok (.aload_n 0, 1) := by decide +kernel
theorem dX9_endYear_16 : decode cX9_endYear 16 = .ok (.getfield 13, 3) := by decide +kernel
theorem dX9_endYear_19 : decode cX9_endYear 19 = .ok (.bipush 34, 2) := by decide +kernel
theorem dX9_endYear_21 : decode cX9_endYear 21 = .ok (.dup2, 1) := by decide +kernel
theorem dX9_endYear_22 : decode cX9_endYear 22 = .ok (.iaload, 1) := by decide +kernel
theorem dX9_endYear_23 : decode cX9_endYear 23 = .ok (.iconst 1, 1) := by decide +kernel
theorem dX9_endYear_24 : decode cX9_endYear 24 = .ok (.iadd, 1) := by decide +kernel
theorem dX9_endYear_25 : decode cX9_endYear 25 = .ok (.iastore, 1) := by decide +kernel
theorem dX9_endYear_26 : decode cX9_endYear 26 = .ok (.iconst 0, 1) := by decide +kernel
theorem dX9_endYear_27 : decode cX9_endYear 27 = .ok (.istore_n 1, 1) := by decide +kernel
theorem dX9_endYear_28 : decode cX9_endYear 28 = .ok (.iload_n 1, 1) := by decide +kernel
theorem dX9_endYear_29 : decode cX9_endYear 29 = .ok (.bipush 8, 2) := by decide +kernel
theorem dX9_endYear_31 : decode cX9_endYear 31 = .ok (.if_icmp .ge 52, 3) := by decide +kernel
theorem dX9_endYear_34 : decode cX9_endYear 34 = .ok (.aload_n 0, 1) := by decide +kernel
theorem dX9_endYear_35 : decode cX9_endYear 35 = .ok (.getfield 13, 3) := by decide +kernel
theorem dX9_endYear_38 : decode cX9_endYear 38 = .ok (.bipush 26, 2) := by decide +kernel
theorem dX9_endYear_40 : decode cX9_endYear 40 = .ok (.iload_n 1, 1) := by decide +kernel
theorem dX9_endYear_41 : decode cX9_endYear 41 = .ok (.iadd, 1) := by decide +kernel
theorem dX9_endYear_42 : decode cX9_endYear 42 = .ok (.dup2, 1) := by decide +kernel
theorem dX9_endYear_43 : decode cX9_endYear 43 = .ok (.iaload, 1) := by decide +kernel
theorem dX9_endYear_44 : decode cX9_endYear 44 = .ok (.aload_n 0, 1) := by decide +kernel
theorem dX9_endYear_45 : decode cX9_endYear 45 = .ok (.getfield 13, 3) := by decide +kernel
theorem dX9_endYear_48 : decode cX9_endYear 48 = .ok (.bipush 18, 2) := by decide +kernel
theorem dX9_endYear_50 : decode cX9_endYear 50 = .ok (.iload_n 1, 1) := by decide +kernel
theorem dX9_endYear_51 : decode cX9_endYear 51 = .ok (.iadd, 1) := by decide +kernel
theorem dX9_endYear_52 : decode cX9_endYear 52 = .ok (.iaload, 1) := by decide +kernel
theorem dX9_endYear_53 : decode cX9_endYear 53 = .ok (.ifCond .lt 21, 3) := by decide +kernel
theorem dX9_endYear_56 : decode cX9_endYear 56 = .ok (.aload_n 0, 1) := by decide +kernel
theorem dX9_endYear_57 : decode cX9_endYear 57 = .ok (.getfield 13, 3) := by decide +kernel
theorem dX9_endYear_60 : decode cX9_endYear 60 = .ok (.bipush 26, 2) := by decide +kernel
theorem dX9_endYear_62 : decode cX9_endYear 62 = .ok (.iload_n 1, 1) := by decide +kernel
theorem dX9_endYear_63 : decode cX9_endYear 63 = .ok (.iadd, 1) := by decide +kernel
theorem dX9_endYear_64 : decode cX9_endYear 64 = .ok (.iaload, 1) := by decide +kernel
theorem dX9_endYear_65 : decode cX9_endYear 65 = .ok (.bipush 99, 2) := by decide +kernel
theorem dX9_endYear_67 : decode cX9_endYear 67 = .ok (.if_icmp .ge 7, 3) := by decide +kernel
theorem dX9_endYear_70 : decode cX9_endYear 70 = .ok (.iconst 1, 1) := by decide +kernel
theorem dX9_endYear_71 : decode cX9_endYear 71 = .ok (.goto 4, 3) := by decide +kernel
theorem dX9_endYear_74 : decode cX9_endYear 74 = .ok (.iconst 0, 1) := by decide +kernel
theorem dX9_endYear_75 : decode cX9_endYear 75 = .ok (.iadd, 1) := by decide +kernel
theorem dX9_endYear_76 : decode cX9_endYear 76 = .ok (.iastore, 1) := by decide +kernel
theorem dX9_endYear_77 : decode cX9_endYear 77 = .ok (.iinc 1 1, 3) := by decide +kernel
theorem dX9_endYear_80 : decode cX9_endYear 80 = .ok (.goto (-52), 3) := by decide +kernel
theorem dX9_endYear_83 : decode cX9_endYear 83 = .ok (.iconst 0, 1) := by decide +kernel
theorem dX9_endYear_84 : decode cX9_endYear 84 = .ok (.ireturn, 1) := by decide +kernel
def wtX9_endYear : List Cond := .code yX9_endYear cX9_endYear 2 (some .int) :: (([.fieldLink RX9 13 "DriftKinModel" "now" "[I"]) ++ ((u_ws RX9 TX9 15) ++ []))
theorem imX9_endYear_own : ∀ w ∈ ([.fieldLink RX9 13 "DriftKinModel" "now" "[I"] : List Cond), w ∈ wtX9_endYear := fun w h => List.mem_cons_of_mem _ (inl h)
theorem imX9_endYear_u_X9 : ∀ w ∈ (u_ws RX9 TX9 15 : List Cond), w ∈ wtX9_endYear := fun w h => List.mem_cons_of_mem _ (inr (inl h))
theorem gdX9_endYear : ∀ w ∈ wtX9_endYear, Gd w := gdc rfl (gda (gdl (by decide +kernel)) (gda (gdu _ _ _) gdn))
def fX9_endYear_28  : Nat → (Nat → Int32) → Int32 → Option (Int32 × (Nat → Int32))
  | 0, _, _ => none
  | n + 1, v_now, x1 =>
    if (8 : Int32) ≤ x1 then
      some ((0 : Int32), v_now)
    else
      chk ((26 : Int32) + x1) 35 (
        chk ((18 : Int32) + x1) 35 (
          if (rd v_now ((18 : Int32) + x1)) < (0 : Int32) then
            chk ((26 : Int32) + x1) 35 (
              fX9_endYear_28 n (wr v_now ((26 : Int32) + x1) ((rd v_now ((26 : Int32) + x1)) + (0 : Int32))) (x1 + (1 : Int32)))
          else
            chk ((26 : Int32) + x1) 35 (
              if (99 : Int32) ≤ (rd v_now ((26 : Int32) + x1)) then
                chk ((26 : Int32) + x1) 35 (
                  fX9_endYear_28 n (wr v_now ((26 : Int32) + x1) ((rd v_now ((26 : Int32) + x1)) + (0 : Int32))) (x1 + (1 : Int32)))
              else
                chk ((26 : Int32) + x1) 35 (
                  fX9_endYear_28 n (wr v_now ((26 : Int32) + x1) ((rd v_now ((26 : Int32) + x1)) + (1 : Int32))) (x1 + (1 : Int32))))))
def fX9_endYear (v_now : Nat → Int32) : Option (Int32 × (Nat → Int32)) :=
  chk (34 : Int32) 35 (
    if (rd v_now (34 : Int32)) = (99 : Int32) then
      some ((6 : Int32), v_now)
    else
      chk (34 : Int32) 35 (
        chk (34 : Int32) 35 (
          fX9_endYear_28 2000 (wr v_now (34 : Int32) ((rd v_now (34 : Int32)) + (1 : Int32))) (0 : Int32))))
def wdX9_endYear (cI cZ : ClassId) (q0 : Nat) (q1 : Nat) (d2 : Nat) (d3 : Nat) (d4 : Nat) (d5 : Nat) (d6 : Nat) (d7 : Nat) (d8 : Nat) (d9 : Nat) (d10 : Nat)  (v_now : Nat → Int32) (v_sights : Int32) (v_signs : Int32) (v_weddings : Int32) (v_reason : Int32) (v_acts : Int32) : va_W := [(q0, .inr (9, [.ref d2, .ref q1, .ref d3, .int v_sights, .ref d4, .int v_signs, .ref d5, .int v_weddings, .int v_reason, .int v_acts, .ref d6, .ref d7, .ref d8, .ref d9, .ref d10])), (q1, .inl (cI, 35, .inl v_now))]
abbrev rmX9_endYear : Jvm.Room := { frames := 0, cells := 0, slots := 0, locals := 0 }
theorem hyX9_endYear : yX9_endYear.cls ≠ "java/lang/invoke/MethodHandle" ∧ yX9_endYear.cls ≠ "java/lang/invoke/VarHandle" ∧ (parseMethodDescriptor yX9_endYear.desc).map (fun d => d.parameters.length) = some 0 := by decide +kernel
set_option maxHeartbeats 4000000 in
set_option maxRecDepth 100000 in
theorem mX9_endYear (l : Launch) (D : va_G) (cI cZ : ClassId) (q0 : Nat) (q1 : Nat) (d2 : Nat) (d3 : Nat) (d4 : Nat) (d5 : Nat) (d6 : Nat) (d7 : Nat) (d8 : Nat) (d9 : Nat) (d10 : Nat) (v_now : Nat → Int32) (v_sights : Int32) (v_signs : Int32) (v_weddings : Int32) (v_reason : Int32) (v_acts : Int32) (z : Int32 × (Nat → Int32)) (hF : fX9_endYear v_now = some z) : mp l yX9_endYear wtX9_endYear rmX9_endYear D cI cZ [.ref q0] (wdX9_endYear cI cZ q0 q1 d2 d3 d4 d5 d6 d7 d8 d9 d10 v_now v_sights v_signs v_weddings v_reason v_acts) (some (.int z.1)) (wdX9_endYear cI cZ q0 q1 d2 d3 d4 d5 d6 d7 d8 d9 d10 z.2 v_sights v_signs v_weddings v_reason v_acts) := by
  refine mp_i (lv0 := [(0, .ref q0)]) cX9_endYear 2 z.1 (by decide) rfl (Nat.le_of_ble_eq_true rfl) rfl (fun E h hend0 => ?_)
  have hend : ∀ (z' : Int32 × (Nat → Int32)), some z' = some z → ∀ (pc : Nat) (lv : List (Nat × Value)), decode cX9_endYear pc = .ok (.ireturn, 1) → G l D E 2 0 0 (wdX9_endYear cI cZ q0 q1 d2 d3 d4 d5 d6 d7 d8 d9 d10 (z'.2) v_sights v_signs v_weddings v_reason v_acts) pc lv [.int z'.1] := fun z' e => by cases e; exact hend0
  clear hend0
  have hL28 : ∀ (n28 : Nat) (v_now : Nat → Int32) (x1 : Int32), fX9_endYear_28 n28 v_now x1 = some z → G l D E 2 0 0 (wdX9_endYear cI cZ q0 q1 d2 d3 d4 d5 d6 d7 d8 d9 d10 v_now v_sights v_signs v_weddings v_reason v_acts) 28 [(0, .ref q0), (1, .int x1)] [] := by
    intro n28
    induction n28 with
    | zero =>
      intro v_now x1 hF
      rw [fX9_endYear_28] at hF
      cases hF
    | succ n28 ih28 =>
      intro v_now x1 hF
      rw [fX9_endYear_28] at hF
      refine g_iload_n (np := 29) h 1 rfl rfl dX9_endYear_28 rfl ?_
      refine g_bipush (np := 31) (v := (8 : Int32)) h (by decide) dX9_endYear_29 rfl ?_
      refine g_icmp_ge h hF dX9_endYear_31 (np := 34) rfl (tg := 83) rfl (fun c1001 hF => ?_) (fun c1001 hF => ?_)
      · refine g_iconst (np := 84) (v := (0 : Int32)) h (by decide) dX9_endYear_83 rfl ?_
        exact hend _ hF _ _ dX9_endYear_84
      · refine g_aload_n (np := 35) h 0 rfl rfl dX9_endYear_34 rfl ?_
        refine g_get (np := 38) (T := TX9) h imX9_endYear_u_X9 0 9 rfl rfl 1 (by decide) (imX9_endYear_own _ (List.mem_of_getElem? (i := 0) rfl)) rfl dX9_endYear_35 rfl ?_
        refine g_bipush (np := 40) (v := (26 : Int32)) h (by decide) dX9_endYear_38 rfl ?_
        refine g_iload_n (np := 41) h 1 rfl rfl dX9_endYear_40 rfl ?_
        refine g_iadd (np := 42) h dX9_endYear_41 rfl ?_
        refine g_dup2 (np := 43) h rfl rfl dX9_endYear_42 rfl ?_
        refine g_iald (np := 44) h 1 rfl hF dX9_endYear_43 rfl (fun hi1002 hF => ?_)
        refine g_aload_n (np := 45) h 0 rfl rfl dX9_endYear_44 rfl ?_
        refine g_get (np := 48) (T := TX9) h imX9_endYear_u_X9 0 9 rfl rfl 1 (by decide) (imX9_endYear_own _ (List.mem_of_getElem? (i := 0) rfl)) rfl dX9_endYear_45 rfl ?_
        refine g_bipush (np := 50) (v := (18 : Int32)) h (by decide) dX9_endYear_48 rfl ?_
        refine g_iload_n (np := 51) h 1 rfl rfl dX9_endYear_50 rfl ?_
        refine g_iadd (np := 52) h dX9_endYear_51 rfl ?_
        refine g_iald (np := 53) h 1 rfl hF dX9_endYear_52 rfl (fun hi1003 hF => ?_)
        refine g_if_lt h hF dX9_endYear_53 (np := 56) rfl (tg := 74) rfl (fun c1004 hF => ?_) (fun c1004 hF => ?_)
        · refine g_iconst (np := 75) (v := (0 : Int32)) h (by decide) dX9_endYear_74 rfl ?_
          refine g_iadd (np := 76) h dX9_endYear_75 rfl ?_
          refine g_iast (np := 77) (Wd' := (wdX9_endYear cI cZ q0 q1 d2 d3 d4 d5 d6 d7 d8 d9 d10 (wr v_now ((26 : Int32) + x1) ((rd v_now ((26 : Int32) + x1)) + (0 : Int32))) v_sights v_signs v_weddings v_reason v_acts)) h 1 rfl hF rfl dX9_endYear_76 rfl (fun hi1005 hF => ?_)
          refine g_iinc (np := 80) (v := (x1 + (1 : Int32))) (lv' := [(1, .int (x1 + (1 : Int32))), (0, .ref q0)]) h 1 rfl rfl (by decide) rfl dX9_endYear_77 rfl ?_
          refine g_goto h dX9_endYear_80 (np := 28) rfl ?_
          refine g_lv [1, 0] rfl ?_
          exact ih28 (wr v_now ((26 : Int32) + x1) ((rd v_now ((26 : Int32) + x1)) + (0 : Int32))) (x1 + (1 : Int32)) hF
        · refine g_aload_n (np := 57) h 0 rfl rfl dX9_endYear_56 rfl ?_
          refine g_get (np := 60) (T := TX9) h imX9_endYear_u_X9 0 9 rfl rfl 1 (by decide) (imX9_endYear_own _ (List.mem_of_getElem? (i := 0) rfl)) rfl dX9_endYear_57 rfl ?_
          refine g_bipush (np := 62) (v := (26 : Int32)) h (by decide) dX9_endYear_60 rfl ?_
          refine g_iload_n (np := 63) h 1 rfl rfl dX9_endYear_62 rfl ?_
          refine g_iadd (np := 64) h dX9_endYear_63 rfl ?_
          refine g_iald (np := 65) h 1 rfl hF dX9_endYear_64 rfl (fun hi1006 hF => ?_)
          refine g_bipush (np := 67) (v := (99 : Int32)) h (by decide) dX9_endYear_65 rfl ?_
          refine g_icmp_ge h hF dX9_endYear_67 (np := 70) rfl (tg := 74) rfl (fun c1007 hF => ?_) (fun c1007 hF => ?_)
          · refine g_iconst (np := 75) (v := (0 : Int32)) h (by decide) dX9_endYear_74 rfl ?_
            refine g_iadd (np := 76) h dX9_endYear_75 rfl ?_
            refine g_iast (np := 77) (Wd' := (wdX9_endYear cI cZ q0 q1 d2 d3 d4 d5 d6 d7 d8 d9 d10 (wr v_now ((26 : Int32) + x1) ((rd v_now ((26 : Int32) + x1)) + (0 : Int32))) v_sights v_signs v_weddings v_reason v_acts)) h 1 rfl hF rfl dX9_endYear_76 rfl (fun hi1008 hF => ?_)
            refine g_iinc (np := 80) (v := (x1 + (1 : Int32))) (lv' := [(1, .int (x1 + (1 : Int32))), (0, .ref q0)]) h 1 rfl rfl (by decide) rfl dX9_endYear_77 rfl ?_
            refine g_goto h dX9_endYear_80 (np := 28) rfl ?_
            refine g_lv [1, 0] rfl ?_
            exact ih28 (wr v_now ((26 : Int32) + x1) ((rd v_now ((26 : Int32) + x1)) + (0 : Int32))) (x1 + (1 : Int32)) hF
          · refine g_iconst (np := 71) (v := (1 : Int32)) h (by decide) dX9_endYear_70 rfl ?_
            refine g_goto h dX9_endYear_71 (np := 75) rfl ?_
            refine g_iadd (np := 76) h dX9_endYear_75 rfl ?_
            refine g_iast (np := 77) (Wd' := (wdX9_endYear cI cZ q0 q1 d2 d3 d4 d5 d6 d7 d8 d9 d10 (wr v_now ((26 : Int32) + x1) ((rd v_now ((26 : Int32) + x1)) + (1 : Int32))) v_sights v_signs v_weddings v_reason v_acts)) h 1 rfl hF rfl dX9_endYear_76 rfl (fun hi1009 hF => ?_)
            refine g_iinc (np := 80) (v := (x1 + (1 : Int32))) (lv' := [(1, .int (x1 + (1 : Int32))), (0, .ref q0)]) h 1 rfl rfl (by decide) rfl dX9_endYear_77 rfl ?_
            refine g_goto h dX9_endYear_80 (np := 28) rfl ?_
            refine g_lv [1, 0] rfl ?_
            exact ih28 (wr v_now ((26 : Int32) + x1) ((rd v_now ((26 : Int32) + x1)) + (1 : Int32))) (x1 + (1 : Int32)) hF
  unfold fX9_endYear at hF
  refine g_aload_n (np := 1) h 0 rfl rfl dX9_endYear_0 rfl ?_
  refine g_get (np := 4) (T := TX9) h imX9_endYear_u_X9 0 9 rfl rfl 1 (by decide) (imX9_endYear_own _ (List.mem_of_getElem? (i := 0) rfl)) rfl dX9_endYear_1 rfl ?_
  refine g_bipush (np := 6) (v := (34 : Int32)) h (by decide) dX9_endYear_4 rfl ?_
  refine g_iald (np := 7) h 1 rfl hF dX9_endYear_6 rfl (fun hi1 hF => ?_)
  refine g_bipush (np := 9) (v := (99 : Int32)) h (by decide) dX9_endYear_7 rfl ?_
  refine g_icmp_ne h hF dX9_endYear_9 (np := 12) rfl (tg := 15) rfl (fun c2 hF => ?_) (fun c2 hF => ?_)
  · refine g_aload_n (np := 16) h 0 rfl rfl dX9_endYear_15 rfl ?_
    refine g_get (np := 19) (T := TX9) h imX9_endYear_u_X9 0 9 rfl rfl 1 (by decide) (imX9_endYear_own _ (List.mem_of_getElem? (i := 0) rfl)) rfl dX9_endYear_16 rfl ?_
    refine g_bipush (np := 21) (v := (34 : Int32)) h (by decide) dX9_endYear_19 rfl ?_
    refine g_dup2 (np := 22) h rfl rfl dX9_endYear_21 rfl ?_
    refine g_iald (np := 23) h 1 rfl hF dX9_endYear_22 rfl (fun hi3 hF => ?_)
    refine g_iconst (np := 24) (v := (1 : Int32)) h (by decide) dX9_endYear_23 rfl ?_
    refine g_iadd (np := 25) h dX9_endYear_24 rfl ?_
    refine g_iast (np := 26) (Wd' := (wdX9_endYear cI cZ q0 q1 d2 d3 d4 d5 d6 d7 d8 d9 d10 (wr v_now (34 : Int32) ((rd v_now (34 : Int32)) + (1 : Int32))) v_sights v_signs v_weddings v_reason v_acts)) h 1 rfl hF rfl dX9_endYear_25 rfl (fun hi4 hF => ?_)
    refine g_iconst (np := 27) (v := (0 : Int32)) h (by decide) dX9_endYear_26 rfl ?_
    refine g_istore_n (np := 28) (lv' := [(1, .int (0 : Int32)), (0, .ref q0)]) h rfl (by decide) rfl dX9_endYear_27 rfl ?_
    refine g_lv [1, 0] rfl ?_
    exact hL28 _ (wr v_now (34 : Int32) ((rd v_now (34 : Int32)) + (1 : Int32))) (0 : Int32) hF
  · refine g_bipush (np := 14) (v := (6 : Int32)) h (by decide) dX9_endYear_12 rfl ?_
    exact hend _ hF _ _ dX9_endYear_14
theorem dX9_houseAct_0 : decode cX9_houseAct 0 = .ok (.iload_n 2, 1) := by decide +kernel
theorem dX9_houseAct_1 : decode cX9_houseAct 1 = .ok (.bipush 43, 2) := by decide +kernel
theorem dX9_houseAct_3 : decode cX9_houseAct 3 = .ok (.if_icmp .ne 15, 3) := by decide +kernel
theorem dX9_houseAct_6 : decode cX9_houseAct 6 = .ok (.aload_n 0, 1) := by decide +kernel
theorem dX9_houseAct_7 : decode cX9_houseAct 7 = .ok (.iload_n 1, 1) := by decide +kernel
theorem dX9_houseAct_8 : decode cX9_houseAct 8 = .ok (.iload_n 3, 1) := by decide +kernel
theorem dX9_houseAct_9 : decode cX9_houseAct 9 = .ok (.bipush 65, 2) := by decide +kernel
theorem dX9_houseAct_11 : decode cX9_houseAct 11 = .ok (.isub, 1) := by decide +kernel
theorem dX9_houseAct_12 : decode cX9_houseAct 12 = .ok (.invokevirtual 67, 3) := by decide +kernel
theorem dX9_houseAct_15 : decode cX9_houseAct 15 = .ok (.goto 40, 3) := by decide +kernel
theorem dX9_houseAct_18 : decode cX9_houseAct 18 = .ok (.iload_n 2, 1) := by decide +kernel
theorem dX9_houseAct_19 : decode cX9_houseAct 19 = .ok (.bipush 45, 2) := by decide +kernel
theorem dX9_houseAct_21 : decode cX9_houseAct 21 = .ok (.if_icmp .ne 11, 3) := by decide +kernel
theorem dX9_houseAct_24 : decode cX9_houseAct 24 = .ok (.aload_n 0, 1) := by decide +kernel
theorem dX9_houseAct_25 : decode cX9_houseAct 25 = .ok (.iload_n 1, 1) := by decide +kernel
theorem dX9_houseAct_26 : decode cX9_houseAct 26 = .ok (.invokevirtual 71, 3) := by decide +kernel
theorem dX9_houseAct_29 : decode cX9_houseAct 29 = .ok (.goto 26, 3) := by decide +kernel
theorem dX9_houseAct_32 : decode cX9_houseAct 32 = .ok (.iload_n 2, 1) := by decide +kernel
theorem dX9_houseAct_33 : decode cX9_houseAct 33 = .ok (.bipush 42, 2) := by decide +kernel
theorem dX9_houseAct_35 : decode cX9_houseAct 35 = .ok (.if_icmp .ne 11, 3) := by decide +kernel
theorem dX9_houseAct_38 : decode cX9_houseAct 38 = .ok (.aload_n 0, 1) := by decide +kernel
theorem dX9_houseAct_39 : decode cX9_houseAct 39 = .ok (.iload_n 1, 1) := by decide +kernel
theorem dX9_houseAct_40 : decode cX9_houseAct 40 = .ok (.invokevirtual 75, 3) := by decide +kernel
theorem dX9_houseAct_43 : decode cX9_houseAct 43 = .ok (.goto 12, 3) := by decide +kernel
theorem dX9_houseAct_46 : decode cX9_houseAct 46 = .ok (.aload_n 0, 1) := by decide +kernel
theorem dX9_houseAct_47 : decode cX9_houseAct 47 = .ok (.iload_n 1, 1) := by decide +kernel
theorem dX9_houseAct_48 : decode cX9_houseAct 48 = .ok (.iload_n 2, 1) := by decide +kernel
theorem dX9_houseAct_49 : decode cX9_houseAct 49 = .ok (.bipush 48, 2) := by decide +kernel
theorem dX9_houseAct_51 : decode cX9_houseAct 51 = .ok (.isub, 1) := by decide +kernel
theorem dX9_houseAct_52 : decode cX9_houseAct 52 = .ok (.invokevirtual 78, 3) := by decide +kernel
theorem dX9_houseAct_55 : decode cX9_houseAct 55 = .ok (.ireturn, 1) := by decide +kernel
def wtX9_houseAct : List Cond := .code yX9_houseAct cX9_houseAct 4 (some .int) :: (([]) ++ ((wsV RX9 67 RX9 yX9_wed wtX9_wed) ++ ((wsV RX9 71 RX9 yX9_part wtX9_part) ++ ((wsV RX9 75 RX9 yX9_burn wtX9_burn) ++ ((wsV RX9 78 RX9 yX9_take wtX9_take) ++ [])))))
theorem imX9_houseAct_own : ∀ w ∈ ([] : List Cond), w ∈ wtX9_houseAct := fun w h => List.mem_cons_of_mem _ (inl h)
theorem imX9_houseAct_c_X9_wed : ∀ w ∈ (wsV RX9 67 RX9 yX9_wed wtX9_wed : List Cond), w ∈ wtX9_houseAct := fun w h => List.mem_cons_of_mem _ (inr (inl h))
theorem imX9_houseAct_c_X9_part : ∀ w ∈ (wsV RX9 71 RX9 yX9_part wtX9_part : List Cond), w ∈ wtX9_houseAct := fun w h => List.mem_cons_of_mem _ (inr (inr (inl h)))
theorem imX9_houseAct_c_X9_burn : ∀ w ∈ (wsV RX9 75 RX9 yX9_burn wtX9_burn : List Cond), w ∈ wtX9_houseAct := fun w h => List.mem_cons_of_mem _ (inr (inr (inr (inl h))))
theorem imX9_houseAct_c_X9_take : ∀ w ∈ (wsV RX9 78 RX9 yX9_take wtX9_take : List Cond), w ∈ wtX9_houseAct := fun w h => List.mem_cons_of_mem _ (inr (inr (inr (inr (inl h)))))
theorem gdX9_houseAct : ∀ w ∈ wtX9_houseAct, Gd w := gdc rfl (gda (gdl (by decide +kernel)) (gda (gda (gdl (by decide +kernel)) gdX9_wed) (gda (gda (gdl (by decide +kernel)) gdX9_part) (gda (gda (gdl (by decide +kernel)) gdX9_burn) (gda (gda (gdl (by decide +kernel)) gdX9_take) gdn)))))
theorem gcX9_houseAct_X9_wed : GoodIn wtX9_houseAct (wsV RX9 67 RX9 yX9_wed wtX9_wed) := fun w h => ⟨imX9_houseAct_c_X9_wed w h, (gda (gdl (by decide +kernel)) gdX9_wed) w h⟩
theorem gcX9_houseAct_X9_part : GoodIn wtX9_houseAct (wsV RX9 71 RX9 yX9_part wtX9_part) := fun w h => ⟨imX9_houseAct_c_X9_part w h, (gda (gdl (by decide +kernel)) gdX9_part) w h⟩
theorem gcX9_houseAct_X9_burn : GoodIn wtX9_houseAct (wsV RX9 75 RX9 yX9_burn wtX9_burn) := fun w h => ⟨imX9_houseAct_c_X9_burn w h, (gda (gdl (by decide +kernel)) gdX9_burn) w h⟩
theorem gcX9_houseAct_X9_take : GoodIn wtX9_houseAct (wsV RX9 78 RX9 yX9_take wtX9_take) := fun w h => ⟨imX9_houseAct_c_X9_take w h, (gda (gdl (by decide +kernel)) gdX9_take) w h⟩
def fX9_houseAct (v_weddings : Int32) (v_now : Nat → Int32) (v_of : Nat → Int32) (x1 : Int32) (x2 : Int32) (x3 : Int32) : Option (Int32 × Int32 × (Nat → Int32)) :=
  if x2 = (43 : Int32) then
    (fX9_wed v_weddings v_now v_of x1 (x3 - (65 : Int32))).bind (fun r7 =>
      some (r7.1, r7.2.1, r7.2.2))
  else
    if x2 = (45 : Int32) then
      (fX9_part v_now x1).bind (fun r6 =>
        some (r6.1, v_weddings, r6.2))
    else
      if x2 = (42 : Int32) then
        (fX9_burn v_now x1).bind (fun r5 =>
          some (r5.1, v_weddings, r5.2))
      else
        (fX9_take v_now x1 (x2 - (48 : Int32))).bind (fun r4 =>
          some (r4.1, v_weddings, r4.2))
def wdX9_houseAct (cI cZ : ClassId) (q0 : Nat) (q1 : Nat) (q2 : Nat) (d3 : Nat) (d4 : Nat) (d5 : Nat) (d6 : Nat) (d7 : Nat) (d8 : Nat) (d9 : Nat) (d10 : Nat)  (v_weddings : Int32) (v_now : Nat → Int32) (v_of : Nat → Int32) (v_sights : Int32) (v_signs : Int32) (v_reason : Int32) (v_acts : Int32) : va_W := [(q0, .inr (9, [.ref d3, .ref q1, .ref q2, .int v_sights, .ref d4, .int v_signs, .ref d5, .int v_weddings, .int v_reason, .int v_acts, .ref d6, .ref d7, .ref d8, .ref d9, .ref d10])), (q1, .inl (cI, 35, .inl v_now)), (q2, .inl (cI, 60, .inl v_of))]
abbrev rmX9_houseAct : Jvm.Room := { frames := 1, cells := 0, slots := 0, locals := 22 }
theorem hyX9_houseAct : yX9_houseAct.cls ≠ "java/lang/invoke/MethodHandle" ∧ yX9_houseAct.cls ≠ "java/lang/invoke/VarHandle" ∧ (parseMethodDescriptor yX9_houseAct.desc).map (fun d => d.parameters.length) = some 3 := by decide +kernel
set_option maxHeartbeats 4000000 in
set_option maxRecDepth 100000 in
theorem mX9_houseAct (l : Launch) (D : va_G) (cI cZ : ClassId) (q0 : Nat) (q1 : Nat) (q2 : Nat) (d3 : Nat) (d4 : Nat) (d5 : Nat) (d6 : Nat) (d7 : Nat) (d8 : Nat) (d9 : Nat) (d10 : Nat) (v_weddings : Int32) (v_now : Nat → Int32) (v_of : Nat → Int32) (v_sights : Int32) (v_signs : Int32) (v_reason : Int32) (v_acts : Int32) (x1 : Int32) (x2 : Int32) (x3 : Int32) (z : Int32 × Int32 × (Nat → Int32)) (hF : fX9_houseAct v_weddings v_now v_of x1 x2 x3 = some z) : mp l yX9_houseAct wtX9_houseAct rmX9_houseAct D cI cZ [.ref q0, .int x1, .int x2, .int x3] (wdX9_houseAct cI cZ q0 q1 q2 d3 d4 d5 d6 d7 d8 d9 d10 v_weddings v_now v_of v_sights v_signs v_reason v_acts) (some (.int z.1)) (wdX9_houseAct cI cZ q0 q1 q2 d3 d4 d5 d6 d7 d8 d9 d10 z.2.1 z.2.2 v_of v_sights v_signs v_reason v_acts) := by
  refine mp_i (lv0 := [(0, .ref q0), (1, .int x1), (2, .int x2), (3, .int x3)]) cX9_houseAct 4 z.1 (by decide) rfl (Nat.le_of_ble_eq_true rfl) rfl (fun E h hend0 => ?_)
  have hend : ∀ (z' : Int32 × Int32 × (Nat → Int32)), some z' = some z → ∀ (pc : Nat) (lv : List (Nat × Value)), decode cX9_houseAct pc = .ok (.ireturn, 1) → G l D E 4 0 0 (wdX9_houseAct cI cZ q0 q1 q2 d3 d4 d5 d6 d7 d8 d9 d10 (z'.2.1) (z'.2.2) v_of v_sights v_signs v_reason v_acts) pc lv [.int z'.1] := fun z' e => by cases e; exact hend0
  clear hend0
  unfold fX9_houseAct at hF
  refine g_iload_n (np := 1) h 2 rfl rfl dX9_houseAct_0 rfl ?_
  refine g_bipush (np := 3) (v := (43 : Int32)) h (by decide) dX9_houseAct_1 rfl ?_
  refine g_icmp_ne h hF dX9_houseAct_3 (np := 6) rfl (tg := 18) rfl (fun c1 hF => ?_) (fun c1 hF => ?_)
  · refine g_iload_n (np := 19) h 2 rfl rfl dX9_houseAct_18 rfl ?_
    refine g_bipush (np := 21) (v := (45 : Int32)) h (by decide) dX9_houseAct_19 rfl ?_
    refine g_icmp_ne h hF dX9_houseAct_21 (np := 24) rfl (tg := 32) rfl (fun c2 hF => ?_) (fun c2 hF => ?_)
    · refine g_iload_n (np := 33) h 2 rfl rfl dX9_houseAct_32 rfl ?_
      refine g_bipush (np := 35) (v := (42 : Int32)) h (by decide) dX9_houseAct_33 rfl ?_
      refine g_icmp_ne h hF dX9_houseAct_35 (np := 38) rfl (tg := 46) rfl (fun c3 hF => ?_) (fun c3 hF => ?_)
      · refine g_aload_n (np := 47) h 0 rfl rfl dX9_houseAct_46 rfl ?_
        refine g_iload_n (np := 48) h 1 rfl rfl dX9_houseAct_47 rfl ?_
        refine g_iload_n (np := 49) h 2 rfl rfl dX9_houseAct_48 rfl ?_
        refine g_bipush (np := 51) (v := (48 : Int32)) h (by decide) dX9_houseAct_49 rfl ?_
        refine g_isub (np := 52) h dX9_houseAct_51 rfl ?_
        obtain ⟨r4, hr4, hF⟩ := Option.bind_eq_some_iff.mp hF
        refine g_callV (np := 55) (Wd' := (wdX9_houseAct cI cZ q0 q1 q2 d3 d4 d5 d6 d7 d8 d9 d10 v_weddings r4.2 v_of v_sights v_signs v_reason v_acts)) (As := [.int x1, .int (x2 - (48 : Int32))]) h (mX9_take l D cI cZ q0 q1 d3 q2 d4 d5 d6 d7 d8 d9 d10 v_now v_sights v_signs v_weddings v_reason v_acts x1 (x2 - (48 : Int32)) r4 hr4) gcX9_houseAct_X9_take rfl ⟨rfl, rfl⟩ ⟨rfl, hyX9_take⟩ rfl 9 0 rfl rfl rfl rfl rfl rfl ⟨Nat.zero_le _, Nat.zero_le _⟩ [0, 1] [2] (N := 3) (by decide +kernel) rfl rfl rfl rfl rfl dX9_houseAct_52 rfl ?_
        exact hend _ hF _ _ dX9_houseAct_55
      · refine g_aload_n (np := 39) h 0 rfl rfl dX9_houseAct_38 rfl ?_
        refine g_iload_n (np := 40) h 1 rfl rfl dX9_houseAct_39 rfl ?_
        obtain ⟨r5, hr5, hF⟩ := Option.bind_eq_some_iff.mp hF
        refine g_callV (np := 43) (Wd' := (wdX9_houseAct cI cZ q0 q1 q2 d3 d4 d5 d6 d7 d8 d9 d10 v_weddings r5.2 v_of v_sights v_signs v_reason v_acts)) (As := [.int x1]) h (mX9_burn l D cI cZ q0 q1 d3 q2 d4 d5 d6 d7 d8 d9 d10 v_now v_sights v_signs v_weddings v_reason v_acts x1 r5 hr5) gcX9_houseAct_X9_burn rfl ⟨rfl, rfl⟩ ⟨rfl, hyX9_burn⟩ rfl 9 0 rfl rfl rfl rfl rfl rfl ⟨Nat.zero_le _, Nat.zero_le _⟩ [0, 1] [2] (N := 3) (by decide +kernel) rfl rfl rfl rfl rfl dX9_houseAct_40 rfl ?_
        refine g_goto h dX9_houseAct_43 (np := 55) rfl ?_
        exact hend _ hF _ _ dX9_houseAct_55
    · refine g_aload_n (np := 25) h 0 rfl rfl dX9_houseAct_24 rfl ?_
      refine g_iload_n (np := 26) h 1 rfl rfl dX9_houseAct_25 rfl ?_
      obtain ⟨r6, hr6, hF⟩ := Option.bind_eq_some_iff.mp hF
      refine g_callV (np := 29) (Wd' := (wdX9_houseAct cI cZ q0 q1 q2 d3 d4 d5 d6 d7 d8 d9 d10 v_weddings r6.2 v_of v_sights v_signs v_reason v_acts)) (As := [.int x1]) h (mX9_part l D cI cZ q0 q1 d3 q2 d4 d5 d6 d7 d8 d9 d10 v_now v_sights v_signs v_weddings v_reason v_acts x1 r6 hr6) gcX9_houseAct_X9_part rfl ⟨rfl, rfl⟩ ⟨rfl, hyX9_part⟩ rfl 9 0 rfl rfl rfl rfl rfl rfl ⟨Nat.zero_le _, Nat.zero_le _⟩ [0, 1] [2] (N := 3) (by decide +kernel) rfl rfl rfl rfl rfl dX9_houseAct_26 rfl ?_
      refine g_goto h dX9_houseAct_29 (np := 55) rfl ?_
      exact hend _ hF _ _ dX9_houseAct_55
  · refine g_aload_n (np := 7) h 0 rfl rfl dX9_houseAct_6 rfl ?_
    refine g_iload_n (np := 8) h 1 rfl rfl dX9_houseAct_7 rfl ?_
    refine g_iload_n (np := 9) h 3 rfl rfl dX9_houseAct_8 rfl ?_
    refine g_bipush (np := 11) (v := (65 : Int32)) h (by decide) dX9_houseAct_9 rfl ?_
    refine g_isub (np := 12) h dX9_houseAct_11 rfl ?_
    obtain ⟨r7, hr7, hF⟩ := Option.bind_eq_some_iff.mp hF
    refine g_callV (np := 15) (Wd' := (wdX9_houseAct cI cZ q0 q1 q2 d3 d4 d5 d6 d7 d8 d9 d10 r7.2.1 r7.2.2 v_of v_sights v_signs v_reason v_acts)) (As := [.int x1, .int (x3 - (65 : Int32))]) h (mX9_wed l D cI cZ q0 q1 q2 d3 d4 d5 d6 d7 d8 d9 d10 v_weddings v_now v_of v_sights v_signs v_reason v_acts x1 (x3 - (65 : Int32)) r7 hr7) gcX9_houseAct_X9_wed rfl ⟨rfl, rfl⟩ ⟨rfl, hyX9_wed⟩ rfl 9 0 rfl rfl rfl rfl rfl rfl ⟨Nat.zero_le _, Nat.zero_le _⟩ [0, 1, 2] [] (N := 3) (by decide +kernel) rfl rfl rfl rfl rfl dX9_houseAct_12 rfl ?_
    refine g_goto h dX9_houseAct_15 (np := 55) rfl ?_
    exact hend _ hF _ _ dX9_houseAct_55
theorem dX9_goYears_0 : decode cX9_goYears 0 = .ok (.aload_n 0, 1) := by decide +kernel
theorem dX9_goYears_1 : decode cX9_goYears 1 = .ok (.invokevirtual 81, 3) := by decide +kernel
theorem dX9_goYears_4 : decode cX9_goYears 4 = .ok (.aload_n 0, 1) := by decide +kernel
theorem dX9_goYears_5 : decode cX9_goYears 5 = .ok (.iconst 0, 1) := by decide +kernel
theorem dX9_goYears_6 : decode cX9_goYears 6 = .ok (.putfield 84, 3) := by decide +kernel
theorem dX9_goYears_9 : decode cX9_goYears 9 = .ok (.iconst 0, 1) := by decide +kernel
theorem dX9_goYears_10 : decode cX9_goYears 10 = .ok (.istore_n 1, 1) := by decide +kernel
theorem dX9_goYears_11 : decode cX9_goYears 11 = .ok (.iload_n 1, 1) := by decide +kernel
theorem dX9_goYears_12 : decode cX9_goYears 12 = .ok (.aload_n 0, 1) := by decide +kernel
theorem dX9_goYears_13 : decode cX9_goYears 13 = .ok (.getfield 50, 3) := by decide +kernel
theorem dX9_goYears_16 : decode cX9_goYears 16 = .ok (.if_icmp .ge 127, 3) := by decide +kernel
theorem dX9_goYears_19 : decode cX9_goYears 19 = .ok (.aload_n 0, 1) := by decide +kernel
theorem dX9_goYears_20 : decode cX9_goYears 20 = .ok (.getfield 22, 3) := by decide +kernel
theorem dX9_goYears_23 : decode cX9_goYears 23 = .ok (.iload_n 1, 1) := by decide +kernel
theorem dX9_goYears_24 : decode cX9_goYears 24 = .ok (.iaload, 1) := by decide +kernel
theorem dX9_goYears_25 : decode cX9_goYears 25 = .ok (.istore_n 2, 1) := by decide +kernel
theorem dX9_goYears_26 : decode cX9_goYears 26 = .ok (.iload_n 2, 1) := by decide +kernel
theorem dX9_goYears_27 : decode cX9_goYears 27 = .ok (.invokestatic 54, 3) := by decide +kernel
theorem dX9_goYears_30 : decode cX9_goYears 30 = .ok (.ifCond .eq 60, 3) := by decide +kernel
theorem dX9_goYears_33 : decode cX9_goYears 33 = .ok (.aload_n 0, 1) := by decide +kernel
theorem dX9_goYears_34 : decode cX9_goYears 34 = .ok (.getfield 22, 3) := by decide +kernel
theorem dX9_goYears_37 : decode cX9_goYears 37 = .ok (.iload_n 1, 1) := by decide +kernel
theorem dX9_goYears_38 : decode cX9_goYears 38 = .ok (.iconst 1, 1) := by decide +kernel
theorem dX9_goYears_39 : decode cX9_goYears 39 = .ok (.iadd, 1) := by decide +kernel
theorem dX9_goYears_40 : decode cX9_goYears 40 = .ok (.iaload, 1) := by decide +kernel
theorem dX9_goYears_41 : decode cX9_goYears 41 = .ok (.istore_n 3, 1) := by decide +kernel
theorem dX9_goYears_42 : decode cX9_goYears 42 = .ok (.aload_n 0, 1) := by decide +kernel
theorem dX9_goYears_43 : decode cX9_goYears 43 = .ok (.aload_n 0, 1) := by decide +kernel
theorem dX9_goYears_44 : decode cX9_goYears 44 = .ok (.iload_n 2, 1) := by decide +kernel
theorem dX9_goYears_45 : decode cX9_goYears 45 = .ok (.bipush 65, 2) := by decide +kernel
theorem dX9_goYears_47 : decode cX9_goYears 47 = .ok (.isub, 1) := by decide +kernel
theorem dX9_goYears_48 : decode cX9_goYears 48 = .ok (.iload_n 3, 1) := by decide +kernel
theorem dX9_goYears_49 : decode cX9_goYears 49 = .ok (.iload_n 3, 1) := by decide +kernel
theorem dX9_goYears_50 : decode cX9_goYears 50 = .ok (.bipush 43, 2) := by decide +kernel
theorem dX9_goYears_52 : decode cX9_goYears 52 = .ok (.if_icmp .ne 14, 3) := by decide +kernel
theorem dX9_goYears_55 : decode cX9_goYears 55 = .ok (.aload_n 0, 1) := by decide +kernel
theorem dX9_goYears_56 : decode cX9_goYears 56 = .ok (.getfield 22, 3) := by decide +kernel
theorem dX9_goYears_59 : decode cX9_goYears 59 = .ok (.iload_n 1, 1) := by decide +kernel
theorem dX9_goYears_60 : decode cX9_goYears 60 = .ok (.iconst 2, 1) := by decide +kernel
theorem dX9_goYears_61 : decode cX9_goYears 61 = .ok (.iadd, 1) := by decide +kernel
theorem dX9_goYears_62 : decode cX9_goYears 62 = .ok (.iaload, 1) := by decide +kernel
theorem dX9_goYears_63 : decode cX9_goYears 63 = .ok (.goto 4, 3) := by decide +kernel
theorem dX9_goYears_66 : decode cX9_goYears 66 = .ok (.iconst 0, 1) := by decide +kernel
theorem dX9_goYears_67 : decode cX9_goYears 67 = .ok (.invokevirtual 87, 3) := by decide +kernel
theorem dX9_goYears_70 : decode cX9_goYears 70 = .ok (.putfield 91, 3) := by decide +kernel
theorem dX9_goYears_73 : decode cX9_goYears 73 = .ok (.iload_n 1, 1) := by decide +kernel
theorem dX9_goYears_74 : decode cX9_goYears 74 = .ok (.iload_n 3, 1) := by decide +kernel
theorem dX9_goYears_75 : decode cX9_goYears 75 = .ok (.bipush 43, 2) := by decide +kernel
theorem dX9_goYears_77 : decode cX9_goYears 77 = .ok (.if_icmp .ne 7, 3) := by decide +kernel
theorem dX9_goYears_80 : decode cX9_goYears 80 = .ok (.iconst 3, 1) := by decide +kernel
theorem dX9_goYears_81 : decode cX9_goYears 81 = .ok (.goto 4, 3) := by decide +kernel
theorem dX9_goYears_84 : decode cX9_goYears 84 = .ok (.iconst 2, 1) := by decide +kernel
theorem dX9_goYears_85 : decode cX9_goYears 85 = .ok (.iadd, 1) := by decide +kernel
theorem dX9_goYears_86 : decode cX9_goYears 86 = .ok (.istore_n 1, 1) := by decide +kernel
theorem dX9_goYears_87 : decode cX9_goYears 87 = .ok (.goto 31, 3) := by decide +kernel
theorem dX9_goYears_90 : decode cX9_goYears 90 = .ok (.aload_n 0, 1) := by decide +kernel
theorem dX9_goYears_91 : decode cX9_goYears 91 = .ok (.iload_n 2, 1) := by decide +kernel
theorem dX9_goYears_92 : decode cX9_goYears 92 = .ok (.bipush 46, 2) := by decide +kernel
theorem dX9_goYears_94 : decode cX9_goYears 94 = .ok (.if_icmp .ne 10, 3) := by decide +kernel
theorem dX9_goYears_97 : decode cX9_goYears 97 = .ok (.aload_n 0, 1) := by decide +kernel
theorem dX9_goYears_98 : decode cX9_goYears 98 = .ok (.invokevirtual 94, 3) := by decide +kernel
theorem dX9_goYears_101 : decode cX9_goYears 101 = .ok (.goto 11, 3) := by decide +kernel
theorem dX9_goYears_104 : decode cX9_goYears 104 = .ok (.aload_n 0, 1) := by decide +kernel
theorem dX9_goYears_105 : decode cX9_goYears 105 = .ok (.iload_n 2, 1) := by decide +kernel
theorem dX9_goYears_106 : decode cX9_goYears 106 = .ok (.bipush 48, 2) := by decide +kernel
theorem dX9_goYears_108 : decode cX9_goYears 108 = .ok (.isub, 1) := by decide +kernel
theorem dX9_goYears_109 : decode cX9_goYears 109 = .ok (.invokevirtual 97, 3) := by decide +kernel
theorem dX9_goYears_112 : decode cX9_goYears 112 = .ok (.putfield 91, 3) := by decide +kernel
theorem dX9_goYears_115 : decode cX9_goYears 115 = .ok (.iinc 1 1, 3) := by decide +kernel
theorem dX9_goYears_118 : decode cX9_goYears 118 = .ok (.aload_n 0, 1) := by decide +kernel
theorem dX9_goYears_119 : decode cX9_goYears 119 = .ok (.getfield 91, 3) := by decide +kernel
theorem dX9_goYears_122 : decode cX9_goYears 122 = .ok (.ifCond .le 8, 3) := by decide +kernel
theorem dX9_goYears_125 : decode cX9_goYears 125 = .ok (.aload_n 0, 1) := by decide +kernel
theorem dX9_goYears_126 : decode cX9_goYears 126 = .ok (.getfield 84, 3) := by decide +kernel
theorem dX9_goYears_129 : decode cX9_goYears 129 = .ok (.ireturn, 1) := by decide +kernel
theorem dX9_goYears_130 : decode cX9_goYears 130 = .ok (.aload_n 0, 1) := by decide +kernel
theorem dX9_goYears_131 : decode cX9_goYears 131 = .ok (.dup, 1) := by decide +kernel
theorem dX9_goYears_132 : decode cX9_goYears 132 = .ok (.getfield 84, 3) := by decide +kernel
theorem dX9_goYears_135 : decode cX9_goYears 135 = .ok (.iconst 1, 1) := by decide +kernel
theorem dX9_goYears_136 : decode cX9_goYears 136 = .ok (.iadd, 1) := by decide +kernel
theorem dX9_goYears_137 : decode cX9_goYears 137 = .ok (.putfield 84, 3) := by decide +kernel
theorem dX9_goYears_140 : decode cX9_goYears 140 = .ok (.goto (-129), 3) := by decide +kernel
theorem dX9_goYears_143 : decode cX9_goYears 143 = .ok (.bipush (-6), 2) := by decide +kernel
theorem dX9_goYears_145 : decode cX9_goYears 145 = .ok (.ireturn, 1) := by decide +kernel
def wtX9_goYears : List Cond := .code yX9_goYears cX9_goYears 4 (some .int) :: (([.fieldLink RX9 84 "DriftKinModel" "acts" "I", .fieldLink RX9 50 "DriftKinModel" "signs" "I", .fieldLink RX9 22 "DriftKinModel" "pad" "[I", .fieldLink RX9 91 "DriftKinModel" "reason" "I"]) ++ ((u_ws RX9 TX9 15) ++ ((wsV RX9 81 RX9 yX9_asNow wtX9_asNow) ++ ((va_wsS RX9 54 yX9_isLetter wtX9_isLetter) ++ ((wsV RX9 87 RX9 yX9_houseAct wtX9_houseAct) ++ ((wsV RX9 94 RX9 yX9_endYear wtX9_endYear) ++ ((wsV RX9 97 RX9 yX9_comeIn wtX9_comeIn) ++ [])))))))
theorem imX9_goYears_own : ∀ w ∈ ([.fieldLink RX9 84 "DriftKinModel" "acts" "I", .fieldLink RX9 50 "DriftKinModel" "signs" "I", .fieldLink RX9 22 "DriftKinModel" "pad" "[I", .fieldLink RX9 91 "DriftKinModel" "reason" "I"] : List Cond), w ∈ wtX9_goYears := fun w h => List.mem_cons_of_mem _ (inl h)
theorem imX9_goYears_u_X9 : ∀ w ∈ (u_ws RX9 TX9 15 : List Cond), w ∈ wtX9_goYears := fun w h => List.mem_cons_of_mem _ (inr (inl h))
theorem imX9_goYears_c_X9_asNow : ∀ w ∈ (wsV RX9 81 RX9 yX9_asNow wtX9_asNow : List Cond), w ∈ wtX9_goYears := fun w h => List.mem_cons_of_mem _ (inr (inr (inl h)))
theorem imX9_goYears_c_X9_isLetter : ∀ w ∈ (va_wsS RX9 54 yX9_isLetter wtX9_isLetter : List Cond), w ∈ wtX9_goYears := fun w h => List.mem_cons_of_mem _ (inr (inr (inr (inl h))))
theorem imX9_goYears_c_X9_houseAct : ∀ w ∈ (wsV RX9 87 RX9 yX9_houseAct wtX9_houseAct : List Cond), w ∈ wtX9_goYears := fun w h => List.mem_cons_of_mem _ (inr (inr (inr (inr (inl h)))))
theorem imX9_goYears_c_X9_endYear : ∀ w ∈ (wsV RX9 94 RX9 yX9_endYear wtX9_endYear : List Cond), w ∈ wtX9_goYears := fun w h => List.mem_cons_of_mem _ (inr (inr (inr (inr (inr (inl h))))))
theorem imX9_goYears_c_X9_comeIn : ∀ w ∈ (wsV RX9 97 RX9 yX9_comeIn wtX9_comeIn : List Cond), w ∈ wtX9_goYears := fun w h => List.mem_cons_of_mem _ (inr (inr (inr (inr (inr (inr (inl h)))))))
theorem gdX9_goYears : ∀ w ∈ wtX9_goYears, Gd w := gdc rfl (gda (gdl (by decide +kernel)) (gda (gdu _ _ _) (gda (gda (gdl (by decide +kernel)) gdX9_asNow) (gda (gda (gdl (by decide +kernel)) gdX9_isLetter) (gda (gda (gdl (by decide +kernel)) gdX9_houseAct) (gda (gda (gdl (by decide +kernel)) gdX9_endYear) (gda (gda (gdl (by decide +kernel)) gdX9_comeIn) gdn)))))))
theorem gcX9_goYears_X9_asNow : GoodIn wtX9_goYears (wsV RX9 81 RX9 yX9_asNow wtX9_asNow) := fun w h => ⟨imX9_goYears_c_X9_asNow w h, (gda (gdl (by decide +kernel)) gdX9_asNow) w h⟩
theorem gcX9_goYears_X9_isLetter : GoodIn wtX9_goYears (va_wsS RX9 54 yX9_isLetter wtX9_isLetter) := fun w h => ⟨imX9_goYears_c_X9_isLetter w h, (gda (gdl (by decide +kernel)) gdX9_isLetter) w h⟩
theorem gcX9_goYears_X9_houseAct : GoodIn wtX9_goYears (wsV RX9 87 RX9 yX9_houseAct wtX9_houseAct) := fun w h => ⟨imX9_goYears_c_X9_houseAct w h, (gda (gdl (by decide +kernel)) gdX9_houseAct) w h⟩
theorem gcX9_goYears_X9_endYear : GoodIn wtX9_goYears (wsV RX9 94 RX9 yX9_endYear wtX9_endYear) := fun w h => ⟨imX9_goYears_c_X9_endYear w h, (gda (gdl (by decide +kernel)) gdX9_endYear) w h⟩
theorem gcX9_goYears_X9_comeIn : GoodIn wtX9_goYears (wsV RX9 97 RX9 yX9_comeIn wtX9_comeIn) := fun w h => ⟨imX9_goYears_c_X9_comeIn w h, (gda (gdl (by decide +kernel)) gdX9_comeIn) w h⟩
def fX9_goYears_118 (k11 : Int32 → Int32 → Int32 → (Nat → Int32) → Int32 → Option (Int32 × Int32 × Int32 × Int32 × (Nat → Int32))) (v_signs : Int32) (v_weddings : Int32) (v_reason : Int32) (v_acts : Int32) (v_now : Nat → Int32) (v_of : Nat → Int32) (v_pad : Nat → Int32) (x1 : Int32) : Option (Int32 × Int32 × Int32 × Int32 × (Nat → Int32)) :=
  if v_reason ≤ (0 : Int32) then
    k11 v_weddings v_reason (v_acts + (1 : Int32)) v_now x1
  else
    some (v_acts, v_weddings, v_reason, v_acts, v_now)
def fX9_goYears_67 (k11 : Int32 → Int32 → Int32 → (Nat → Int32) → Int32 → Option (Int32 × Int32 × Int32 × Int32 × (Nat → Int32))) (v_signs : Int32) (v_weddings : Int32) (v_reason : Int32) (v_acts : Int32) (v_now : Nat → Int32) (v_of : Nat → Int32) (v_pad : Nat → Int32) (x1 : Int32) (x3 : Int32) (s0 : Int32) (s1 : Int32) (s2 : Int32) : Option (Int32 × Int32 × Int32 × Int32 × (Nat → Int32)) :=
  (fX9_houseAct v_weddings v_now v_of s2 s1 s0).bind (fun r2001 =>
    if x3 = (43 : Int32) then
      fX9_goYears_118 k11 v_signs r2001.2.1 r2001.1 v_acts r2001.2.2 v_of v_pad (x1 + (3 : Int32))
    else
      fX9_goYears_118 k11 v_signs r2001.2.1 r2001.1 v_acts r2001.2.2 v_of v_pad (x1 + (2 : Int32)))
def fX9_goYears_11 (v_signs : Int32) (v_of : Nat → Int32) (v_pad : Nat → Int32) : Nat → Int32 → Int32 → Int32 → (Nat → Int32) → Int32 → Option (Int32 × Int32 × Int32 × Int32 × (Nat → Int32))
  | 0, _, _, _, _, _ => none
  | n + 1, v_weddings, v_reason, v_acts, v_now, x1 =>
    if v_signs ≤ x1 then
      some ((-6 : Int32), v_weddings, v_reason, v_acts, v_now)
    else
      chk x1 60 (
        (fX9_isLetter (rd v_pad x1)).bind (fun r3003 =>
          if r3003 = (0 : Int32) then
            if (rd v_pad x1) = (46 : Int32) then
              (fX9_endYear v_now).bind (fun r3007 =>
                fX9_goYears_118 (fun y0 y1 y2 y3 y4 => fX9_goYears_11 v_signs v_of v_pad n y0 y1 y2 y3 y4) v_signs v_weddings r3007.1 v_acts r3007.2 v_of v_pad (x1 + (1 : Int32)))
            else
              (fX9_comeIn v_now ((rd v_pad x1) - (48 : Int32))).bind (fun r3006 =>
                fX9_goYears_118 (fun y0 y1 y2 y3 y4 => fX9_goYears_11 v_signs v_of v_pad n y0 y1 y2 y3 y4) v_signs v_weddings r3006.1 v_acts r3006.2 v_of v_pad (x1 + (1 : Int32)))
          else
            chk (x1 + (1 : Int32)) 60 (
              if (rd v_pad (x1 + (1 : Int32))) = (43 : Int32) then
                chk (x1 + (2 : Int32)) 60 (
                  fX9_goYears_67 (fun y0 y1 y2 y3 y4 => fX9_goYears_11 v_signs v_of v_pad n y0 y1 y2 y3 y4) v_signs v_weddings v_reason v_acts v_now v_of v_pad x1 (rd v_pad (x1 + (1 : Int32))) (rd v_pad (x1 + (2 : Int32))) (rd v_pad (x1 + (1 : Int32))) ((rd v_pad x1) - (65 : Int32)))
              else
                fX9_goYears_67 (fun y0 y1 y2 y3 y4 => fX9_goYears_11 v_signs v_of v_pad n y0 y1 y2 y3 y4) v_signs v_weddings v_reason v_acts v_now v_of v_pad x1 (rd v_pad (x1 + (1 : Int32))) (0 : Int32) (rd v_pad (x1 + (1 : Int32))) ((rd v_pad x1) - (65 : Int32)))))
def fX9_goYears (v_signs : Int32) (v_weddings : Int32) (v_reason : Int32) (v_acts : Int32) (v_book : Nat → Int32) (v_now : Nat → Int32) (v_of : Nat → Int32) (v_pad : Nat → Int32) : Option (Int32 × Int32 × Int32 × Int32 × (Nat → Int32)) :=
  (fX9_asNow v_weddings v_book v_now).bind (fun r1 =>
    fX9_goYears_11 v_signs v_of v_pad 2000 r1.1 v_reason (0 : Int32) r1.2 (0 : Int32))
def wdX9_goYears (cI cZ : ClassId) (q0 : Nat) (q1 : Nat) (q2 : Nat) (q3 : Nat) (q4 : Nat) (d5 : Nat) (d6 : Nat) (d7 : Nat) (d8 : Nat) (d9 : Nat) (d10 : Nat)  (v_signs : Int32) (v_weddings : Int32) (v_reason : Int32) (v_acts : Int32) (v_book : Nat → Int32) (v_now : Nat → Int32) (v_of : Nat → Int32) (v_pad : Nat → Int32) (v_sights : Int32) : va_W := [(q0, .inr (9, [.ref q1, .ref q2, .ref q3, .int v_sights, .ref d5, .int v_signs, .ref q4, .int v_weddings, .int v_reason, .int v_acts, .ref d6, .ref d7, .ref d8, .ref d9, .ref d10])), (q1, .inl (cI, 35, .inl v_book)), (q2, .inl (cI, 35, .inl v_now)), (q3, .inl (cI, 60, .inl v_of)), (q4, .inl (cI, 60, .inl v_pad))]
abbrev rmX9_goYears : Jvm.Room := { frames := 2, cells := 0, slots := 0, locals := 45 }
theorem hyX9_goYears : yX9_goYears.cls ≠ "java/lang/invoke/MethodHandle" ∧ yX9_goYears.cls ≠ "java/lang/invoke/VarHandle" ∧ (parseMethodDescriptor yX9_goYears.desc).map (fun d => d.parameters.length) = some 0 := by decide +kernel
set_option maxHeartbeats 4000000 in
set_option maxRecDepth 100000 in
theorem mX9_goYears (l : Launch) (D : va_G) (cI cZ : ClassId) (q0 : Nat) (q1 : Nat) (q2 : Nat) (q3 : Nat) (q4 : Nat) (d5 : Nat) (d6 : Nat) (d7 : Nat) (d8 : Nat) (d9 : Nat) (d10 : Nat) (v_signs : Int32) (v_weddings : Int32) (v_reason : Int32) (v_acts : Int32) (v_book : Nat → Int32) (v_now : Nat → Int32) (v_of : Nat → Int32) (v_pad : Nat → Int32) (v_sights : Int32) (z : Int32 × Int32 × Int32 × Int32 × (Nat → Int32)) (hF : fX9_goYears v_signs v_weddings v_reason v_acts v_book v_now v_of v_pad = some z) : mp l yX9_goYears wtX9_goYears rmX9_goYears D cI cZ [.ref q0] (wdX9_goYears cI cZ q0 q1 q2 q3 q4 d5 d6 d7 d8 d9 d10 v_signs v_weddings v_reason v_acts v_book v_now v_of v_pad v_sights) (some (.int z.1)) (wdX9_goYears cI cZ q0 q1 q2 q3 q4 d5 d6 d7 d8 d9 d10 v_signs z.2.1 z.2.2.1 z.2.2.2.1 v_book z.2.2.2.2 v_of v_pad v_sights) := by
  refine mp_i (lv0 := [(0, .ref q0)]) cX9_goYears 4 z.1 (by decide) rfl (Nat.le_of_ble_eq_true rfl) rfl (fun E h hend0 => ?_)
  have hend : ∀ (z' : Int32 × Int32 × Int32 × Int32 × (Nat → Int32)), some z' = some z → ∀ (pc : Nat) (lv : List (Nat × Value)), decode cX9_goYears pc = .ok (.ireturn, 1) → G l D E 4 0 0 (wdX9_goYears cI cZ q0 q1 q2 q3 q4 d5 d6 d7 d8 d9 d10 v_signs (z'.2.1) (z'.2.2.1) (z'.2.2.2.1) v_book (z'.2.2.2.2) v_of v_pad v_sights) pc lv [.int z'.1] := fun z' e => by cases e; exact hend0
  clear hend0
  have hL11 : ∀ (n11 : Nat) (v_weddings : Int32) (v_reason : Int32) (v_acts : Int32) (v_now : Nat → Int32) (x1 : Int32), fX9_goYears_11 v_signs v_of v_pad n11 v_weddings v_reason v_acts v_now x1 = some z → G l D E 4 0 0 (wdX9_goYears cI cZ q0 q1 q2 q3 q4 d5 d6 d7 d8 d9 d10 v_signs v_weddings v_reason v_acts v_book v_now v_of v_pad v_sights) 11 [(0, .ref q0), (1, .int x1)] [] := by
    intro n11
    induction n11 with
    | zero =>
      intro v_weddings v_reason v_acts v_now x1 hF
      rw [fX9_goYears_11] at hF
      cases hF
    | succ n11 ih11 =>
      have hL118 : ∀ (v_weddings : Int32) (v_reason : Int32) (v_acts : Int32) (v_now : Nat → Int32) (x1 : Int32), fX9_goYears_118 (fun y0 y1 y2 y3 y4 => fX9_goYears_11 v_signs v_of v_pad n11 y0 y1 y2 y3 y4) v_signs v_weddings v_reason v_acts v_now v_of v_pad x1 = some z → G l D E 4 0 0 (wdX9_goYears cI cZ q0 q1 q2 q3 q4 d5 d6 d7 d8 d9 d10 v_signs v_weddings v_reason v_acts v_book v_now v_of v_pad v_sights) 118 [(0, .ref q0), (1, .int x1)] [] := by
        intro v_weddings v_reason v_acts v_now x1 hF
        rw [fX9_goYears_118] at hF
        refine g_aload_n (np := 119) h 0 rfl rfl dX9_goYears_118 rfl ?_
        refine g_get (np := 122) (T := TX9) h imX9_goYears_u_X9 0 9 rfl rfl 8 (by decide) (imX9_goYears_own _ (List.mem_of_getElem? (i := 3) rfl)) rfl dX9_goYears_119 rfl ?_
        refine g_if_le h hF dX9_goYears_122 (np := 125) rfl (tg := 130) rfl (fun c1001 hF => ?_) (fun c1001 hF => ?_)
        · refine g_aload_n (np := 131) h 0 rfl rfl dX9_goYears_130 rfl ?_
          refine g_dup (np := 132) h rfl dX9_goYears_131 rfl ?_
          refine g_get (np := 135) (T := TX9) h imX9_goYears_u_X9 0 9 rfl rfl 9 (by decide) (imX9_goYears_own _ (List.mem_of_getElem? (i := 0) rfl)) rfl dX9_goYears_132 rfl ?_
          refine g_iconst (np := 136) (v := (1 : Int32)) h (by decide) dX9_goYears_135 rfl ?_
          refine g_iadd (np := 137) h dX9_goYears_136 rfl ?_
          refine g_put (np := 140) (T := TX9) (Wd' := (wdX9_goYears cI cZ q0 q1 q2 q3 q4 d5 d6 d7 d8 d9 d10 v_signs v_weddings v_reason (v_acts + (1 : Int32)) v_book v_now v_of v_pad v_sights)) h imX9_goYears_u_X9 tyX9_ok nmX9 0 9 rfl rfl 9 (by decide) (imX9_goYears_own _ (List.mem_of_getElem? (i := 0) rfl)) rfl rfl rfl (Nat.le_of_ble_eq_true rfl) rfl dX9_goYears_137 rfl ?_
          refine g_goto h dX9_goYears_140 (np := 11) rfl ?_
          exact ih11 v_weddings v_reason (v_acts + (1 : Int32)) v_now x1 hF
        · refine g_aload_n (np := 126) h 0 rfl rfl dX9_goYears_125 rfl ?_
          refine g_get (np := 129) (T := TX9) h imX9_goYears_u_X9 0 9 rfl rfl 9 (by decide) (imX9_goYears_own _ (List.mem_of_getElem? (i := 0) rfl)) rfl dX9_goYears_126 rfl ?_
          exact hend _ hF _ _ dX9_goYears_129
      have hL67 : ∀ (v_weddings : Int32) (v_reason : Int32) (v_acts : Int32) (v_now : Nat → Int32) (x1 : Int32) (x3 : Int32) (s0 : Int32) (s1 : Int32) (s2 : Int32), fX9_goYears_67 (fun y0 y1 y2 y3 y4 => fX9_goYears_11 v_signs v_of v_pad n11 y0 y1 y2 y3 y4) v_signs v_weddings v_reason v_acts v_now v_of v_pad x1 x3 s0 s1 s2 = some z → G l D E 4 0 0 (wdX9_goYears cI cZ q0 q1 q2 q3 q4 d5 d6 d7 d8 d9 d10 v_signs v_weddings v_reason v_acts v_book v_now v_of v_pad v_sights) 67 [(0, .ref q0), (1, .int x1), (3, .int x3)] [.int s0, .int s1, .int s2, .ref q0, .ref q0] := by
        intro v_weddings v_reason v_acts v_now x1 x3 s0 s1 s2 hF
        rw [fX9_goYears_67] at hF
        obtain ⟨r2001, hr2001, hF⟩ := Option.bind_eq_some_iff.mp hF
        refine g_callV (np := 70) (Wd' := (wdX9_goYears cI cZ q0 q1 q2 q3 q4 d5 d6 d7 d8 d9 d10 v_signs r2001.2.1 v_reason v_acts v_book r2001.2.2 v_of v_pad v_sights)) (As := [.int s2, .int s1, .int s0]) h (mX9_houseAct l D cI cZ q0 q2 q3 q1 d5 q4 d6 d7 d8 d9 d10 v_weddings v_now v_of v_sights v_signs v_reason v_acts s2 s1 s0 r2001 hr2001) gcX9_goYears_X9_houseAct rfl ⟨rfl, rfl⟩ ⟨rfl, hyX9_houseAct⟩ rfl 9 0 rfl rfl rfl rfl rfl rfl ⟨Nat.zero_le _, Nat.zero_le _⟩ [0, 2, 3] [1, 4] (N := 5) (by decide +kernel) rfl rfl rfl rfl rfl dX9_goYears_67 rfl ?_
        refine g_put (np := 73) (T := TX9) (Wd' := (wdX9_goYears cI cZ q0 q1 q2 q3 q4 d5 d6 d7 d8 d9 d10 v_signs r2001.2.1 r2001.1 v_acts v_book r2001.2.2 v_of v_pad v_sights)) h imX9_goYears_u_X9 tyX9_ok nmX9 0 9 rfl rfl 8 (by decide) (imX9_goYears_own _ (List.mem_of_getElem? (i := 3) rfl)) rfl rfl rfl (Nat.le_of_ble_eq_true rfl) rfl dX9_goYears_70 rfl ?_
        refine g_iload_n (np := 74) h 1 rfl rfl dX9_goYears_73 rfl ?_
        refine g_iload_n (np := 75) h 2 rfl rfl dX9_goYears_74 rfl ?_
        refine g_bipush (np := 77) (v := (43 : Int32)) h (by decide) dX9_goYears_75 rfl ?_
        refine g_icmp_ne h hF dX9_goYears_77 (np := 80) rfl (tg := 84) rfl (fun c2002 hF => ?_) (fun c2002 hF => ?_)
        · refine g_iconst (np := 85) (v := (2 : Int32)) h (by decide) dX9_goYears_84 rfl ?_
          refine g_iadd (np := 86) h dX9_goYears_85 rfl ?_
          refine g_istore_n (np := 87) (lv' := [(1, .int (x1 + (2 : Int32))), (0, .ref q0), (3, .int x3)]) h rfl (by decide) rfl dX9_goYears_86 rfl ?_
          refine g_goto h dX9_goYears_87 (np := 118) rfl ?_
          refine g_lv [1, 0] rfl ?_
          exact hL118 r2001.2.1 r2001.1 v_acts r2001.2.2 (x1 + (2 : Int32)) hF
        · refine g_iconst (np := 81) (v := (3 : Int32)) h (by decide) dX9_goYears_80 rfl ?_
          refine g_goto h dX9_goYears_81 (np := 85) rfl ?_
          refine g_iadd (np := 86) h dX9_goYears_85 rfl ?_
          refine g_istore_n (np := 87) (lv' := [(1, .int (x1 + (3 : Int32))), (0, .ref q0), (3, .int x3)]) h rfl (by decide) rfl dX9_goYears_86 rfl ?_
          refine g_goto h dX9_goYears_87 (np := 118) rfl ?_
          refine g_lv [1, 0] rfl ?_
          exact hL118 r2001.2.1 r2001.1 v_acts r2001.2.2 (x1 + (3 : Int32)) hF
      intro v_weddings v_reason v_acts v_now x1 hF
      rw [fX9_goYears_11] at hF
      refine g_iload_n (np := 12) h 1 rfl rfl dX9_goYears_11 rfl ?_
      refine g_aload_n (np := 13) h 0 rfl rfl dX9_goYears_12 rfl ?_
      refine g_get (np := 16) (T := TX9) h imX9_goYears_u_X9 0 9 rfl rfl 5 (by decide) (imX9_goYears_own _ (List.mem_of_getElem? (i := 1) rfl)) rfl dX9_goYears_13 rfl ?_
      refine g_icmp_ge h hF dX9_goYears_16 (np := 19) rfl (tg := 143) rfl (fun c3001 hF => ?_) (fun c3001 hF => ?_)
      · refine g_bipush (np := 145) (v := (-6 : Int32)) h (by decide) dX9_goYears_143 rfl ?_
        exact hend _ hF _ _ dX9_goYears_145
      · refine g_aload_n (np := 20) h 0 rfl rfl dX9_goYears_19 rfl ?_
        refine g_get (np := 23) (T := TX9) h imX9_goYears_u_X9 0 9 rfl rfl 6 (by decide) (imX9_goYears_own _ (List.mem_of_getElem? (i := 2) rfl)) rfl dX9_goYears_20 rfl ?_
        refine g_iload_n (np := 24) h 1 rfl rfl dX9_goYears_23 rfl ?_
        refine g_iald (np := 25) h 4 rfl hF dX9_goYears_24 rfl (fun hi3002 hF => ?_)
        refine g_istore_n (np := 26) (lv' := [(2, .int (rd v_pad x1)), (0, .ref q0), (1, .int x1)]) h rfl (by decide) rfl dX9_goYears_25 rfl ?_
        refine g_iload_n (np := 27) h 0 rfl rfl dX9_goYears_26 rfl ?_
        obtain ⟨r3003, hr3003, hF⟩ := Option.bind_eq_some_iff.mp hF
        refine g_callS (np := 30) (Wd' := (wdX9_goYears cI cZ q0 q1 q2 q3 q4 d5 d6 d7 d8 d9 d10 v_signs v_weddings v_reason v_acts v_book v_now v_of v_pad v_sights)) (As := [.int (rd v_pad x1)]) h (mX9_isLetter l D cI cZ (rd v_pad x1) r3003 hr3003) gcX9_goYears_X9_isLetter rfl ⟨rfl, rfl⟩ hyX9_isLetter rfl rfl rfl rfl ⟨Nat.zero_le _, Nat.zero_le _⟩ [] [0, 1, 2, 3, 4] (N := 5) (by decide +kernel) rfl rfl rfl rfl rfl dX9_goYears_27 rfl ?_
        refine g_if_eq h hF dX9_goYears_30 (np := 33) rfl (tg := 90) rfl (fun c3004 hF => ?_) (fun c3004 hF => ?_)
        · refine g_aload_n (np := 91) h 1 rfl rfl dX9_goYears_90 rfl ?_
          refine g_iload_n (np := 92) h 0 rfl rfl dX9_goYears_91 rfl ?_
          refine g_bipush (np := 94) (v := (46 : Int32)) h (by decide) dX9_goYears_92 rfl ?_
          refine g_icmp_ne h hF dX9_goYears_94 (np := 97) rfl (tg := 104) rfl (fun c3005 hF => ?_) (fun c3005 hF => ?_)
          · refine g_aload_n (np := 105) h 1 rfl rfl dX9_goYears_104 rfl ?_
            refine g_iload_n (np := 106) h 0 rfl rfl dX9_goYears_105 rfl ?_
            refine g_bipush (np := 108) (v := (48 : Int32)) h (by decide) dX9_goYears_106 rfl ?_
            refine g_isub (np := 109) h dX9_goYears_108 rfl ?_
            obtain ⟨r3006, hr3006, hF⟩ := Option.bind_eq_some_iff.mp hF
            refine g_callV (np := 112) (Wd' := (wdX9_goYears cI cZ q0 q1 q2 q3 q4 d5 d6 d7 d8 d9 d10 v_signs v_weddings v_reason v_acts v_book r3006.2 v_of v_pad v_sights)) (As := [.int ((rd v_pad x1) - (48 : Int32))]) h (mX9_comeIn l D cI cZ q0 q2 q1 q3 d5 q4 d6 d7 d8 d9 d10 v_now v_sights v_signs v_weddings v_reason v_acts ((rd v_pad x1) - (48 : Int32)) r3006 hr3006) gcX9_goYears_X9_comeIn rfl ⟨rfl, rfl⟩ ⟨rfl, hyX9_comeIn⟩ rfl 9 0 rfl rfl rfl rfl rfl rfl ⟨Nat.zero_le _, Nat.zero_le _⟩ [0, 2] [1, 3, 4] (N := 5) (by decide +kernel) rfl rfl rfl rfl rfl dX9_goYears_109 rfl ?_
            refine g_put (np := 115) (T := TX9) (Wd' := (wdX9_goYears cI cZ q0 q1 q2 q3 q4 d5 d6 d7 d8 d9 d10 v_signs v_weddings r3006.1 v_acts v_book r3006.2 v_of v_pad v_sights)) h imX9_goYears_u_X9 tyX9_ok nmX9 0 9 rfl rfl 8 (by decide) (imX9_goYears_own _ (List.mem_of_getElem? (i := 3) rfl)) rfl rfl rfl (Nat.le_of_ble_eq_true rfl) rfl dX9_goYears_112 rfl ?_
            refine g_iinc (np := 118) (v := (x1 + (1 : Int32))) (lv' := [(1, .int (x1 + (1 : Int32))), (2, .int (rd v_pad x1)), (0, .ref q0)]) h 2 rfl rfl (by decide) rfl dX9_goYears_115 rfl ?_
            refine g_lv [2, 0] rfl ?_
            exact hL118 v_weddings r3006.1 v_acts r3006.2 (x1 + (1 : Int32)) hF
          · refine g_aload_n (np := 98) h 1 rfl rfl dX9_goYears_97 rfl ?_
            obtain ⟨r3007, hr3007, hF⟩ := Option.bind_eq_some_iff.mp hF
            refine g_callV (np := 101) (Wd' := (wdX9_goYears cI cZ q0 q1 q2 q3 q4 d5 d6 d7 d8 d9 d10 v_signs v_weddings v_reason v_acts v_book r3007.2 v_of v_pad v_sights)) (As := []) h (mX9_endYear l D cI cZ q0 q2 q1 q3 d5 q4 d6 d7 d8 d9 d10 v_now v_sights v_signs v_weddings v_reason v_acts r3007 hr3007) gcX9_goYears_X9_endYear rfl ⟨rfl, rfl⟩ ⟨rfl, hyX9_endYear⟩ rfl 9 0 rfl rfl rfl rfl rfl rfl ⟨Nat.zero_le _, Nat.zero_le _⟩ [0, 2] [1, 3, 4] (N := 5) (by decide +kernel) rfl rfl rfl rfl rfl dX9_goYears_98 rfl ?_
            refine g_goto h dX9_goYears_101 (np := 112) rfl ?_
            refine g_put (np := 115) (T := TX9) (Wd' := (wdX9_goYears cI cZ q0 q1 q2 q3 q4 d5 d6 d7 d8 d9 d10 v_signs v_weddings r3007.1 v_acts v_book r3007.2 v_of v_pad v_sights)) h imX9_goYears_u_X9 tyX9_ok nmX9 0 9 rfl rfl 8 (by decide) (imX9_goYears_own _ (List.mem_of_getElem? (i := 3) rfl)) rfl rfl rfl (Nat.le_of_ble_eq_true rfl) rfl dX9_goYears_112 rfl ?_
            refine g_iinc (np := 118) (v := (x1 + (1 : Int32))) (lv' := [(1, .int (x1 + (1 : Int32))), (2, .int (rd v_pad x1)), (0, .ref q0)]) h 2 rfl rfl (by decide) rfl dX9_goYears_115 rfl ?_
            refine g_lv [2, 0] rfl ?_
            exact hL118 v_weddings r3007.1 v_acts r3007.2 (x1 + (1 : Int32)) hF
        · refine g_aload_n (np := 34) h 1 rfl rfl dX9_goYears_33 rfl ?_
          refine g_get (np := 37) (T := TX9) h imX9_goYears_u_X9 0 9 rfl rfl 6 (by decide) (imX9_goYears_own _ (List.mem_of_getElem? (i := 2) rfl)) rfl dX9_goYears_34 rfl ?_
          refine g_iload_n (np := 38) h 2 rfl rfl dX9_goYears_37 rfl ?_
          refine g_iconst (np := 39) (v := (1 : Int32)) h (by decide) dX9_goYears_38 rfl ?_
          refine g_iadd (np := 40) h dX9_goYears_39 rfl ?_
          refine g_iald (np := 41) h 4 rfl hF dX9_goYears_40 rfl (fun hi3008 hF => ?_)
          refine g_istore_n (np := 42) (lv' := [(3, .int (rd v_pad (x1 + (1 : Int32)))), (2, .int (rd v_pad x1)), (0, .ref q0), (1, .int x1)]) h rfl (by decide) rfl dX9_goYears_41 rfl ?_
          refine g_aload_n (np := 43) h 2 rfl rfl dX9_goYears_42 rfl ?_
          refine g_aload_n (np := 44) h 2 rfl rfl dX9_goYears_43 rfl ?_
          refine g_iload_n (np := 45) h 1 rfl rfl dX9_goYears_44 rfl ?_
          refine g_bipush (np := 47) (v := (65 : Int32)) h (by decide) dX9_goYears_45 rfl ?_
          refine g_isub (np := 48) h dX9_goYears_47 rfl ?_
          refine g_iload_n (np := 49) h 0 rfl rfl dX9_goYears_48 rfl ?_
          refine g_iload_n (np := 50) h 0 rfl rfl dX9_goYears_49 rfl ?_
          refine g_bipush (np := 52) (v := (43 : Int32)) h (by decide) dX9_goYears_50 rfl ?_
          refine g_icmp_ne h hF dX9_goYears_52 (np := 55) rfl (tg := 66) rfl (fun c3009 hF => ?_) (fun c3009 hF => ?_)
          · refine g_iconst (np := 67) (v := (0 : Int32)) h (by decide) dX9_goYears_66 rfl ?_
            refine g_lv [2, 3, 0] rfl ?_
            exact hL67 v_weddings v_reason v_acts v_now x1 (rd v_pad (x1 + (1 : Int32))) (0 : Int32) (rd v_pad (x1 + (1 : Int32))) ((rd v_pad x1) - (65 : Int32)) hF
          · refine g_aload_n (np := 56) h 2 rfl rfl dX9_goYears_55 rfl ?_
            refine g_get (np := 59) (T := TX9) h imX9_goYears_u_X9 0 9 rfl rfl 6 (by decide) (imX9_goYears_own _ (List.mem_of_getElem? (i := 2) rfl)) rfl dX9_goYears_56 rfl ?_
            refine g_iload_n (np := 60) h 3 rfl rfl dX9_goYears_59 rfl ?_
            refine g_iconst (np := 61) (v := (2 : Int32)) h (by decide) dX9_goYears_60 rfl ?_
            refine g_iadd (np := 62) h dX9_goYears_61 rfl ?_
            refine g_iald (np := 63) h 4 rfl hF dX9_goYears_62 rfl (fun hi3010 hF => ?_)
            refine g_goto h dX9_goYears_63 (np := 67) rfl ?_
            refine g_lv [2, 3, 0] rfl ?_
            exact hL67 v_weddings v_reason v_acts v_now x1 (rd v_pad (x1 + (1 : Int32))) (rd v_pad (x1 + (2 : Int32))) (rd v_pad (x1 + (1 : Int32))) ((rd v_pad x1) - (65 : Int32)) hF
  unfold fX9_goYears at hF
  refine g_aload_n (np := 1) h 0 rfl rfl dX9_goYears_0 rfl ?_
  obtain ⟨r1, hr1, hF⟩ := Option.bind_eq_some_iff.mp hF
  refine g_callV (np := 4) (Wd' := (wdX9_goYears cI cZ q0 q1 q2 q3 q4 d5 d6 d7 d8 d9 d10 v_signs r1.1 v_reason v_acts v_book r1.2 v_of v_pad v_sights)) (As := []) h (mX9_asNow l D cI cZ q0 q1 q2 q3 d5 q4 d6 d7 d8 d9 d10 v_weddings v_book v_now v_sights v_signs v_reason v_acts r1 hr1) gcX9_goYears_X9_asNow rfl ⟨rfl, rfl⟩ ⟨rfl, hyX9_asNow⟩ rfl 9 0 rfl rfl rfl rfl rfl rfl ⟨Nat.zero_le _, Nat.zero_le _⟩ [0, 1, 2] [3, 4] (N := 5) (by decide +kernel) rfl rfl rfl rfl rfl dX9_goYears_1 rfl ?_
  refine g_aload_n (np := 5) h 0 rfl rfl dX9_goYears_4 rfl ?_
  refine g_iconst (np := 6) (v := (0 : Int32)) h (by decide) dX9_goYears_5 rfl ?_
  refine g_put (np := 9) (T := TX9) (Wd' := (wdX9_goYears cI cZ q0 q1 q2 q3 q4 d5 d6 d7 d8 d9 d10 v_signs r1.1 v_reason (0 : Int32) v_book r1.2 v_of v_pad v_sights)) h imX9_goYears_u_X9 tyX9_ok nmX9 0 9 rfl rfl 9 (by decide) (imX9_goYears_own _ (List.mem_of_getElem? (i := 0) rfl)) rfl rfl rfl (Nat.le_of_ble_eq_true rfl) rfl dX9_goYears_6 rfl ?_
  refine g_iconst (np := 10) (v := (0 : Int32)) h (by decide) dX9_goYears_9 rfl ?_
  refine g_istore_n (np := 11) (lv' := [(1, .int (0 : Int32)), (0, .ref q0)]) h rfl (by decide) rfl dX9_goYears_10 rfl ?_
  refine g_lv [1, 0] rfl ?_
  exact hL11 _ r1.1 v_reason (0 : Int32) r1.2 (0 : Int32) hF
