/-! ASK: a table over the sets of houses -/
def askOk (b w : Nat) : Bool := match (if nI b = 0 then some (-6) else fX8_ask_39 (nI w) (nI b) 2000 9 0 0), fX9_ask_27 (nI w) (nI b) 2000 (-6) 1000000 0 with
  | some x, some z => decide (x = z)
  | _, _ => false
set_option maxRecDepth 1000000 in
theorem ask_0 : ((List.range' 0 32).all fun b => askOk b 0 && askOk b 1) = true := by decide +kernel
set_option maxRecDepth 1000000 in
theorem ask_1 : ((List.range' 32 32).all fun b => askOk b 0 && askOk b 1) = true := by decide +kernel
set_option maxRecDepth 1000000 in
theorem ask_2 : ((List.range' 64 32).all fun b => askOk b 0 && askOk b 1) = true := by decide +kernel
set_option maxRecDepth 1000000 in
theorem ask_3 : ((List.range' 96 32).all fun b => askOk b 0 && askOk b 1) = true := by decide +kernel
set_option maxRecDepth 1000000 in
theorem ask_4 : ((List.range' 128 32).all fun b => askOk b 0 && askOk b 1) = true := by decide +kernel
set_option maxRecDepth 1000000 in
theorem ask_5 : ((List.range' 160 32).all fun b => askOk b 0 && askOk b 1) = true := by decide +kernel
set_option maxRecDepth 1000000 in
theorem ask_6 : ((List.range' 192 32).all fun b => askOk b 0 && askOk b 1) = true := by decide +kernel
set_option maxRecDepth 1000000 in
theorem ask_7 : ((List.range' 224 32).all fun b => askOk b 0 && askOk b 1) = true := by decide +kernel
theorem ask_tab (b w : Nat) (hb : b < 256) (hw : w < 2) : ∃ z, (if nI b = 0 then some (-6) else fX8_ask_39 (nI w) (nI b) 2000 9 0 0) = some z ∧ fX9_ask_27 (nI w) (nI b) 2000 (-6) 1000000 0 = some z := by
  have h : (askOk b 0 && askOk b 1) = true := by
    rcases (show b / 32 = 0 ∨ b / 32 = 1 ∨ b / 32 = 2 ∨ b / 32 = 3 ∨ b / 32 = 4 ∨ b / 32 = 5 ∨ b / 32 = 6 ∨ b / 32 = 7 by omega) with q | q | q | q | q | q | q | q
    · exact List.all_eq_true.mp ask_0 b (List.mem_range'_1.mpr (by omega))
    · exact List.all_eq_true.mp ask_1 b (List.mem_range'_1.mpr (by omega))
    · exact List.all_eq_true.mp ask_2 b (List.mem_range'_1.mpr (by omega))
    · exact List.all_eq_true.mp ask_3 b (List.mem_range'_1.mpr (by omega))
    · exact List.all_eq_true.mp ask_4 b (List.mem_range'_1.mpr (by omega))
    · exact List.all_eq_true.mp ask_5 b (List.mem_range'_1.mpr (by omega))
    · exact List.all_eq_true.mp ask_6 b (List.mem_range'_1.mpr (by omega))
    · exact List.all_eq_true.mp ask_7 b (List.mem_range'_1.mpr (by omega))
  rw [Bool.and_eq_true] at h
  have h1 : askOk b w = true := by
    rcases (show w = 0 ∨ w = 1 by omega) with rfl | rfl
    · exact h.1
    · exact h.2
  unfold askOk at h1
  generalize (if nI b = 0 then some (-6) else fX8_ask_39 (nI w) (nI b) 2000 9 0 0) = x at h1 ⊢
  generalize fX9_ask_27 (nI w) (nI b) 2000 (-6) 1000000 0 = z at h1 ⊢
  cases x with
  | none => cases h1
  | some x =>
    cases z with
    | none => cases h1
    | some z =>
      have e := of_decide_eq_true h1
      subst e
      exact ⟨x, rfl, rfl⟩
theorem core_ask {year : Int32} {wreck wood length left right place rings hpiece partner children : Nat → Int32} {count : Int32} {house reach sounded : Nat → Int32} {book of sight : Nat → Int32} {sights : Int32} (s1 : Int32)
    (h : RS year wreck wood length left right place rings hpiece partner children count house reach sounded book of sight sights) :
    ∃ zx zm, fX8_ask count house reach sounded s1 = some zx ∧ fX9_ask sights sight s1 = some zm ∧ zx = zm := by
  obtain ⟨b, hb, h1, h2⟩ := wheel_both h
  unfold fX8_ask fX9_ask
  simp only [wi8, wi9, Option.bind_some, if10, h1, h2]
  by_cases c1 : 0 ≤ s1 ∧ s1 ≤ 1
  · obtain ⟨w, -, hw, rfl⟩ := rg_of (a := 0) (b := 1) rfl rfl c1.1 c1.2
    simp only [c1, and_self, if_true]
    obtain ⟨z, e1, e2⟩ := ask_tab b w hb (by omega)
    exact ⟨z, z, e1, e2, rfl⟩
  · simp only [c1, if_false]
    exact ⟨_, _, rfl, rfl, rfl⟩
