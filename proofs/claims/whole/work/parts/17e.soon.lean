/-! SOON: a table -/
def soonOk (t n w p : Nat) : Bool := match fX8_soon (nI t) (nI n) (nI w) (nI p), fX9_soon (nI t) (nI n) (nI w) (nI p) with
  | some a, some b => decide (a = b)
  | _, _ => false
set_option maxRecDepth 1000000 in
theorem soon_all : ((List.range 11).all fun t => (List.range 16).all fun n => (List.range 3).all fun w => (List.range 2).all fun p => (w != 0 && Nat.ble 9 n) || soonOk t n w p) = true := by decide +kernel
theorem soon_tab (t : Nat) (ht : t < 11) (n : Nat) (hn : n < 16) (w : Nat) (hw : w < 3) (p : Nat) (hp : p < 2) (h : w = 0 ∨ n < 9) : ∃ z, fX8_soon (nI t) (nI n) (nI w) (nI p) = some z ∧ fX9_soon (nI t) (nI n) (nI w) (nI p) = some z := by
  have h1 := List.all_eq_true.mp (List.all_eq_true.mp (List.all_eq_true.mp (List.all_eq_true.mp soon_all t (List.mem_range.mpr ht)) n (List.mem_range.mpr hn)) w (List.mem_range.mpr hw)) p (List.mem_range.mpr hp)
  rw [Bool.or_eq_true] at h1
  rcases h1 with h1 | h1
  · rw [Bool.and_eq_true, bne_iff_ne] at h1
    have := Nat.le_of_ble_eq_true h1.2
    rcases h with h | h
    · exact absurd h h1.1
    · omega
  · unfold soonOk at h1
    cases e1 : fX8_soon (nI t) (nI n) (nI w) (nI p) with
    | none => rw [e1] at h1; cases h1
    | some a =>
      cases e2 : fX9_soon (nI t) (nI n) (nI w) (nI p) with
      | none => rw [e1, e2] at h1; cases h1
      | some b =>
        rw [e1, e2] at h1
        have e := of_decide_eq_true h1
        subst e
        exact ⟨a, rfl, rfl⟩
theorem core_soon (s1 s2 s3 s4 : Int32) : ∃ zx zm, fX8_soon s1 s2 s3 s4 = some zx ∧ fX9_soon s1 s2 s3 s4 = some zm ∧ zx = zm := by
  by_cases c1 : 0 ≤ s1 ∧ s1 ≤ 10
  · by_cases c3 : 0 ≤ s3 ∧ s3 ≤ 2
    · by_cases c4 : 0 ≤ s4 ∧ s4 ≤ 1
      · by_cases c2 : 0 ≤ s2 ∧ s2 ≤ (if s3 = 0 then 15 else 8)
        · obtain ⟨t, -, ht, rfl⟩ := rg_of (a := 0) (b := 10) rfl rfl c1.1 c1.2
          obtain ⟨w, -, hw, rfl⟩ := rg_of (a := 0) (b := 2) rfl rfl c3.1 c3.2
          obtain ⟨p, -, hp, rfl⟩ := rg_of (a := 0) (b := 1) rfl rfl c4.1 c4.2
          have h0 : (nI w = (0 : Int32)) ↔ w = 0 := by rw [← nI_0, nI_eq (by omega) (by decide)]
          have key : ∃ n, n < 16 ∧ (w = 0 ∨ n < 9) ∧ s2 = nI n := by
            by_cases q : w = 0
            · rw [if_pos (h0.mpr q)] at c2
              obtain ⟨n, -, hn, rfl⟩ := rg_of (a := 0) (b := 15) rfl rfl c2.1 c2.2
              exact ⟨n, by omega, Or.inl q, rfl⟩
            · rw [if_neg (fun z => q (h0.mp z))] at c2
              obtain ⟨n, -, hn, rfl⟩ := rg_of (a := 0) (b := 8) rfl rfl c2.1 c2.2
              exact ⟨n, by omega, Or.inr (by omega), rfl⟩
          obtain ⟨n, hn, hwn, rfl⟩ := key
          obtain ⟨z, a, b⟩ := soon_tab t (by omega) n hn w (by omega) p (by omega) hwn
          exact ⟨z, z, a, b, rfl⟩
        · unfold fX8_soon fX9_soon
          simp only [wi8, wi9, Option.bind_some, if10, c1, c3, c4, and_self, if_true]
          by_cases q : s3 = 0
          · rw [if_pos q] at c2
            simp only [q, if_true, fX8_soon_46, fX9_soon_32, wi8, wi9, Option.bind_some, if10, c2, if_false]
            exact ⟨_, _, rfl, rfl, rfl⟩
          · rw [if_neg q] at c2
            simp only [q, if_false, fX8_soon_46, fX9_soon_32, wi8, wi9, Option.bind_some, if10, c2]
            exact ⟨_, _, rfl, rfl, rfl⟩
      · unfold fX8_soon fX9_soon
        simp only [wi8, wi9, Option.bind_some, if10, c1, c3, c4, and_self, if_true, if_false, fX9_soon_32]
        by_cases q : s3 = 0
        · simp only [q, if_true, ite_self]
          exact ⟨_, _, rfl, rfl, rfl⟩
        · simp only [q, if_false, ite_self]
          exact ⟨_, _, rfl, rfl, rfl⟩
    · unfold fX8_soon fX9_soon
      simp only [wi8, wi9, Option.bind_some, if10, c1, c3, and_self, if_true, if_false]
      exact ⟨_, _, rfl, rfl, rfl⟩
  · unfold fX8_soon fX9_soon
    simp only [wi8, wi9, Option.bind_some, if10, c1, if_false]
    exact ⟨_, _, rfl, rfl, rfl⟩
