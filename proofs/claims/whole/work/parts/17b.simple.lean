/-- the pad -/
def RP (count : Int32) (signs : Nat → Int32) (msigns : Int32) (pad : Nat → Int32) : Prop :=
  ∃ c : Nat, c ≤ 60 ∧ count = nI c ∧ msigns = nI c ∧ (∀ i, i < 60 → signs i = pad i) ∧ (∀ i, i < c → Rg (pad i) 33 126)
theorem core_say {count : Int32} {signs : Nat → Int32} {msigns : Int32} {pad : Nat → Int32} (s1 : Int32) (h : RP count signs msigns pad) :
    ∃ zx zm, fX8_say count signs s1 = some zx ∧ fX9_say msigns pad s1 = some zm ∧ zx.1 = zm.1 ∧ RP zx.2.1 zx.2.2 zm.2.1 zm.2.2 := by
  obtain ⟨c, hc, rfl, rfl, e1, e2⟩ := h
  unfold fX8_say fX9_say
  simp only [wi8, wi9, Option.bind_some, if10]
  by_cases c1 : 33 ≤ s1 ∧ s1 ≤ 126
  · have r1 := rg_of (a := 33) (b := 126) rfl rfl c1.1 c1.2
    simp only [c1, and_self, if_true]
    by_cases c2 : c < 60
    · have d1 : nI c < (60 : Int32) := by rw [k60]; exact nI_lt c2 (by decide)
      have d2 : ¬ nI c = (60 : Int32) := by rw [k60, nI_eq (by omega) (by decide)]; omega
      simp only [d1, d2, if_true, if_false, put8 c2 (by decide : 60 < 2 ^ 31), Option.bind_some, chk_nI c2 (by decide : 60 < 2 ^ 31), wr_nI (show c < 2 ^ 31 by omega), k1, l_add]
      refine ⟨_, _, rfl, rfl, rfl, c + 1, by omega, rfl, rfl, fun i hi => ?_, fun i hi => ?_⟩
      · have := e1 i hi
        simp only [upd_e]
        grind
      · have := e2 i
        simp only [upd_e]
        grind
    · have hc : c = 60 := by omega
      subst hc
      have d1 : ¬ nI 60 < (60 : Int32) := by decide
      have d2 : nI 60 = (60 : Int32) := by decide
      simp only [d1, d2, if_true, if_false]
      exact ⟨_, _, rfl, rfl, rfl, 60, by omega, rfl, rfl, e1, e2⟩
  · simp only [c1, if_false]
    exact ⟨_, _, rfl, rfl, rfl, c, hc, rfl, rfl, e1, e2⟩
theorem core_wipe {count : Int32} {signs : Nat → Int32} {msigns : Int32} {pad : Nat → Int32} (h : RP count signs msigns pad) :
    ∃ zx zm, fX8_wipe count = some zx ∧ fX9_wipe msigns = some zm ∧ zx.1 = zm.1 ∧ RP zx.2 signs zm.2 pad := by
  obtain ⟨c, hc, rfl, rfl, e1, e2⟩ := h
  exact ⟨_, _, rfl, rfl, rfl, 0, by omega, nI_0.symm, nI_0.symm, e1, fun i hi => absurd hi (by omega)⟩
theorem core_forget {year : Int32} {wreck wood length left right place rings hpiece partner children : Nat → Int32} {count : Int32} {house reach sounded : Nat → Int32} {book of sight : Nat → Int32} {sights : Int32}
    (h : RS year wreck wood length left right place rings hpiece partner children count house reach sounded book of sight sights) :
    ∃ zx zm, fX8_forget count = some zx ∧ fX9_forget sights = some zm ∧ zx.1 = zm.1 ∧ RS year wreck wood length left right place rings hpiece partner children zx.2 house reach sounded book of sight zm.2 := by
  obtain ⟨⟨e1, e2, e3, e4, e5⟩, v1, v2, v3, v4, v5⟩ := h
  exact ⟨_, _, rfl, rfl, e4, ⟨e1, e2, e3, rfl, e5⟩, v1, v2, v3, ⟨0, by omega, by omega, nI_0.symm⟩, v5⟩
theorem core_heard {year : Int32} {wreck wood length left right place rings hpiece partner children : Nat → Int32} {count : Int32} {house reach sounded : Nat → Int32} {book of sight : Nat → Int32} {sights : Int32} (s1 s2 b3 : Int32) (hb3 : b3 = 0 ∨ b3 = 1)
    (h : RS year wreck wood length left right place rings hpiece partner children count house reach sounded book of sight sights) :
    ∃ zx zm, fX8_heard count house reach sounded s1 s2 b3 = some zx ∧ fX9_heard sights sight s1 s2 b3 = some zm ∧ zx.1 = zm.1 ∧ RS year wreck wood length left right place rings hpiece partner children zx.2.1 zx.2.2.1 zx.2.2.2.1 zx.2.2.2.2 book of zm.2.2 zm.2.1 := by
  obtain ⟨⟨e1, e2, e3, e4, e5⟩, v1, v2, v3, ⟨c, -, hc, ec⟩, v5⟩ := h
  subst e4; subst ec
  unfold fX8_heard fX9_heard
  simp only [ih8, ih9, wi8, wi9, Option.bind_some, if10]
  by_cases c1 : 0 ≤ s1 ∧ s1 ≤ 7
  · by_cases c2 : 0 ≤ s2 ∧ s2 ≤ 7
    · have r1 := rg_of (a := 0) (b := 7) rfl rfl c1.1 c1.2
      have r2 := rg_of (a := 0) (b := 7) rfl rfl c2.1 c2.2
      simp only [c1, c2, and_self, if_true]
      by_cases c3 : c < 8
      · have d1 : nI c < (8 : Int32) := by rw [k8]; exact nI_lt c3 (by decide)
        have d2 : ¬ nI c = (8 : Int32) := by rw [k8, nI_eq (by omega) (by decide)]; omega
        simp only [d1, d2, if_true, if_false]
        unfold fX6_add fX6_add_41 fX9_heard_81
        simp only [put8 c3 (by decide : 8 < 2 ^ 31), Option.bind_some, k3, k1, k2, pk_mul, l_add, chk_nI (show 3 * c < 24 by omega) (by decide : 24 < 2 ^ 31), chk_nI (show 3 * c + 1 < 24 by omega) (by decide : 24 < 2 ^ 31), chk_nI (show 3 * c + 2 < 24 by omega) (by decide : 24 < 2 ^ 31), wr_nI (show 3 * c < 2 ^ 31 by omega), wr_nI (show 3 * c + 1 < 2 ^ 31 by omega), wr_nI (show 3 * c + 2 < 2 ^ 31 by omega)]
        have key : ∀ w : Int32, Rg w 0 1 → RS year wreck wood length left right place rings hpiece partner children (nI (c + 1)) (upd house c s1) (upd reach c s2) (upd sounded c w) book of (upd (upd (upd sight (3 * c) s1) (3 * c + 1) s2) (3 * c + 2) w) (nI (c + 1)) := by
          intro w hw
          refine ⟨⟨e1, e2, e3, rfl, fun i hi => ?_⟩, v1, v2, v3, ⟨c + 1, by omega, by omega, rfl⟩, fun i hi => ?_⟩
          · have := e5 i hi
            simp only [upd_e]
            grind
          · have := v5 i hi
            simp only [upd_e]
            grind
        rcases hb3 with rfl | rfl
        · exact ⟨_, _, rfl, rfl, rfl, key _ ⟨0, by omega, by omega, by decide⟩⟩
        · exact ⟨_, _, rfl, rfl, rfl, key _ ⟨1, by omega, by omega, by decide⟩⟩
      · have hc : c = 8 := by omega
        subst hc
        have d1 : ¬ nI 8 < (8 : Int32) := by decide
        have d2 : nI 8 = (8 : Int32) := by decide
        simp only [d1, d2, if_true, if_false]
        exact ⟨_, _, rfl, rfl, rfl, ⟨e1, e2, e3, rfl, e5⟩, v1, v2, v3, ⟨8, by omega, by omega, rfl⟩, v5⟩
    · simp only [c1, c2, and_self, if_true, if_false]
      exact ⟨_, _, rfl, rfl, rfl, ⟨e1, e2, e3, rfl, e5⟩, v1, v2, v3, ⟨c, by omega, by omega, rfl⟩, v5⟩
  · simp only [c1, if_false]
    exact ⟨_, _, rfl, rfl, rfl, ⟨e1, e2, e3, rfl, e5⟩, v1, v2, v3, ⟨c, by omega, by omega, rfl⟩, v5⟩
