/-! RINGS -/
def dv : Nat → Int32 → Int32
  | 0, x => x
  | m + 1, x => dv m (x / 10)
theorem dig8_run : ∀ (m n i : Nat) (x : Int32), i + m = 7 → m < n → fX8_digit_4 n x (nI i) = some (jrem (dv m x) 10) := by
  intro m
  induction m with
  | zero =>
    intro n i x hi hn
    obtain ⟨n, rfl⟩ : ∃ k, n = k + 1 := ⟨n - 1, by omega⟩
    have : i = 7 := by omega
    subst this
    rw [fX8_digit_4, if_pos (by decide)]
    rfl
  | succ m ih =>
    intro n i x hi hn
    obtain ⟨n, rfl⟩ : ∃ k, n = k + 1 := ⟨n - 1, by omega⟩
    have h1 : ¬ (7 : Int32) ≤ nI i := by rw [show (7 : Int32) = nI 7 by decide, nI_leI (by decide) (by omega)]; omega
    rw [fX8_digit_4, if_neg h1, k1, l_add, ih n (i + 1) _ (by omega) (by omega)]
    rfl
theorem dig9_run : ∀ (m n i : Nat) (x : Int32), i + m ≤ 7 → m < n → fX9_digit_5 (nI i) n x (nI (i + m)) = some (jrem (dv m x) 10) := by
  intro m
  induction m with
  | zero =>
    intro n i x hi hn
    obtain ⟨n, rfl⟩ : ∃ k, n = k + 1 := ⟨n - 1, by omega⟩
    rw [fX9_digit_5, if_pos (by rw [nI_leI (by omega) (by omega)]; omega)]
    rfl
  | succ m ih =>
    intro n i x hi hn
    obtain ⟨n, rfl⟩ : ∃ k, n = k + 1 := ⟨n - 1, by omega⟩
    have h1 : ¬ nI (i + (m + 1)) ≤ nI i := by rw [nI_leI (by omega) (by omega)]; omega
    rw [fX9_digit_5, if_neg h1, show i + (m + 1) = (i + m) + 1 by omega, pk_m1, ih n i _ (by omega) (by omega)]
    rfl
theorem digit8 {i : Nat} (h : i < 8) (x : Int32) : fX8_digit x (nI i) = some (jrem (dv (7 - i) x) 10) := dig8_run (7 - i) 2000 i x (by omega) (by omega)
theorem digit9 {i : Nat} (h : i < 8) (x : Int32) : fX9_digit x (nI i) = some (jrem (dv (7 - i) x) 10) := by
  have := dig9_run (7 - i) 2000 i x (by omega) (by omega)
  rw [show i + (7 - i) = 7 by omega] at this
  exact this
theorem alike_run {of : Nat → Int32} {a b : Nat} (ha : a < 10) (hb : b < 10) (s : Int32) : ∀ (m n k : Nat) (x : Int32), k + m = 8 → m < n → ∃ r, fX8_alike_5 (of (50 + a)) (of (50 + b)) s n x (nI k) = some r ∧ fX9_sameBy_6 of (nI a) (nI b) s n x (nI k) = some r := by
  intro m
  induction m with
  | zero =>
    intro n k x hk hn
    obtain ⟨n, rfl⟩ : ∃ k, n = k + 1 := ⟨n - 1, by omega⟩
    have : k = 8 := by omega
    subst this
    rw [fX8_alike_5, fX9_sameBy_6, if_pos (by decide), if_pos (by decide)]
    exact ⟨_, rfl, rfl⟩
  | succ m ih =>
    intro n k x hk hn
    obtain ⟨n, rfl⟩ : ∃ k, n = k + 1 := ⟨n - 1, by omega⟩
    have h1 : ¬ (8 : Int32) ≤ nI k := by rw [k8, nI_leI (by decide) (by omega)]; omega
    rw [fX8_alike_5, fX9_sameBy_6, if_neg h1, if_neg h1]
    simp only [wi8, wi9, Option.bind_some, if10, Int32.add_zero]
    by_cases c : 0 ≤ nI k - s ∧ nI k - s ≤ 7
    · obtain ⟨j, -, hj, ej⟩ := rg_of (a := 0) (b := 7) rfl rfl c.1 c.2
      simp only [c, and_self, if_true]
      rw [ej]
      simp only [digit8 (show k < 8 by omega), digit8 (show j < 8 by omega), digit9 (show k < 8 by omega), digit9 (show j < 8 by omega), Option.bind_some, k50, l_add, chk_nI (show 50 + a < 60 by omega) (by decide : 60 < 2 ^ 31), chk_nI (show 50 + b < 60 by omega) (by decide : 60 < 2 ^ 31), rd, nI_clamp (show 50 + a < 2 ^ 31 by omega), nI_clamp (show 50 + b < 2 ^ 31 by omega), k1]
      split
      · exact ih n (k + 1) _ (by omega) (by omega)
      · exact ih n (k + 1) _ (by omega) (by omega)
    · simp only [c, if_false, k1, l_add]
      exact ih n (k + 1) _ (by omega) (by omega)
theorem alike_both {of : Nat → Int32} {a b : Nat} (ha : a < 10) (hb : b < 10) (s : Int32) : ∃ r, fX8_alike (of (50 + a)) (of (50 + b)) s = some r ∧ fX9_sameBy of (nI a) (nI b) s = some r := by
  obtain ⟨r, h1, h2⟩ := alike_run (of := of) ha hb s 8 2000 0 0 (by omega) (by omega)
  rw [nI_0] at h1 h2
  exact ⟨r, h1, h2⟩
theorem core_same {year : Int32} {wreck wood length left right place rings hpiece partner children : Nat → Int32} {count : Int32} {house reach sounded : Nat → Int32} {book of sight : Nat → Int32} {sights : Int32} (s1 s2 s3 : Int32)
    (h : RS year wreck wood length left right place rings hpiece partner children count house reach sounded book of sight sights) :
    ∃ zx zm, fX8_same rings s1 s2 s3 = some zx ∧ fX9_same of s1 s2 s3 = some zm ∧ zx = zm := by
  unfold fX8_same fX9_same
  simp only [ip8, ip9, wi8, wi9, Option.bind_some, if10]
  by_cases c1 : 0 ≤ s1 ∧ s1 ≤ 9
  · by_cases c2 : 0 ≤ s2 ∧ s2 ≤ 9
    · simp only [c1, c2, and_self, if_true]
      by_cases c3 : -5 ≤ s3 ∧ s3 ≤ 5
      · obtain ⟨i, -, hi, rfl⟩ := rg_of (a := 0) (b := 9) rfl rfl c1.1 c1.2
        obtain ⟨j, -, hj, rfl⟩ := rg_of (a := 0) (b := 9) rfl rfl c2.1 c2.2
        obtain ⟨r, r1, r2⟩ := alike_both (of := of) (show i < 10 by omega) (show j < 10 by omega) s3
        simp only [c3, and_self, if_true, at8 (show i < 10 by omega) (by decide : 10 < 2 ^ 31), at8 (show j < 10 by omega) (by decide : 10 < 2 ^ 31), Option.bind_some, (h.1.1 i (by omega)).2.2.2.2.2.1, (h.1.1 j (by omega)).2.2.2.2.2.1, r1, r2]
        exact ⟨_, _, rfl, rfl, rfl⟩
      · simp only [c3, if_false]
        exact ⟨_, _, rfl, rfl, rfl⟩
    · simp only [c1, c2, and_self, if_true, if_false]
      exact ⟨_, _, rfl, rfl, rfl⟩
  · simp only [c1, if_false]
    exact ⟨_, _, rfl, rfl, rfl⟩
theorem lie_run {rings of : Nat → Int32} {i j : Nat} (hi : i < 10) (hj : j < 10) (ei : rings i = of (50 + i)) (ej : rings j = of (50 + j)) (w : Int32) : ∀ (m n : Nat) (x4 x5 x6 : Int32), x6.toInt = 6 - (m : Int) → m ≤ 11 → m < n → ∃ r, fX8_lie_38 rings (nI i) (nI j) w n x4 x5 x6 = some r ∧ fX9_lie_38 of (nI i) (nI j) w n x4 x5 x6 = some r := by
  intro m
  induction m with
  | zero =>
    intro n x4 x5 x6 h6 hm hn
    obtain ⟨n, rfl⟩ : ∃ k, n = k + 1 := ⟨n - 1, by omega⟩
    have a1 : (5 : Int32) < x6 := by rw [i_lt, h6]; decide
    have a2 : (6 : Int32) ≤ x6 := by rw [i_le, h6]; decide
    rw [fX8_lie_38, fX9_lie_38, if_pos a1, if_pos a2]
    split
    · exact ⟨_, rfl, rfl⟩
    · exact ⟨_, rfl, rfl⟩
  | succ m ih =>
    intro n x4 x5 x6 h6 hm hn
    obtain ⟨n, rfl⟩ : ∃ k, n = k + 1 := ⟨n - 1, by omega⟩
    have a1 : ¬ (5 : Int32) < x6 := by rw [i_lt, h6, show (5 : Int32).toInt = 5 from rfl]; omega
    have a2 : ¬ (6 : Int32) ≤ x6 := by rw [i_le, h6, show (6 : Int32).toInt = 6 from rfl]; omega
    have a3 : (x6 + 1).toInt = 6 - (m : Int) := by
      have := Int32.toInt_add x6 1
      rw [this, h6, show (1 : Int32).toInt = 1 from rfl, Int.bmod_eq_of_le (by omega) (by omega)]
      omega
    rw [fX8_lie_38, fX9_lie_38, if_neg a1, if_neg a2]
    obtain ⟨r, r1, r2⟩ := alike_both (of := of) hi hj x6
    simp only [at8 hi (by decide : 10 < 2 ^ 31), at8 hj (by decide : 10 < 2 ^ 31), Option.bind_some, ei, ej, r1, r2, fX9_lie_65]
    by_cases c : r ≤ x4
    · simp only [c, if_true]
      exact ih n _ _ _ a3 (by omega) (by omega)
    · simp only [c, if_false]
      exact ih n _ _ _ a3 (by omega) (by omega)
theorem core_lie {year : Int32} {wreck wood length left right place rings hpiece partner children : Nat → Int32} {count : Int32} {house reach sounded : Nat → Int32} {book of sight : Nat → Int32} {sights : Int32} (s1 s2 s3 : Int32)
    (h : RS year wreck wood length left right place rings hpiece partner children count house reach sounded book of sight sights) :
    ∃ zx zm, fX8_lie rings s1 s2 s3 = some zx ∧ fX9_lie of s1 s2 s3 = some zm ∧ zx = zm := by
  unfold fX8_lie fX9_lie
  simp only [ip8, ip9, wi8, wi9, Option.bind_some, if10]
  by_cases c1 : 0 ≤ s1 ∧ s1 ≤ 9
  · by_cases c2 : 0 ≤ s2 ∧ s2 ≤ 9
    · simp only [c1, c2, and_self, if_true]
      by_cases c3 : 0 ≤ s3 ∧ s3 ≤ 1
      · obtain ⟨i, -, hi, rfl⟩ := rg_of (a := 0) (b := 9) rfl rfl c1.1 c1.2
        obtain ⟨j, -, hj, rfl⟩ := rg_of (a := 0) (b := 9) rfl rfl c2.1 c2.2
        obtain ⟨r, r1, r2⟩ := lie_run (rings := rings) (of := of) (show i < 10 by omega) (show j < 10 by omega) ((h.1.1 i (by omega)).2.2.2.2.2.1) ((h.1.1 j (by omega)).2.2.2.2.2.1) s3 11 2000 (-1) 0 (-5) (by decide) (by omega) (by omega)
        simp only [c3, and_self, if_true]
        exact ⟨_, _, r1, r2, rfl⟩
      · simp only [c3, if_false]
        exact ⟨_, _, rfl, rfl, rfl⟩
    · simp only [c1, c2, and_self, if_true, if_false]
      exact ⟨_, _, rfl, rfl, rfl⟩
  · simp only [c1, if_false]
    exact ⟨_, _, rfl, rfl, rfl⟩
