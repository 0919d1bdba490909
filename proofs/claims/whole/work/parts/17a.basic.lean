/-! THE PURE PART: basics -/
theorem i_lt (x y : Int32) : x < y ↔ x.toInt < y.toInt := Int32.lt_iff_toInt_lt
theorem i_le (x y : Int32) : x ≤ y ↔ x.toInt ≤ y.toInt := Int32.le_iff_toInt_le
theorem i_eq (x y : Int32) : x = y ↔ x.toInt = y.toInt := ⟨fun h => by rw [h], Int32.toInt_inj.mp⟩
/-- between a and b, as a natural number -/
def Rg (x : Int32) (a b : Nat) : Prop := ∃ j : Nat, a ≤ j ∧ j ≤ b ∧ x = nI j
theorem rg_of {x A B : Int32} {a b : Nat} (hA : A.toInt = a) (hB : B.toInt = b) (h1 : A ≤ x) (h2 : x ≤ B) : Rg x a b := by
  have hlt : (b : Int) < 2 ^ 31 := by rw [← hB]; exact Int32.toInt_lt B
  rw [i_le] at h1 h2
  obtain ⟨j, hj, rfl⟩ := nI_of2 (x := x) (M := B) (n := b) hB (by rw [i_lt, show (0 : Int32).toInt = 0 from rfl]; omega) (by rw [i_le]; exact h2)
  rw [nI_toInt (by omega)] at h1 h2
  exact ⟨j, by omega, hj, rfl⟩
theorem wi8 (x a b : Int32) : fX8_within x a b = some (if a ≤ x ∧ x ≤ b then 1 else 0) := by
  unfold fX8_within
  by_cases h1 : x < a
  · rw [if_pos h1, if_neg]
    rintro ⟨h, -⟩
    rw [i_lt] at h1; rw [i_le] at h; omega
  · rw [if_neg h1]
    by_cases h2 : b < x
    · rw [if_pos h2, if_neg]
      rintro ⟨-, h⟩
      rw [i_lt] at h2; rw [i_le] at h; omega
    · rw [if_neg h2, if_pos]
      rw [i_lt] at h1 h2; rw [i_le, i_le]; omega
theorem wi9 (x a b : Int32) : fX9_in x a b = some (if a ≤ x ∧ x ≤ b then 1 else 0) := by
  have h := wi8 x a b
  unfold fX8_within at h
  unfold fX9_in
  exact h
theorem bz01 (c : Prop) [Decidable c] : bz (if c then (1 : Int32) else 0) = some (if c then 1 else 0) := by
  by_cases h : c
  · rw [if_pos h]; rfl
  · rw [if_neg h]; rfl
theorem ip8 (x : Int32) : fX8_isPiece x = some (if 0 ≤ x ∧ x ≤ 9 then 1 else 0) := by
  unfold fX8_isPiece
  rw [wi8, Option.bind_some, bz01, Option.bind_some]
theorem ih8 (x : Int32) : fX8_isHouse x = some (if 0 ≤ x ∧ x ≤ 7 then 1 else 0) := by
  unfold fX8_isHouse
  rw [wi8, Option.bind_some, bz01, Option.bind_some]
theorem ip9 (x : Int32) : fX9_isPiece x = some (if 0 ≤ x ∧ x ≤ 9 then 1 else 0) := by
  unfold fX9_isPiece
  rw [wi9, Option.bind_some, bz01, Option.bind_some]
theorem ih9 (x : Int32) : fX9_isHouse x = some (if 0 ≤ x ∧ x ≤ 7 then 1 else 0) := by
  unfold fX9_isHouse
  rw [wi9, Option.bind_some, bz01, Option.bind_some]
theorem if10 {α : Type} (c : Prop) [Decidable c] (a b : α) : (if (if c then (1 : Int32) else 0) = 0 then a else b) = if c then b else a := by
  by_cases h : c
  · rw [if_pos h, if_pos h, if_neg (by decide)]
  · rw [if_neg h, if_neg h, if_pos rfl]
/-- an index in range -/
theorem chk_nI {α : Type} {j n : Nat} {K : Option α} (h : j < n) (hn : n < 2 ^ 31) : chk (nI j) n K = K := by
  unfold chk
  rw [if_neg]
  exact nI_in h hn
theorem rd_nI {f : Nat → Int32} {j : Nat} (h : j < 2 ^ 31) : rd f (nI j) = f j := by
  show f (nI j).toNatClampNeg = f j
  rw [nI_clamp h]
theorem wr_nI {f : Nat → Int32} {j : Nat} {v : Int32} (h : j < 2 ^ 31) : wr f (nI j) v = upd f j v := by
  show upd f (nI j).toNatClampNeg v = upd f j v
  rw [nI_clamp h]
theorem at8 {f : Nat → Int32} {j n : Nat} (h : j < n) (hn : n < 2 ^ 31) : fX8_at n f (nI j) = some (f j) := by
  unfold fX8_at
  rw [if_neg (nI_pos (by omega)), show Int32.ofNat n = nI n from rfl, if_neg (nI_ge h hn), chk_nI h hn, rd_nI (by omega)]
theorem at8o {f : Nat → Int32} {x : Int32} {n : Nat} (hn : n < 2 ^ 31) (h : x < 0 ∨ nI n ≤ x) : fX8_at n f x = some 0 := by
  unfold fX8_at
  rcases h with h | h
  · rw [if_pos h]
  · by_cases h0 : x < 0
    · rw [if_pos h0]
    · rw [if_neg h0, show Int32.ofNat n = nI n from rfl, if_pos h]
theorem put8 {f : Nat → Int32} {j n : Nat} {v : Int32} (h : j < n) (hn : n < 2 ^ 31) : fX8_put n f (nI j) v = some (upd f j v) := by
  unfold fX8_put
  rw [if_neg (nI_pos (by omega)), show Int32.ofNat n = nI n from rfl, if_neg (nI_ge h hn), chk_nI h hn, wr_nI (by omega)]
theorem l_add (k j : Nat) : nI k + nI j = nI (k + j) := nI_add k j
theorem k1 : (1 : Int32) = nI 1 := by decide
theorem k2 : (2 : Int32) = nI 2 := by decide
theorem k3 : (3 : Int32) = nI 3 := by decide
theorem k8 : (8 : Int32) = nI 8 := by decide
theorem k10 : (10 : Int32) = nI 10 := by decide
theorem k18 : (18 : Int32) = nI 18 := by decide
theorem k20 : (20 : Int32) = nI 20 := by decide
theorem k26 : (26 : Int32) = nI 26 := by decide
theorem k30 : (30 : Int32) = nI 30 := by decide
theorem k34 : (34 : Int32) = nI 34 := by decide
theorem k40 : (40 : Int32) = nI 40 := by decide
theorem k50 : (50 : Int32) = nI 50 := by decide
theorem k60 : (60 : Int32) = nI 60 := by decide
theorem upd_e (f : Nat → Int32) (k : Nat) (x : Int32) (i : Nat) : upd f k x i = if i = k then x else f i := rfl
/-- the shore's rows and the reference's -/
def RV (book of sight : Nat → Int32) (sights : Int32) : Prop :=
  (∀ p, p < 10 → Rg (of p) 0 9 ∧ Rg (of (10 + p)) 0 3 ∧ Rg (of (20 + p)) 1 20 ∧ Rg (of (30 + p)) 0 9 ∧ Rg (of (40 + p)) 0 9 ∧ Rg (of (50 + p)) 0 99999999 ∧ Rg (book p) 0 3) ∧
  (∀ h, h < 8 → (book (10 + h) = -6 ∨ Rg (book (10 + h)) 0 9) ∧ (book (18 + h) = -6 ∨ Rg (book (18 + h)) 0 7) ∧ Rg (book (26 + h)) 0 99) ∧
  Rg (book 34) 0 99 ∧ Rg sights 0 8 ∧ (∀ i, i < 8 → Rg (sight (3 * i)) 0 7 ∧ Rg (sight (3 * i + 1)) 0 7 ∧ Rg (sight (3 * i + 2)) 0 1)
def RE (year : Int32) (wreck wood length left right place rings hpiece partner children : Nat → Int32) (count : Int32) (house reach sounded : Nat → Int32) (book of sight : Nat → Int32) (sights : Int32) : Prop :=
  (∀ p, p < 10 → wreck p = of p ∧ wood p = of (10 + p) ∧ length p = of (20 + p) ∧ left p = of (30 + p) ∧ right p = of (40 + p) ∧ rings p = of (50 + p) ∧ place p = book p) ∧
  (∀ h, h < 8 → hpiece h = book (10 + h) ∧ partner h = book (18 + h) ∧ children h = book (26 + h)) ∧
  year = book 34 ∧ count = sights ∧ (∀ i, i < 8 → house i = sight (3 * i) ∧ reach i = sight (3 * i + 1) ∧ sounded i = sight (3 * i + 2))
def RS (year : Int32) (wreck wood length left right place rings hpiece partner children : Nat → Int32) (count : Int32) (house reach sounded : Nat → Int32) (book of sight : Nat → Int32) (sights : Int32) : Prop :=
  RE year wreck wood length left right place rings hpiece partner children count house reach sounded book of sight sights ∧ RV book of sight sights
theorem core_piece {year : Int32} {wreck wood length left right place rings hpiece partner children : Nat → Int32} {count : Int32} {house reach sounded : Nat → Int32} {book of sight : Nat → Int32} {sights : Int32} (s1 s2 s3 s4 : Int32)
    (h : RS year wreck wood length left right place rings hpiece partner children count house reach sounded book of sight sights) :
    ∃ zx zm, fX8_piece wreck wood length s1 s2 s3 s4 = some zx ∧ fX9_piece of s1 s2 s3 s4 = some zm ∧ zx.1 = zm.1 ∧ RS year zx.2.1 zx.2.2.1 zx.2.2.2 left right place rings hpiece partner children count house reach sounded book zm.2 sight sights := by
  unfold fX8_piece fX9_piece
  simp only [ip8, ip9, wi8, wi9, Option.bind_some, if10]
  by_cases c1 : 0 ≤ s1 ∧ s1 ≤ 9
  · by_cases c2 : 0 ≤ s2 ∧ s2 ≤ 9
    · by_cases c3 : 0 ≤ s3 ∧ s3 ≤ 3
      · by_cases c4 : 1 ≤ s4 ∧ s4 ≤ 20
        · obtain ⟨j, -, hj, rfl⟩ := rg_of (a := 0) (b := 9) rfl rfl c1.1 c1.2
          have r2 := rg_of (a := 0) (b := 9) rfl rfl c2.1 c2.2
          have r3 := rg_of (a := 0) (b := 3) rfl rfl c3.1 c3.2
          have r4 := rg_of (a := 1) (b := 20) rfl rfl c4.1 c4.2
          have hj : j < 10 := by omega
          simp only [c1, c2, c3, c4, and_self, if_true]
          simp only [at8 hj (by decide : 10 < 2 ^ 31), put8 hj (by decide : 10 < 2 ^ 31), Option.bind_some, k10, k20, l_add, chk_nI (show 20 + j < 60 by omega) (by decide : 60 < 2 ^ 31), chk_nI (show 10 + j < 60 by omega) (by decide : 60 < 2 ^ 31), chk_nI (show j < 60 by omega) (by decide : 60 < 2 ^ 31), rd, nI_clamp (show 20 + j < 2 ^ 31 by omega), wr_nI (show 20 + j < 2 ^ 31 by omega), wr_nI (show 10 + j < 2 ^ 31 by omega), wr_nI (show j < 2 ^ 31 by omega)]
          refine ⟨_, _, rfl, rfl, ?_, ?_⟩
          · exact (h.1.1 j hj).2.2.1
          · obtain ⟨⟨e1, e2⟩, v1, v2⟩ := h
            refine ⟨⟨fun p hp => ?_, e2⟩, fun p hp => ?_, v2⟩
            · have := e1 p hp
              simp only [upd_e]
              grind
            · have := v1 p hp
              simp only [upd_e]
              grind
        · simp only [c1, c2, c3, c4, and_self, if_true, if_false]
          exact ⟨_, _, rfl, rfl, rfl, h⟩
      · simp only [c1, c2, c3, and_self, if_true, if_false]
        exact ⟨_, _, rfl, rfl, rfl, h⟩
    · simp only [c1, c2, and_self, if_true, if_false]
      exact ⟨_, _, rfl, rfl, rfl, h⟩
  · simp only [c1, if_false]
    exact ⟨_, _, rfl, rfl, rfl, h⟩
theorem core_ends {year : Int32} {wreck wood length left right place rings hpiece partner children : Nat → Int32} {count : Int32} {house reach sounded : Nat → Int32} {book of sight : Nat → Int32} {sights : Int32} (s1 s2 s3 : Int32)
    (h : RS year wreck wood length left right place rings hpiece partner children count house reach sounded book of sight sights) :
    ∃ zx zm, fX8_ends left right s1 s2 s3 = some zx ∧ fX9_ends of s1 s2 s3 = some zm ∧ zx.1 = zm.1 ∧ RS year wreck wood length zx.2.1 zx.2.2 place rings hpiece partner children count house reach sounded book zm.2 sight sights := by
  unfold fX8_ends fX9_ends
  simp only [ip8, ip9, wi8, wi9, Option.bind_some, if10, bnd]
  by_cases c1 : 0 ≤ s1 ∧ s1 ≤ 9
  · by_cases c2 : 0 ≤ s2 ∧ s2 ≤ 9
    · by_cases c3 : 0 ≤ s3 ∧ s3 ≤ 9
      · obtain ⟨j, -, hj, rfl⟩ := rg_of (a := 0) (b := 9) rfl rfl c1.1 c1.2
        have r2 := rg_of (a := 0) (b := 9) rfl rfl c2.1 c2.2
        have r3 := rg_of (a := 0) (b := 9) rfl rfl c3.1 c3.2
        have hj : j < 10 := by omega
        simp only [c1, c2, c3, and_self, if_true]
        simp only [at8 hj (by decide : 10 < 2 ^ 31), put8 hj (by decide : 10 < 2 ^ 31), Option.bind_some, k30, k40, l_add, chk_nI (show 30 + j < 60 by omega) (by decide : 60 < 2 ^ 31), chk_nI (show 40 + j < 60 by omega) (by decide : 60 < 2 ^ 31), rd, nI_clamp (show 30 + j < 2 ^ 31 by omega), nI_clamp (show 40 + j < 2 ^ 31 by omega), wr_nI (show 30 + j < 2 ^ 31 by omega), wr_nI (show 40 + j < 2 ^ 31 by omega)]
        refine ⟨_, _, rfl, rfl, ?_, ?_⟩
        · simp only [(h.1.1 j hj).2.2.2.1, (h.1.1 j hj).2.2.2.2.1]
        · obtain ⟨⟨e1, e2⟩, v1, v2⟩ := h
          refine ⟨⟨fun p hp => ?_, e2⟩, fun p hp => ?_, v2⟩
          · have := e1 p hp
            simp only [upd_e]
            grind
          · have := v1 p hp
            simp only [upd_e]
            grind
      · simp only [c1, c2, c3, and_self, if_true, if_false]
        exact ⟨_, _, rfl, rfl, rfl, h⟩
    · simp only [c1, c2, and_self, if_true, if_false]
      exact ⟨_, _, rfl, rfl, rfl, h⟩
  · simp only [c1, if_false]
    exact ⟨_, _, rfl, rfl, rfl, h⟩
theorem core_rings {year : Int32} {wreck wood length left right place rings hpiece partner children : Nat → Int32} {count : Int32} {house reach sounded : Nat → Int32} {book of sight : Nat → Int32} {sights : Int32} (s1 s2 : Int32)
    (h : RS year wreck wood length left right place rings hpiece partner children count house reach sounded book of sight sights) :
    ∃ zx zm, fX8_rings rings s1 s2 = some zx ∧ fX9_rings of s1 s2 = some zm ∧ zx.1 = zm.1 ∧ RS year wreck wood length left right place zx.2 hpiece partner children count house reach sounded book zm.2 sight sights := by
  unfold fX8_rings fX9_rings
  simp only [ip8, ip9, wi8, wi9, Option.bind_some, if10]
  by_cases c1 : 0 ≤ s1 ∧ s1 ≤ 9
  · by_cases c2 : 0 ≤ s2 ∧ s2 ≤ 99999999
    · obtain ⟨j, -, hj, rfl⟩ := rg_of (a := 0) (b := 9) rfl rfl c1.1 c1.2
      have r2 := rg_of (a := 0) (b := 99999999) rfl rfl c2.1 c2.2
      have hj : j < 10 := by omega
      simp only [c1, c2, and_self, if_true]
      simp only [at8 hj (by decide : 10 < 2 ^ 31), put8 hj (by decide : 10 < 2 ^ 31), Option.bind_some, k50, l_add, chk_nI (show 50 + j < 60 by omega) (by decide : 60 < 2 ^ 31), rd, nI_clamp (show 50 + j < 2 ^ 31 by omega), wr_nI (show 50 + j < 2 ^ 31 by omega)]
      refine ⟨_, _, rfl, rfl, ?_, ?_⟩
      · exact (h.1.1 j hj).2.2.2.2.2.1
      · obtain ⟨⟨e1, e2⟩, v1, v2⟩ := h
        refine ⟨⟨fun p hp => ?_, e2⟩, fun p hp => ?_, v2⟩
        · have := e1 p hp
          simp only [upd_e]
          grind
        · have := v1 p hp
          simp only [upd_e]
          grind
    · simp only [c1, c2, and_self, if_true, if_false]
      exact ⟨_, _, rfl, rfl, rfl, h⟩
  · simp only [c1, if_false]
    exact ⟨_, _, rfl, rfl, rfl, h⟩
