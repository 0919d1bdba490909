/-! LONGEST -/
theorem len_run {length of lasts : Nat → Int32} {K : Int32 → Int32 → Int32 → Option (Int32 × (Nat → Int32))} {x1 x2 x3 : Int32} {S : Nat} (hS : S < 1024) (el : ∀ p, p < 10 → length p = of (20 + p) ∧ Rg (of (20 + p)) 1 20) :
    ∀ m n n2 k x, k + m = 10 → m < n → m < n2 → x + 20 * m ≤ 200 → ∃ y, y ≤ x + 20 * m ∧ (S = 0 → y = x) ∧ fX3_lengthOf_4 length (nI S) n (nI x) (nI k) = some (nI y) ∧
      (¬ lasts S = 0 → fX9_longest_37 K of lasts x1 x2 x3 (nI S) n2 (nI x) (nI k) = fX9_longest_89 K of lasts x1 x2 x3 (nI S) (nI y)) := by
  intro m
  induction m with
  | zero =>
    intro n n2 k x hk hn hn2 hx
    obtain ⟨n, rfl⟩ : ∃ q, n = q + 1 := ⟨n - 1, by omega⟩
    obtain ⟨n2, rfl⟩ : ∃ q, n2 = q + 1 := ⟨n2 - 1, by omega⟩
    have : k = 10 := by omega
    subst this
    rw [fX3_lengthOf_4, fX9_longest_37, if_pos (by decide), if_pos (by decide)]
    exact ⟨x, by omega, fun _ => rfl, rfl, fun _ => rfl⟩
  | succ m ih =>
    intro n n2 k x hk hn hn2 hx
    obtain ⟨n, rfl⟩ : ∃ q, n = q + 1 := ⟨n - 1, by omega⟩
    obtain ⟨n2, rfl⟩ : ∃ q, n2 = q + 1 := ⟨n2 - 1, by omega⟩
    have h1 : ¬ (10 : Int32) ≤ nI k := by rw [k10, nI_leI (by decide) (by omega)]; omega
    have hk10 : k < 10 := by omega
    obtain ⟨e1, l, l1, l2, e2⟩ := el k hk10
    rw [fX3_lengthOf_4, fX9_longest_37, if_neg h1, if_neg h1, has8 (by omega) (by omega), has9 (by omega) (by omega), Option.bind_some, Option.bind_some, if10, if10, chk_nI hk10 (by decide), rd_nI (by omega), chk_nI hS (by decide), rd_nI (by omega), k20, l_add, chk_nI (show 20 + k < 60 by omega) (by decide), rd_nI (by omega), e1, e2, l_add, nI_1, Int32.add_zero]
    by_cases c : S.testBit k = true
    · rw [if_pos c, if_pos c]
      obtain ⟨y, y1, y2, y3, y4⟩ := ih n n2 (k + 1) (x + l) (by omega) (by omega) (by omega) (by omega)
      refine ⟨y, by omega, ?_, y3, fun hz => ?_⟩
      · rintro rfl
        rw [Nat.zero_testBit] at c
        exact absurd c (by decide)
      · rw [if_neg hz]
        exact y4 hz
    · rw [if_neg c, if_neg c]
      obtain ⟨y, y1, y2, y3, y4⟩ := ih n n2 (k + 1) x (by omega) (by omega) (by omega) (by omega)
      refine ⟨y, by omega, y2, y3, fun hz => ?_⟩
      rw [if_neg hz]
      exact y4 hz
theorem lenOf {length of lasts : Nat → Int32} {K : Int32 → Int32 → Int32 → Option (Int32 × (Nat → Int32))} {x1 x2 x3 : Int32} {S : Nat} (hS : S < 1024) (el : ∀ p, p < 10 → length p = of (20 + p) ∧ Rg (of (20 + p)) 1 20) :
    ∃ y, y ≤ 200 ∧ (S = 0 → y = 0) ∧ fX3_lengthOf length (nI S) = some (nI y) ∧ fX9_longest_37 K of lasts x1 x2 x3 (nI S) 2000 0 0 = fX9_longest_89 K of lasts x1 x2 x3 (nI S) (nI (if lasts S = 0 then 0 else y)) := by
  obtain ⟨y, y1, y2, y3, y4⟩ := len_run (lasts := lasts) (K := K) (x1 := x1) (x2 := x2) (x3 := x3) hS el 10 2000 2000 0 0 (by omega) (by omega) (by omega) (by omega)
  rw [nI_0] at y3 y4
  refine ⟨y, by omega, y2, y3, ?_⟩
  by_cases c : lasts S = 0
  · rw [if_pos c, fX9_longest_37, if_neg (by decide), chk_nI hS (by decide), rd_nI (by omega), if_pos c, nI_0]
  · rw [if_neg c]
    exact y4 c
theorem long_run {length of lasts bf few las : Nat → Int32} {x1 : Int32} {U : Nat} (hU : U < 1024) (el : ∀ p, p < 10 → length p = of (20 + p) ∧ Rg (of (20 + p)) 1 20) (hT : PLt U bf few las 1024) (hL : L9t U (jb bf) 1024 lasts) :
    ∀ m n n2 S most found, S + m = 1024 → m < n → m < n2 → most ≤ 200 → found < 1024 → fX3_lengthOf length (nI found) = some (nI most) →
    ∃ M F, F < 1024 ∧ fX3_lengthOf length (nI F) = some (nI M) ∧ fX4_longestBits_7 (nI U) few length n (nI found) (nI most) (nI S) = some (nI F) ∧ fX9_longest_23 of lasts x1 n2 (nI most) (nI found) (nI S) = some (if x1 = 0 then nI M else nI F, lasts) := by
  intro m
  induction m with
  | zero =>
    intro n n2 S most found hS hn hn2 hm hf hl
    obtain ⟨n, rfl⟩ : ∃ q, n = q + 1 := ⟨n - 1, by omega⟩
    obtain ⟨n2, rfl⟩ : ∃ q, n2 = q + 1 := ⟨n2 - 1, by omega⟩
    have : S = 1024 := by omega
    subst this
    rw [fX4_longestBits_7, fX9_longest_23, if_pos (by decide), if_pos (by decide)]
    refine ⟨most, found, hf, hl, rfl, ?_⟩
    by_cases q : x1 = 0
    · rw [if_pos q, if_pos q]
    · rw [if_neg q, if_neg q]
  | succ m ih =>
    intro n n2 S most found hS hn hn2 hm hf hl
    obtain ⟨n, rfl⟩ : ∃ q, n = q + 1 := ⟨n - 1, by omega⟩
    obtain ⟨n2, rfl⟩ : ∃ q, n2 = q + 1 := ⟨n2 - 1, by omega⟩
    have h1 : ¬ (1024 : Int32) ≤ nI S := by rw [show (1024 : Int32) = nI 1024 by decide, nI_leI (by decide) (by omega)]; omega
    have hS1 : S < 1024 := by omega
    have hle := sdf_le S U
    have e0 : nI S &&& (nI U ^^^ (-1)) = nI (sdf S U) := by rw [km1, nx_xor, nx_and]; rfl
    have z0 : (nI (sdf S U) = (0 : Int32)) ↔ Sbs S U := by rw [← nI_0, nI_eq (by omega) (by decide), sdf0 (by omega)]
    obtain ⟨y, y1, -, y2, y3⟩ := lenOf (lasts := lasts) (K := fun y0 y1 y2 => fX9_longest_23 of lasts x1 n2 y0 y1 y2) (x1 := x1) (x2 := nI most) (x3 := nI found) hS1 el
    have hne := plank_ne hL hS1
    rw [fX4_longestBits_7, fX9_longest_23, if_neg h1, if_neg h1, y3, e0, chk_nI hS1 (by decide), rd_nI (by omega), y2, Option.bind_some, nI_1]
    have same : (if lasts S = 0 then 0 else y) ≤ most → fX9_longest_89 (fun y0 y1 y2 => fX9_longest_23 of lasts x1 n2 y0 y1 y2) of lasts x1 (nI most) (nI found) (nI S) (nI (if lasts S = 0 then 0 else y)) = fX9_longest_23 of lasts x1 n2 (nI most) (nI found) (nI (S + 1)) := by
      intro q
      unfold fX9_longest_89 fX9_longest_101
      rw [if_pos (nI_le q (by omega)), if_pos (nI_le q (by omega)), nI_1]
    have other : ¬ (if lasts S = 0 then 0 else y) ≤ most → fX9_longest_89 (fun y0 y1 y2 => fX9_longest_23 of lasts x1 n2 y0 y1 y2) of lasts x1 (nI most) (nI found) (nI S) (nI (if lasts S = 0 then 0 else y)) = fX9_longest_23 of lasts x1 n2 (nI (if lasts S = 0 then 0 else y)) (nI S) (nI (S + 1)) := by
      intro q
      have hb : (if lasts S = 0 then 0 else y) ≤ 200 := by split <;> omega
      unfold fX9_longest_89 fX9_longest_101
      rw [if_neg (nI_ge (by omega) (by omega)), if_neg (nI_ge (by omega) (by omega)), nI_1]
    have go := ih n n2 (S + 1) most found (by omega) (by omega) (by omega) hm hf hl
    by_cases c : Sbs S U
    · obtain ⟨f, l, f1, f2, f3⟩ := hT S hS1 c
      have f10 := mn_10 hS1 f3.1
      have fo1 := mn_one (show S < 2 ^ 32 by omega) f3.1
      rw [if_pos (z0.mpr c), f1]
      by_cases d : f = 1
      · have dn : ¬ lasts S = 0 := hne.mpr ⟨c, fo1.mp d⟩
        rw [if_pos (show nI f = 1 by rw [d, k1])]
        by_cases e : y ≤ most
        · rw [if_pos (nI_le e (by omega)), same (by rw [if_neg dn]; exact e)]
          exact go
        · rw [if_neg (nI_ge (by omega) (by omega)), other (by rw [if_neg dn]; exact e), if_neg dn]
          exact ih n n2 (S + 1) y S (by omega) (by omega) (by omega) y1 hS1 y2
      · have dn : lasts S = 0 := by
          by_cases z : lasts S = 0
          · exact z
          · exact absurd (fo1.mpr (hne.mp z).2) d
        rw [if_neg (fun q => d ((nI_eq (by omega) (by decide)).mp (by rw [q, k1]))), same (by rw [if_pos dn]; omega)]
        exact go
    · have dn : lasts S = 0 := by
        by_cases z : lasts S = 0
        · exact z
        · exact absurd (hne.mp z).1 c
      rw [if_neg (fun q => c (z0.mp q)), same (by rw [if_pos dn]; omega)]
      exact go
theorem core_longest {n_year : Int32} {n_wreck : Nat → Int32} {n_wood : Nat → Int32} {n_length : Nat → Int32} {n_left : Nat → Int32} {n_right : Nat → Int32} {n_place : Nat → Int32} {n_rings : Nat → Int32} {n_hpiece : Nat → Int32} {n_partner : Nat → Int32} {n_children : Nat → Int32} {n_count : Int32} {n_house : Nat → Int32} {n_reach : Nat → Int32} {n_sounded : Nat → Int32} {book of sight : Nat → Int32} {sights us : Int32} {bf few las lasts9 : Nat → Int32} (x : Int32) (h : RS n_year n_wreck n_wood n_length n_left n_right n_place n_rings n_hpiece n_partner n_children n_count n_house n_reach n_sounded book of sight sights) (hP : PL us bf few las) :
    ∃ zx zm, fX8_longest n_wood n_length n_left n_right n_place us bf few las x = some zx ∧ fX9_longest book of lasts9 x = some zm ∧ zx.1 = zm.1 ∧ PL zx.2.1 zx.2.2.1 zx.2.2.2.1 zx.2.2.2.2 := by
  unfold fX8_longest fX9_longest
  simp only [wi8, wi9, Option.bind_some, if10]
  by_cases c1 : 0 ≤ x ∧ x ≤ 1
  · obtain ⟨U, bf', few', las', u1, u2, u3, u4, u5, u6⟩ := lay_both (place := n_place) (fun p hp => ⟨(h.1.1 p hp).2.1, (h.1.1 p hp).2.2.2.1, (h.1.1 p hp).2.2.2.2.1⟩) hP
    have hU : ∀ p, p < 10 → U.testBit p = !decide (book p = 3) := fun p hp => by rw [u4 p hp, (h.1.1 p hp).2.2.2.2.2.2]
    obtain ⟨l9, l1, l2⟩ := ref_both lasts9 u5 hU
    have el : ∀ p, p < 10 → n_length p = of (20 + p) ∧ Rg (of (20 + p)) 1 20 := fun p hp => ⟨(h.1.1 p hp).2.2.1, (h.2.1 p hp).2.2.1⟩
    obtain ⟨y, y1, y0, y2, -⟩ := lenOf (lasts := l9) (K := fun _ _ _ => none) (x1 := 0) (x2 := 0) (x3 := 0) (show 0 < 1024 by decide) el
    rw [y0 rfl] at y2
    obtain ⟨M, F, g1, g2, g3, g4⟩ := long_run (x1 := x) u1 el u6 l2 1023 2000 2000 1 0 0 (by omega) (by omega) (by omega) (by omega) (by omega) y2
    rw [← k1, nI_0] at g3 g4
    unfold fX4_longestBits
    simp only [c1, and_self, if_true, u2, l1, g3, g4, Option.bind_some, g2]
    by_cases q : x = 0
    · simp only [q, if_true]
      exact ⟨_, _, rfl, rfl, rfl, U, u1, rfl, u6⟩
    · simp only [q, if_false]
      exact ⟨_, _, rfl, rfl, rfl, U, u1, rfl, u6⟩
  · simp only [c1, if_false]
    exact ⟨_, _, rfl, rfl, rfl, hP⟩
