/-! TOLD -/
theorem neg_or (x : Int32) : x < 0 ∨ ∃ k : Nat, k < 2 ^ 31 ∧ x = nI k := by
  by_cases h : x < 0
  · exact Or.inl h
  · exact Or.inr (nI_of h)
theorem k6 : (6 : Int32) = nI 6 := by decide
theorem k5 : (5 : Int32) = nI 5 := by decide
theorem k4 : (4 : Int32) = nI 4 := by decide
theorem k7 : (7 : Int32) = nI 7 := by decide
theorem k9 : (9 : Int32) = nI 9 := by decide
theorem k200 : (200 : Int32) = nI 200 := by decide
theorem k279 : (279 : Int32) = nI 279 := by decide
theorem k109 : (109 : Int32) = nI 109 := by decide
theorem k0 : (0 : Int32) = nI 0 := by decide
theorem core_told {year : Int32} {wreck wood length left right place rings hpiece partner children : Nat → Int32} {count : Int32} {house reach sounded : Nat → Int32} {book of sight : Nat → Int32} {sights : Int32} {pc : Int32} {signs : Nat → Int32} {msigns : Int32} {pad : Nat → Int32} (s1 : Int32)
    (h : RS year wreck wood length left right place rings hpiece partner children count house reach sounded book of sight sights) (hp : RP pc signs msigns pad) :
    ∃ zx zm, fX8_told year wreck wood length left right place rings hpiece partner children count pc s1 = some zx ∧ fX9_told sights msigns book of s1 = some zm ∧ zx = zm := by
  obtain ⟨c, hc, rfl, rfl, -, -⟩ := hp
  obtain ⟨⟨e1, e2, e3, e4, e5⟩, -⟩ := h
  unfold fX8_told fX9_told
  rcases neg_or s1 with hn | ⟨k, hk, rfl⟩
  · have a0 : ¬ s1 = 0 := fun q => by rw [q] at hn; exact absurd hn (by decide)
    have a1 : ¬ s1 = 1 := fun q => by rw [q] at hn; exact absurd hn (by decide)
    have a2 : ¬ s1 = 2 := fun q => by rw [q] at hn; exact absurd hn (by decide)
    have hn' : s1.toInt < 0 := by rw [i_lt] at hn; exact hn
    have a3 : s1 < 200 := by rw [i_lt, show (200 : Int32).toInt = 200 from rfl]; omega
    have a4 : s1 < 10 := by rw [i_lt, show (10 : Int32).toInt = 10 from rfl]; omega
    have a5 : ¬ ((10 : Int32) ≤ s1 ∧ s1 ≤ 109) := by rw [i_le, show (10 : Int32).toInt = 10 from rfl]; omega
    have a6 : ¬ ((200 : Int32) ≤ s1 ∧ s1 ≤ 279) := by rw [i_le, show (200 : Int32).toInt = 200 from rfl]; omega
    simp only [a0, a1, a2, a3, a4, if_true, if_false, wi8, Option.bind_some, if10, a5, fX8_told_81, a6]
    exact ⟨_, _, rfl, rfl, rfl⟩
  · have q0 : (nI k = (0 : Int32)) ↔ k = 0 := by rw [k0, nI_eq hk (by decide)]
    have q1 : (nI k = (1 : Int32)) ↔ k = 1 := by rw [k1, nI_eq hk (by decide)]
    have q2 : (nI k = (2 : Int32)) ↔ k = 2 := by rw [k2, nI_eq hk (by decide)]
    have q3 : (nI k < (200 : Int32)) ↔ k < 200 := by rw [k200, nI_ltI hk (by decide)]
    have q4 : (nI k < (10 : Int32)) ↔ k < 10 := by rw [k10, nI_ltI hk (by decide)]
    have q5 : ((10 : Int32) ≤ nI k ∧ nI k ≤ 109) ↔ (10 ≤ k ∧ k ≤ 109) := by rw [k10, k109, nI_leI (by decide) hk, nI_leI hk (by decide)]
    have q6 : ((200 : Int32) ≤ nI k ∧ nI k ≤ 279) ↔ (200 ≤ k ∧ k ≤ 279) := by rw [k200, k279, nI_leI (by decide) hk, nI_leI hk (by decide)]
    have dq : nI k / (10 : Int32) = nI (k / 10) := by rw [k10, pk_div hk (by decide) (by decide)]
    have dr : jrem (nI k) (10 : Int32) = nI (k % 10) := by rw [k10]; exact pk_rem hk (by decide) (by decide)
    simp only [q0, q1, q2, q3, q4, wi8, Option.bind_some, if10, q5, fX8_told_81, q6, dq, dr]
    have m10 : k % 10 < 10 := Nat.mod_lt _ (by decide)
    have d10 : k / 10 < 2 ^ 31 := by omega
    have r6 : ((6 : Int32) < nI (k % 10)) ↔ 6 < k % 10 := by rw [k6, nI_ltI (by decide) (by omega)]
    have r2 : ((2 : Int32) < nI (k % 10)) ↔ 2 < k % 10 := by rw [k2, nI_ltI (by decide) (by omega)]
    have r6' : (nI (k % 10) ≤ (6 : Int32)) ↔ k % 10 ≤ 6 := by rw [k6, nI_leI (by omega) (by decide)]
    have r5 : ((5 : Int32) ≤ nI (k % 10)) ↔ 5 ≤ k % 10 := by rw [k5, nI_leI (by decide) (by omega)]
    have r5' : (nI (k % 10) = (5 : Int32)) ↔ k % 10 = 5 := by rw [k5, nI_eq (by omega) (by decide)]
    have r3 : ((3 : Int32) ≤ nI (k % 10)) ↔ 3 ≤ k % 10 := by rw [k3, nI_leI (by decide) (by omega)]
    have z0 : (nI (k % 10) = (0 : Int32)) ↔ k % 10 = 0 := by rw [k0, nI_eq (by omega) (by decide)]
    have z1 : (nI (k % 10) = (1 : Int32)) ↔ k % 10 = 1 := by rw [k1, nI_eq (by omega) (by decide)]
    have z2 : (nI (k % 10) = (2 : Int32)) ↔ k % 10 = 2 := by rw [k2, nI_eq (by omega) (by decide)]
    have z3 : (nI (k % 10) = (3 : Int32)) ↔ k % 10 = 3 := by rw [k3, nI_eq (by omega) (by decide)]
    have z4 : (nI (k % 10) = (4 : Int32)) ↔ k % 10 = 4 := by rw [k4, nI_eq (by omega) (by decide)]
    simp only [r6, r2, r6', r5, r5', r3]
    by_cases c0 : k < 10
    · have c1 : k < 200 := by omega
      have c2 : ¬ (10 ≤ k ∧ k ≤ 109) := by omega
      have c3 : ¬ (200 ≤ k ∧ k ≤ 279) := by omega
      simp only [c0, c1, c2, c3, if_true, if_false]
      by_cases d0 : k = 0
      · simp only [d0, if_true]; exact ⟨_, _, rfl, rfl, rfl⟩
      · by_cases d1 : k = 1
        · simp only [d0, d1, if_true, if_false, k34, chk_nI (show 34 < 35 by decide) (by decide : 35 < 2 ^ 31), rd, nI_clamp (show 34 < 2 ^ 31 by decide)]
          exact ⟨_, _, rfl, rfl, e3⟩
        · by_cases d2 : k = 2
          · simp only [d0, d1, d2, if_true, if_false]; exact ⟨_, _, rfl, rfl, e4⟩
          · simp only [d0, d1, d2, if_false]; exact ⟨_, _, rfl, rfl, rfl⟩
    · have d0 : ¬ k = 0 := by omega
      have d1 : ¬ k = 1 := by omega
      have d2 : ¬ k = 2 := by omega
      simp only [d0, d1, d2, c0, if_false]
      have ds : nI (k / 10) - (1 : Int32) = nI (k / 10 - 1) := by rw [k1, pk_sub (by omega)]
      simp only [ds]
      by_cases c1 : k < 200
      · have c3 : ¬ (200 ≤ k ∧ k ≤ 279) := by omega
        simp only [c1, c3, if_true, if_false, ip9, Option.bind_some, if10]
        have w9 : ((0 : Int32) ≤ nI (k / 10 - 1) ∧ nI (k / 10 - 1) ≤ 9) ↔ k / 10 - 1 < 10 := by
          rw [k0, k9, nI_leI (by decide) (by omega), nI_leI (by omega) (by decide)]; omega
        simp only [w9]
        by_cases c2 : 10 ≤ k ∧ k ≤ 109
        · have c4 : k / 10 - 1 < 10 := by omega
          simp only [c2, c4, and_self, if_true]
          obtain ⟨f0, f1, f2, f3, f4, f6, f5⟩ := e1 (k / 10 - 1) c4
          by_cases c5 : 6 < k % 10
          · have c6 : ¬ k % 10 ≤ 6 := by omega
            simp only [c5, c6, if_true, if_false]
            exact ⟨_, _, rfl, rfl, rfl⟩
          · have c6 : k % 10 ≤ 6 := by omega
            simp only [c5, c6, if_true, if_false, fX3_detail, z0, z1, z2, z3, z4, r5', at8 c4 (by decide : 10 < 2 ^ 31), Option.bind_some, bnd, k10, k50, pk_mul, l_add]
            rcases (show k % 10 = 0 ∨ k % 10 = 1 ∨ k % 10 = 2 ∨ k % 10 = 3 ∨ k % 10 = 4 ∨ k % 10 = 5 ∨ k % 10 = 6 by omega) with g | g | g | g | g | g | g <;> simp only [g, if_true, if_false, Nat.reduceEqDiff, Nat.reduceLeDiff, Nat.reduceMul] 
            · rw [chk_nI (by omega) (by decide), rd_nI (by omega)]; exact ⟨_, _, rfl, rfl, by rw [f0, Nat.zero_add]⟩
            · rw [chk_nI (by omega) (by decide), rd_nI (by omega)]; exact ⟨_, _, rfl, rfl, f1⟩
            · rw [chk_nI (by omega) (by decide), rd_nI (by omega)]; exact ⟨_, _, rfl, rfl, f2⟩
            · rw [chk_nI (by omega) (by decide), rd_nI (by omega)]; exact ⟨_, _, rfl, rfl, f3⟩
            · rw [chk_nI (by omega) (by decide), rd_nI (by omega)]; exact ⟨_, _, rfl, rfl, f4⟩
            · rw [chk_nI (by omega) (by decide), rd_nI (by omega)]; exact ⟨_, _, rfl, rfl, f5⟩
            · rw [chk_nI (by omega) (by decide), rd_nI (by omega)]; exact ⟨_, _, rfl, rfl, f6⟩
        · have c4 : ¬ k / 10 - 1 < 10 := by omega
          simp only [c2, c4, if_false]
          exact ⟨_, _, rfl, rfl, rfl⟩
      · have c2 : ¬ (10 ≤ k ∧ k ≤ 109) := by omega
        have dt : nI (k / 10) - (20 : Int32) = nI (k / 10 - 20) := by rw [k20, pk_sub (by omega)]
        simp only [c1, c2, if_false, dt, ih9, Option.bind_some, if10]
        have w7 : ((0 : Int32) ≤ nI (k / 10 - 20) ∧ nI (k / 10 - 20) ≤ 7) ↔ k / 10 - 20 < 8 := by
          rw [k0, k7, nI_leI (by decide) (by omega), nI_leI (by omega) (by decide)]; omega
        simp only [w7]
        by_cases c3 : 200 ≤ k ∧ k ≤ 279
        · have c4 : k / 10 - 20 < 8 := by omega
          simp only [c3, c4, and_self, if_true]
          obtain ⟨f0, f1, f2⟩ := e2 (k / 10 - 20) c4
          by_cases c5 : 2 < k % 10
          · have c6 : 3 ≤ k % 10 := by omega
            simp only [c5, c6, if_true]
            exact ⟨_, _, rfl, rfl, rfl⟩
          · have c6 : ¬ 3 ≤ k % 10 := by omega
            simp only [c5, c6, if_false, fX0_detail, z0, z1, at8 c4 (by decide : 8 < 2 ^ 31), Option.bind_some, bnd, k10, k8, pk_mul, l_add]
            rcases (show k % 10 = 0 ∨ k % 10 = 1 ∨ k % 10 = 2 by omega) with g | g | g <;> simp only [g, if_true, if_false, Nat.reduceEqDiff, Nat.reduceMul, Nat.reduceAdd]
            · rw [chk_nI (by omega) (by decide), rd_nI (by omega)]; exact ⟨_, _, rfl, rfl, f0⟩
            · rw [chk_nI (by omega) (by decide), rd_nI (by omega)]; exact ⟨_, _, rfl, rfl, f1⟩
            · rw [chk_nI (by omega) (by decide), rd_nI (by omega)]; exact ⟨_, _, rfl, rfl, f2⟩
        · have c4 : ¬ k / 10 - 20 < 8 := by omega
          simp only [c3, c4, if_false]
          exact ⟨_, _, rfl, rfl, rfl⟩
