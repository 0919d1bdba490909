/-! BOOK -/
theorem jr {a d : Nat} (ha : a < 2 ^ 31) (h0 : 0 < d) (hd : d < 2 ^ 31) : jrem (nI a) (nI d) = nI (a % d) := pk_rem ha h0 hd
theorem cnt_run {wd x3 : Int32} {year : Int32} {place hpiece partner children now : Nat → Int32} (h : RN year place hpiece partner children now) : ∀ (m n n2 n3 k : Nat) (x y : Int32), k + m = 8 → m < n → m < n2 → m < n3 →
    ∃ r1 r2, fX0_countOfPieces_4 hpiece n x (nI k) = some r1 ∧ fX0_allChildren_4 children n2 y (nI k) = some r2 ∧ fX9_book_200 wd now x3 n3 x y (nI k) = some (if x3 = 0 then r1 else if x3 = 1 then r2 else wd, wd, now) := by
  intro m
  induction m with
  | zero =>
    intro n n2 n3 k x y hk hn hn2 hn3
    obtain ⟨n, rfl⟩ : ∃ q, n = q + 1 := ⟨n - 1, by omega⟩
    obtain ⟨n2, rfl⟩ : ∃ q, n2 = q + 1 := ⟨n2 - 1, by omega⟩
    obtain ⟨n3, rfl⟩ : ∃ q, n3 = q + 1 := ⟨n3 - 1, by omega⟩
    have : k = 8 := by omega
    subst this
    rw [fX0_countOfPieces_4, fX0_allChildren_4, fX9_book_200, if_pos (by decide), if_pos (by decide), if_pos (by decide)]
    refine ⟨x, y, rfl, rfl, ?_⟩
    by_cases q : x3 = 0
    · simp only [q, if_true]
    · by_cases q2 : x3 = 1
      · simp only [q2, if_true, show ¬ (1 : Int32) = 0 by decide, if_false]
      · simp only [q, q2, if_false]
  | succ m ih =>
    intro n n2 n3 k x y hk hn hn2 hn3
    obtain ⟨n, rfl⟩ : ∃ q, n = q + 1 := ⟨n - 1, by omega⟩
    obtain ⟨n2, rfl⟩ : ∃ q, n2 = q + 1 := ⟨n2 - 1, by omega⟩
    obtain ⟨n3, rfl⟩ : ∃ q, n3 = q + 1 := ⟨n3 - 1, by omega⟩
    have h1 : ¬ (8 : Int32) ≤ nI k := by rw [k8, nI_leI (by decide) (by omega)]; omega
    have hk8 : k < 8 := by omega
    have n6 := neg6 (by decide) (h.2.1 k hk8).2.2.2.1
    rw [fX0_countOfPieces_4, fX0_allChildren_4, fX9_book_200, if_neg h1, if_neg h1, if_neg h1]
    unfold fX9_book_227
    simp only [k10, k26, l_add, chk_nI (show k < 8 by omega) (by decide : 8 < 2 ^ 31), chk_nI (show 10 + k < 35 by omega) (by decide : 35 < 2 ^ 31), chk_nI (show 26 + k < 35 by omega) (by decide : 35 < 2 ^ 31), rd, nI_clamp (show k < 2 ^ 31 by omega), nI_clamp (show 10 + k < 2 ^ 31 by omega), nI_clamp (show 26 + k < 2 ^ 31 by omega), (h.2.1 k hk8).1, (h.2.1 k hk8).2.2.1, n6.1, nI_1, Int32.add_zero]
    by_cases q : now (10 + k) = -6
    · simp only [q, if_true]
      exact ih n n2 n3 (k + 1) _ _ (by omega) (by omega) (by omega) (by omega)
    · simp only [q, if_false]
      exact ih n n2 n3 (k + 1) _ _ (by omega) (by omega) (by omega) (by omega)
theorem draw_run {b_year : Int32} {b_wreck : Nat → Int32} {b_wood : Nat → Int32} {b_length : Nat → Int32} {b_left : Nat → Int32} {b_right : Nat → Int32} {b_place : Nat → Int32} {b_rings : Nat → Int32} {b_hpiece : Nat → Int32} {b_partner : Nat → Int32} {b_children : Nat → Int32} {b_count : Int32} {b_house : Nat → Int32} {b_reach : Nat → Int32} {b_sounded : Nat → Int32} {acts why x3 : Int32} {of : Nat → Int32} {mm : Nat} (hmm : mm ≤ 99) (hw : ∀ p, p < 10 → b_wreck p = of p) : ∀ (m n n2 i s : Nat) (wd year : Int32) (place hpiece partner children now : Nat → Int32), i + m = mm → m < n → m < n2 → s < 65537 → RN year place hpiece partner children now →
    ∃ (wd' y' : Int32) (pl hp pa ch now' : Nat → Int32), fX7_draw_11 acts why b_wreck b_wood b_length b_left b_right b_rings b_count b_house b_reach b_sounded (nI mm) n wd year place hpiece partner children (nI s) (nI i) = some (acts, why, wd', y', b_wreck, b_wood, b_length, b_left, b_right, pl, b_rings, hp, pa, ch, b_count, b_house, b_reach, b_sounded) ∧
      fX9_book_43 of (nI mm) x3 n2 wd now (nI s) (nI i) = fX9_book_200 wd' now' x3 2000 0 0 0 ∧ RN y' pl hp pa ch now' := by
  intro m
  induction m with
  | zero =>
    intro n n2 i s wd year place hpiece partner children now hi hn hn2 hs h
    obtain ⟨n, rfl⟩ : ∃ q, n = q + 1 := ⟨n - 1, by omega⟩
    obtain ⟨n2, rfl⟩ : ∃ q, n2 = q + 1 := ⟨n2 - 1, by omega⟩
    have : i = mm := by omega
    subst this
    rw [fX7_draw_11, fX9_book_43, if_pos (nI_le (Nat.le_refl i) (by omega)), if_pos (nI_le (Nat.le_refl i) (by omega))]
    exact ⟨_, _, _, _, _, _, _, rfl, rfl, h⟩
  | succ m ih =>
    intro n n2 i s wd year place hpiece partner children now hi hn hn2 hs h
    obtain ⟨n, rfl⟩ : ∃ q, n = q + 1 := ⟨n - 1, by omega⟩
    obtain ⟨n2, rfl⟩ : ∃ q, n2 = q + 1 := ⟨n2 - 1, by omega⟩
    have h1 : ¬ nI mm ≤ nI i := by rw [nI_leI (by omega) (by omega)]; omega
    rw [fX7_draw_11, fX9_book_43, if_neg h1, if_neg h1]
    have hx : jrem (75 * nI s + 74) 65537 = nI ((75 * s + 74) % 65537) := by
      rw [show (75 : Int32) = nI 75 by decide, show (74 : Int32) = nI 74 by decide, show (65537 : Int32) = nI 65537 by decide, pk_mul, l_add]
      exact jr (by omega) (by decide) (by decide)
    have hX : (75 * s + 74) % 65537 < 65537 := Nat.mod_lt _ (by decide)
    generalize (75 * s + 74) % 65537 = x at hx hX
    have x8 : nI x / 8 = nI (x / 8) := by rw [k8, pk_div (by omega) (by decide) (by decide)]
    have x64 : nI x / 64 = nI (x / 64) := by rw [show (64 : Int32) = nI 64 by decide, pk_div (by omega) (by decide) (by decide)]
    have r8 : jrem (nI x) 8 = nI (x % 8) := by rw [k8]; exact jr (by omega) (by decide) (by decide)
    have rp : jrem (nI (x / 8)) 10 = nI (x / 8 % 10) := by rw [k10]; exact jr (by omega) (by decide) (by decide)
    have rh : jrem (nI (x / 8)) 8 = nI (x / 8 % 8) := by rw [k8]; exact jr (by omega) (by decide) (by decide)
    have rg : jrem (nI (x / 64)) 8 = nI (x / 64 % 8) := by rw [k8]; exact jr (by omega) (by decide) (by decide)
    have p1 : x / 8 % 10 < 10 := Nat.mod_lt _ (by decide)
    have p2 : x / 8 % 8 < 8 := Nat.mod_lt _ (by decide)
    have p3 : x / 64 % 8 < 8 := Nat.mod_lt _ (by decide)
    have p4 : x % 8 < 8 := Nat.mod_lt _ (by decide)
    simp only [bnd, hx, x8, x64, r8, rp, rh, rg, nI_1]
    generalize x / 8 % 10 = p at p1
    generalize x / 8 % 8 = k at p2
    generalize x / 64 % 8 = g at p3
    generalize x % 8 = q at p4
    unfold fX7_drawnAct fX7_drawnAct_44 fX7_drawnAct_56
    rcases (show q = 0 ∨ q = 1 ∨ q = 2 ∨ q = 3 ∨ q = 4 ∨ q = 5 ∨ q = 6 ∨ q = 7 by omega) with rfl | rfl | rfl | rfl | rfl | rfl | rfl | rfl
    · obtain ⟨r, pl', now', r1, r2, -, r4⟩ := a_comeIn h p1
      simp only [nI_0, show ¬ (2 : Int32) ≤ 0 by decide, if_true, if_false, r1, r2, Option.bind_some]
      exact ih n n2 (i + 1) x _ _ _ _ _ _ _ (by omega) (by omega) (by omega) hX r4
    · obtain ⟨r, pl', now', r1, r2, -, r4⟩ := a_comeIn h p1
      simp only [show ¬ (2 : Int32) ≤ nI 1 by decide, show ¬ nI 1 = 0 by decide, show nI 1 = 1 by decide, if_true, if_false, r1, r2, Option.bind_some]
      exact ih n n2 (i + 1) x _ _ _ _ _ _ _ (by omega) (by omega) (by omega) hX r4
    · obtain ⟨r, pl', hp', now', r1, r2, -, r4⟩ := a_take h p3 p1
      simp only [show (2 : Int32) ≤ nI 2 by decide, show ¬ (4 : Int32) ≤ nI 2 by decide, show ¬ nI 2 = 0 by decide, show ¬ nI 2 = 1 by decide, show nI 2 = 2 by decide, if_true, if_false, r1, r2, Option.bind_some]
      exact ih n n2 (i + 1) x _ _ _ _ _ _ _ (by omega) (by omega) (by omega) hX r4
    · obtain ⟨r, pl', hp', now', r1, r2, -, r4⟩ := a_take h p3 p1
      simp only [show (2 : Int32) ≤ nI 3 by decide, show ¬ (4 : Int32) ≤ nI 3 by decide, show ¬ nI 3 = 0 by decide, show ¬ nI 3 = 1 by decide, show ¬ nI 3 = 2 by decide, show nI 3 = 3 by decide, if_true, if_false, r1, r2, Option.bind_some]
      exact ih n n2 (i + 1) x _ _ _ _ _ _ _ (by omega) (by omega) (by omega) hX r4
    · obtain ⟨r, wd', pa', now', r1, r2, -, r4⟩ := a_wed h hw wd p2 p3
      simp only [show (2 : Int32) ≤ nI 4 by decide, show (4 : Int32) ≤ nI 4 by decide, show ¬ nI 4 = 0 by decide, show ¬ nI 4 = 1 by decide, show ¬ nI 4 = 2 by decide, show ¬ nI 4 = 3 by decide, show nI 4 = 4 by decide, if_true, if_false, r1, r2, Option.bind_some]
      exact ih n n2 (i + 1) x _ _ _ _ _ _ _ (by omega) (by omega) (by omega) hX r4
    · obtain ⟨r, pa', now', r1, r2, -, r4⟩ := a_part h p2
      simp only [show (2 : Int32) ≤ nI 5 by decide, show (4 : Int32) ≤ nI 5 by decide, show ¬ nI 5 = 0 by decide, show ¬ nI 5 = 1 by decide, show ¬ nI 5 = 2 by decide, show ¬ nI 5 = 3 by decide, show ¬ nI 5 = 4 by decide, show nI 5 = 5 by decide, if_true, if_false, r1, r2, Option.bind_some]
      exact ih n n2 (i + 1) x _ _ _ _ _ _ _ (by omega) (by omega) (by omega) hX r4
    · obtain ⟨r, pl', hp', now', r1, r2, -, r4⟩ := a_burn h p2
      simp only [show (2 : Int32) ≤ nI 6 by decide, show (4 : Int32) ≤ nI 6 by decide, show ¬ nI 6 = 0 by decide, show ¬ nI 6 = 1 by decide, show ¬ nI 6 = 2 by decide, show ¬ nI 6 = 3 by decide, show ¬ nI 6 = 4 by decide, show ¬ nI 6 = 5 by decide, show nI 6 = 6 by decide, if_true, if_false, r1, r2, Option.bind_some]
      exact ih n n2 (i + 1) x _ _ _ _ _ _ _ (by omega) (by omega) (by omega) hX r4
    · obtain ⟨r, y', ch', now', r1, r2, -, r4⟩ := a_year h
      simp only [show (2 : Int32) ≤ nI 7 by decide, show (4 : Int32) ≤ nI 7 by decide, show ¬ nI 7 = 0 by decide, show ¬ nI 7 = 1 by decide, show ¬ nI 7 = 2 by decide, show ¬ nI 7 = 3 by decide, show ¬ nI 7 = 4 by decide, show ¬ nI 7 = 5 by decide, show ¬ nI 7 = 6 by decide, if_true, if_false, r1, r2, Option.bind_some]
      exact ih n n2 (i + 1) x _ _ _ _ _ _ _ (by omega) (by omega) (by omega) hX r4
theorem core_book {n_year : Int32} {n_wreck : Nat → Int32} {n_wood : Nat → Int32} {n_length : Nat → Int32} {n_left : Nat → Int32} {n_right : Nat → Int32} {n_place : Nat → Int32} {n_rings : Nat → Int32} {n_hpiece : Nat → Int32} {n_partner : Nat → Int32} {n_children : Nat → Int32} {n_count : Int32} {n_house : Nat → Int32} {n_reach : Nat → Int32} {n_sounded : Nat → Int32} {book of sight : Nat → Int32} {sights : Int32} {e_year : Int32} {e_wreck : Nat → Int32} {e_wood : Nat → Int32} {e_length : Nat → Int32} {e_left : Nat → Int32} {e_right : Nat → Int32} {e_place : Nat → Int32} {e_rings : Nat → Int32} {e_hpiece : Nat → Int32} {e_partner : Nat → Int32} {e_children : Nat → Int32} {e_count : Int32} {e_house : Nat → Int32} {e_reach : Nat → Int32} {e_sounded : Nat → Int32} {y1 y2 y3 mw : Int32} {now : Nat → Int32} (x1 x2 x3 : Int32)
    (h : RS n_year n_wreck n_wood n_length n_left n_right n_place n_rings n_hpiece n_partner n_children n_count n_house n_reach n_sounded book of sight sights) :
    ∃ zx zm, fX8_book n_year n_wreck n_wood n_length n_left n_right n_place n_rings n_hpiece n_partner n_children n_count n_house n_reach n_sounded y1 y2 y3 e_year e_wreck e_wood e_length e_left e_right e_place e_rings e_hpiece e_partner e_children e_count e_house e_reach e_sounded x1 x2 x3 = some zx ∧ fX9_book mw book now of x1 x2 x3 = some zm ∧ zx.1 = zm.1 := by
  unfold fX8_book fX9_book
  simp only [wi8, wi9, Option.bind_some, if10]
  by_cases c1 : 0 ≤ x1 ∧ x1 ≤ 9999
  · by_cases c2 : 1 ≤ x2 ∧ x2 ≤ 99
    · by_cases c3 : 0 ≤ x3 ∧ x3 ≤ 2
      · obtain ⟨s, -, hs, rfl⟩ := rg_of (a := 0) (b := 9999) rfl rfl c1.1 c1.2
        obtain ⟨mm, -, hm, rfl⟩ := rg_of (a := 1) (b := 99) rfl rfl c2.1 c2.2
        obtain ⟨w1, w2, w3, w4, w5, w6, w7, h1, h2, h3, s1, s2, s3, b1, b2, b3, b4⟩ := become5 e_year e_wreck e_wood e_length e_left e_right e_place e_rings e_hpiece e_partner e_children e_count e_house e_reach e_sounded n_year n_wreck n_wood n_length n_left n_right n_place n_rings n_hpiece n_partner n_children n_count n_house n_reach n_sounded
        obtain ⟨now0, n1, n2⟩ := asNow9 mw book now
        have hN := start_RN h (fun i hi => (b2 i hi).2.2.2.2.2.1) b3 n2
        obtain ⟨wd, y, pl, hp, pa, ch, now', t1, t2, t3⟩ := draw_run (acts := 0) (why := 0) (x3 := x3) (b_year := 0) (b_place := w6) (b_hpiece := h1) (b_partner := h2) (b_children := h3) (b_wreck := w1) (b_wood := w2) (b_length := w3) (b_left := w4) (b_right := w5) (b_rings := w7) (b_count := n_count) (b_house := s1) (b_reach := s2) (b_sounded := s3) (of := of) hm (fun p hp => ((b2 p hp).1.trans (h.1.1 p hp).1)) mm 2000 2000 0 s 0 n_year w6 h1 h2 h3 now0 (by omega) (by omega) (by omega) (by omega) hN
        rw [nI_0] at t1 t2
        obtain ⟨r1, r2, u1, u2, u3⟩ := cnt_run (wd := wd) (x3 := x3) t3 8 2000 2000 2000 0 0 0 (by omega) (by omega) (by omega) (by omega)
        rw [nI_0] at u1 u2 u3
        simp only [c1, c2, c3, and_self, if_true]
        unfold fX7_draw fX7_begin fX0_countOfPieces fX0_allChildren
        rw [b1, n1, Option.bind_some, Option.bind_some, Option.bind_some]
        simp only [t1, t2, Option.bind_some, u1, u2, u3]
        by_cases q : x3 = 0
        · simp only [q, if_true]
          exact ⟨_, _, rfl, rfl, rfl⟩
        · by_cases q2 : x3 = 1
          · simp only [q2, if_true, show ¬ (1 : Int32) = 0 by decide, if_false]
            exact ⟨_, _, rfl, rfl, rfl⟩
          · simp only [q, q2, if_false]
            exact ⟨_, _, rfl, rfl, rfl⟩
      · simp only [c1, c2, c3, and_self, if_true, if_false]
        exact ⟨_, _, rfl, rfl, rfl⟩
    · simp only [c1, c2, and_self, if_true, if_false]
      exact ⟨_, _, rfl, rfl, rfl⟩
  · simp only [c1, if_false]
    exact ⟨_, _, rfl, rfl, rfl⟩
