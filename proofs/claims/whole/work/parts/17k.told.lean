/-! YEARS: the loops of tell and of goYears -/
set_option maxRecDepth 100000 in
theorem hs2 : ∀ t, t < 127 → fX2_isHouseSign (nI t) = some (if isL t then 1 else 0) := by decide +kernel
theorem at8any (f : Nat → Int32) {n : Nat} (hn : n < 2 ^ 31) (x : Int32) : ∃ v, fX8_at n f x = some v := by
  rcases pk_ix x hn with h | h | ⟨j, hj, rfl⟩
  · exact ⟨_, at8o hn (Or.inl h)⟩
  · exact ⟨_, at8o hn (Or.inr h)⟩
  · exact ⟨_, at8 hj hn⟩
theorem isL_sub {t : Nat} (h : isL t = true) : nI t - 65 = nI (t - 65) ∧ t - 65 < 8 := by
  unfold isL at h
  rw [Bool.and_eq_true, decide_eq_true_eq, decide_eq_true_eq] at h
  exact ⟨by rw [show (65 : Int32) = nI 65 by decide, pk_sub h.1], by omega⟩
theorem isD_sub {t : Nat} (h : isD t = true) : nI t - 48 = nI (t - 48) ∧ t - 48 < 10 := by
  unfold isD at h
  rw [Bool.and_eq_true, decide_eq_true_eq, decide_eq_true_eq] at h
  exact ⟨by rw [show (48 : Int32) = nI 48 by decide, pk_sub h.1], by omega⟩
theorem a_home {year : Int32} {place hpiece partner children now : Nat → Int32} (h : RN year place hpiece partner children now) (wd x : Int32) (of : Nat → Int32) {k t : Nat} (hk : k < 8) (ht : t < 127) (hd : isD t = true ∨ t = 45 ∨ t = 42) :
    ∃ r pl' hp' pa' now', fX7_homeAct place hpiece partner (nI k) (nI t) = some (nI r, pl', hp', pa') ∧ fX9_houseAct wd now of (nI k) (nI t) x = some (nI r, wd, now') ∧ r ≤ 6 ∧ RN year pl' hp' pa' children now' := by
  unfold fX7_homeAct fX9_houseAct
  have h43 := nI_lit (t := t) (k := 43) (K := 43) (by omega) (by decide) (by decide)
  have h45 := nI_lit (t := t) (k := 45) (K := 45) (by omega) (by decide) (by decide)
  have h42 := nI_lit (t := t) (k := 42) (K := 42) (by omega) (by decide) (by decide)
  have n43 : ¬ t = 43 := by
    rintro rfl
    rcases hd with q | q | q
    · exact absurd q (by decide)
    · omega
    · omega
  simp only [h43, h45, h42, n43, if_false]
  by_cases c1 : t = 45
  · simp only [c1, if_true]
    obtain ⟨r, pa', now', r1, r2, r3, r4⟩ := a_part h hk
    rw [r1, r2, Option.bind_some, Option.bind_some]
    exact ⟨r, _, _, _, _, rfl, rfl, r3, r4⟩
  by_cases c2 : t = 42
  · simp only [c1, c2, if_true, if_false]
    obtain ⟨r, pl', hp', now', r1, r2, r3, r4⟩ := a_burn h hk
    rw [if_neg (by decide), if_neg (by decide), r1, r2, Option.bind_some, Option.bind_some]
    exact ⟨r, _, _, _, _, rfl, rfl, r3, r4⟩
  · have hD : isD t = true := by
      rcases hd with q | q | q
      · exact q
      · exact absurd q c1
      · exact absurd q c2
    simp only [c1, c2, if_false]
    obtain ⟨d1, d2⟩ := isD_sub hD
    obtain ⟨r, pl', hp', now', r1, r2, r3, r4⟩ := a_take h hk d2
    rw [d1, r1, r2, Option.bind_some, Option.bind_some]
    exact ⟨r, _, _, _, _, rfl, rfl, r3, r4⟩
theorem tell_run {c : Nat} {b_year : Int32} {b_wreck : Nat → Int32} {b_wood : Nat → Int32} {b_length : Nat → Int32} {b_left : Nat → Int32} {b_right : Nat → Int32} {b_place : Nat → Int32} {b_rings : Nat → Int32} {b_hpiece : Nat → Int32} {b_partner : Nat → Int32} {b_children : Nat → Int32} {b_count : Int32} {b_house : Nat → Int32} {b_reach : Nat → Int32} {b_sounded : Nat → Int32} {of signs pad : Nat → Int32} (hc : c ≤ 60) (hw : ∀ p, p < 10 → b_wreck p = of p) (e1 : ∀ i, i < 60 → signs i = pad i) (e2 : ∀ i, i < c → Rg (pad i) 33 126) :
    ∀ (m n n2 i k a : Nat) (rs wd year : Int32) (place hpiece partner children now : Nat → Int32), i + m = c → k ≤ i → a ≤ i → m < n → m < n2 → okr pad m 0 i → RN year place hpiece partner children now →
    ∃ (a' w : Nat) (wd' y' : Int32) (pl hp pa ch now' : Nat → Int32), fX7_tell_10 b_wreck b_wood b_length b_left b_right b_rings b_count b_house b_reach b_sounded (nI c) signs n (nI a) 0 wd year place hpiece partner children (nI i) (nI k) = some (nI a', nI w, wd', y', b_wreck, b_wood, b_length, b_left, b_right, pl, b_rings, hp, pa, ch, b_count, b_house, b_reach, b_sounded) ∧ a' ≤ 60 ∧ w ≤ 6 ∧
      ((w = 0 ∧ ∃ rs', fX9_goYears_11 (nI c) of pad n2 wd rs (nI a) now (nI i) = some (-6, wd', rs', nI a', now') ∧ RN y' pl hp pa ch now') ∨
       (w ≠ 0 ∧ fX9_goYears_11 (nI c) of pad n2 wd rs (nI a) now (nI i) = some (nI a', wd', nI w, nI a', now'))) := by
  intro m
  induction m using Nat.strongRecOn with
  | ind m ih =>
    intro n n2 i k a rs wd year place hpiece partner children now hi hk ha hn hn2 hok h
    obtain ⟨n, rfl⟩ : ∃ q, n = q + 1 := ⟨n - 1, by omega⟩
    obtain ⟨n2, rfl⟩ : ∃ q, n2 = q + 1 := ⟨n2 - 1, by omega⟩
    rw [fX7_tell_10, fX9_goYears_11]
    cases m with
    | zero =>
      have : i = c := by omega
      subst this
      simp only [nI_le (Nat.le_refl i) (show i < 2 ^ 31 by omega), if_true, ite_self]
      exact ⟨a, 0, _, _, _, _, _, _, _, by rw [nI_0], by omega, by omega, Or.inl ⟨rfl, _, rfl, h⟩⟩
    | succ m =>
      have q1 : ¬ (60 : Int32) ≤ nI k := by rw [k60, nI_leI (by decide) (by omega)]; omega
      have q2 : ¬ nI c ≤ nI i := by rw [nI_leI (by omega) (by omega)]; omega
      obtain ⟨t, ht1, ht2, ht⟩ := e2 i (by omega)
      have hcl : (pad i).toNatClampNeg = t := by rw [ht, nI_clamp (by omega)]
      have fin : ∀ (s r : Nat) (wd' y' : Int32) (pl hp pa ch now' : Nat → Int32), 0 < s → s ≤ m + 1 → r ≤ 6 → okr pad (m + 1 - s) 0 (i + s) → RN y' pl hp pa ch now' →
          ∃ (a' w : Nat) (wd2 y2 : Int32) (pl2 hp2 pa2 ch2 now2 : Nat → Int32), fX7_tell_151 (fun y0 y1 y2 y3 y4 y5 y6 y7 y8 y9 => fX7_tell_10 b_wreck b_wood b_length b_left b_right b_rings b_count b_house b_reach b_sounded (nI c) signs n y0 y1 y2 y3 y4 y5 y6 y7 y8 y9) (nI a) (nI r) wd' y' b_wreck b_wood b_length b_left b_right pl b_rings hp pa ch b_count b_house b_reach b_sounded (nI c) signs (nI (i + s)) (nI k) = some (nI a', nI w, wd2, y2, b_wreck, b_wood, b_length, b_left, b_right, pl2, b_rings, hp2, pa2, ch2, b_count, b_house, b_reach, b_sounded) ∧ a' ≤ 60 ∧ w ≤ 6 ∧
          ((w = 0 ∧ ∃ rs', fX9_goYears_118 (fun y0 y1 y2 y3 y4 => fX9_goYears_11 (nI c) of pad n2 y0 y1 y2 y3 y4) (nI c) wd' (nI r) (nI a) now' of pad (nI (i + s)) = some (-6, wd2, rs', nI a', now2) ∧ RN y2 pl2 hp2 pa2 ch2 now2) ∨
           (w ≠ 0 ∧ fX9_goYears_118 (fun y0 y1 y2 y3 y4 => fX9_goYears_11 (nI c) of pad n2 y0 y1 y2 y3 y4) (nI c) wd' (nI r) (nI a) now' of pad (nI (i + s)) = some (nI a', wd2, nI w, nI a', now2))) := by
        intro s r wd' y' pl hp pa ch now' hs hs2 hr hok' h'
        unfold fX7_tell_151 fX9_goYears_118
        by_cases z : r = 0
        · subst z
          simp only [nI_0, if_true, show (0 : Int32) ≤ 0 by decide, nI_1]
          exact ih (m + 1 - s) (by omega) n n2 (i + s) (k + 1) (a + 1) _ _ _ _ _ _ _ _ (by omega) (by omega) (by omega) (by omega) (by omega) hok' h'
        · have z1 : ¬ nI r = 0 := nI_ne0 (by omega) (by omega)
          have z2 : ¬ nI r ≤ 0 := nI_nle (by omega) (by omega)
          simp only [z1, z2, if_false]
          exact ⟨a, r, _, _, _, _, _, _, _, rfl, by omega, hr, Or.inr ⟨z, rfl⟩⟩
      have h46 := nI_lit (t := t) (k := 46) (K := 46) (by omega) (by decide) (by decide)
      obtain ⟨v, hv⟩ := at8any signs (show 60 < 2 ^ 31 by decide) (nI i + 1)
      have hsi : signs i = nI t := (e1 i (by omega)).trans ht
      obtain ⟨hdu, hok2⟩ := hok
      rw [hcl] at hdu hok2
      simp only [q1, q2, if_false, at8 (show i < 60 by omega) (by decide : 60 < 2 ^ 31), hsi, chk_nI (show i < 60 by omega) (by decide : 60 < 2 ^ 31), rd, nI_clamp (show i < 2 ^ 31 by omega), ht, Option.bind_some, hs2 t (by omega), let9 t (by omega), hv, h46]
      by_cases cL : isL t = true
      · obtain ⟨l1, l2⟩ := isL_sub cL
        have d0 : du 0 t = 1 := by unfold du; rw [if_pos rfl, if_pos cL]
        rw [d0] at hok2
        cases m with
        | zero => exact absurd hok2 (by unfold okr; omega)
        | succ m =>
          obtain ⟨t2, hu1, hu2, hu⟩ := e2 (i + 1) (by omega)
          have hcl2 : (pad (i + 1)).toNatClampNeg = t2 := by rw [hu, nI_clamp (by omega)]
          have hsi2 : signs (i + 1) = nI t2 := (e1 (i + 1) (by omega)).trans hu
          have hv2 : v = nI t2 := by
            rw [nI_1, at8 (show i + 1 < 60 by omega) (by decide)] at hv
            rw [← hsi2]
            exact (Option.some.inj hv).symm
          subst hv2
          obtain ⟨hdu2, hok3⟩ := hok2
          rw [hcl2] at hdu2 hok3
          have h43 := nI_lit (t := t2) (k := 43) (K := 43) (by omega) (by decide) (by decide)
          simp only [cL, if_true, show ¬ (1 : Int32) = 0 by decide, if_false, h43, nI_1, chk_nI (show i + 1 < 60 by omega) (by decide : 60 < 2 ^ 31), rd, nI_clamp (show i + 1 < 2 ^ 31 by omega), hu, l1]
          by_cases c43 : t2 = 43
          · have d1 : du 1 t2 = 2 := by subst c43; decide
            rw [d1] at hok3
            cases m with
            | zero => exact absurd hok3 (by unfold okr; omega)
            | succ m =>
              obtain ⟨t3, hx1, hx2, hx⟩ := e2 (i + 1 + 1) (by omega)
              have hcl3 : (pad (i + 1 + 1)).toNatClampNeg = t3 := by rw [hx, nI_clamp (by omega)]
              have hsi3 : signs (i + 1 + 1) = nI t3 := (e1 (i + 1 + 1) (by omega)).trans hx
              obtain ⟨hdu3, hok4⟩ := hok3
              rw [hcl3] at hdu3 hok4
              have cL3 : isL t3 = true := by
                by_cases q : isL t3 = true
                · exact q
                · exfalso
                  apply hdu3
                  unfold du
                  rw [if_neg (by decide), if_neg (by decide), if_neg q]
              have d2 : du 2 t3 = 0 := by
                unfold du
                rw [if_neg (by decide), if_neg (by decide), if_pos cL3]
              rw [d2] at hok4
              obtain ⟨l3, l4⟩ := isL_sub cL3
              obtain ⟨r, wd', pa', now', r1, r2, r3, r4⟩ := a_wed h hw wd l2 l4
              have a2 : nI i + 2 = nI (i + 1 + 1) := by rw [k2, l_add]
              have a3 : nI i + 3 = nI (i + 3) := by rw [k3, l_add]
              simp only [c43, if_true, a2, at8 (show i + 1 + 1 < 60 by omega) (by decide : 60 < 2 ^ 31), hsi3, Option.bind_some, l3, r1, chk_nI (show i + 1 + 1 < 60 by omega) (by decide : 60 < 2 ^ 31), rd, nI_clamp (show i + 1 + 1 < 2 ^ 31 by omega), hx]
              unfold fX9_goYears_67 fX9_houseAct
              simp only [show nI 43 = (43 : Int32) by decide, if_true, l3, r2, Option.bind_some, a3]
              exact fin 3 r wd' _ _ _ _ _ _ (by omega) (by omega) r3 (by rw [show m + 1 + 1 + 1 - 3 = m by omega]; exact hok4) r4
          · have d1 : (isD t2 = true ∨ t2 = 45 ∨ t2 = 42) ∧ du 1 t2 = 0 := by
              unfold du at hdu2 ⊢
              rw [if_neg (by decide), if_pos rfl, if_neg (by simpa using c43)] at hdu2 ⊢
              by_cases q : (isD t2 || t2 == 45 || t2 == 42) = true
              · rw [if_pos q]
                simp only [Bool.or_eq_true, beq_iff_eq] at q
                exact ⟨by grind, rfl⟩
              · rw [if_neg q] at hdu2
                exact absurd rfl hdu2
            rw [d1.2] at hok3
            obtain ⟨r, pl', hp', pa', now', r1, r2, r3, r4⟩ := a_home h wd 0 of l2 (show t2 < 127 by omega) d1.1
            have a2 : nI i + 2 = nI (i + 2) := by rw [k2, l_add]
            simp only [c43, if_false, r1, Option.bind_some, a2]
            unfold fX9_goYears_67
            simp only [r2, Option.bind_some, h43, c43, if_false, a2]
            exact fin 2 r wd _ _ _ _ _ _ (by omega) (by omega) r3 (by rw [show m + 1 + 1 - 2 = m by omega]; exact hok3) r4
      · have d0 : (isD t = true ∨ t = 46) ∧ du 0 t = 0 := by
          unfold du at hdu ⊢
          rw [if_pos rfl, if_neg cL] at hdu ⊢
          by_cases q : (isD t || t == 46) = true
          · rw [if_pos q]
            simp only [Bool.or_eq_true, beq_iff_eq] at q
            exact ⟨q, rfl⟩
          · rw [if_neg q] at hdu
            exact absurd rfl hdu
        rw [d0.2] at hok2
        simp only [cL, if_true, if_false, nI_1]
        by_cases c46 : t = 46
        · obtain ⟨r, y', ch', now', r1, r2, r3, r4⟩ := a_year h
          simp only [c46, if_true, r1, r2, Option.bind_some]
          exact fin 1 r wd _ _ _ _ _ _ (by omega) (by omega) r3 (by rw [show m + 1 - 1 = m by omega]; exact hok2) r4
        · obtain ⟨l1, l2⟩ := isD_sub (by rcases d0.1 with q | q; exact q; exact absurd q c46 : isD t = true)
          obtain ⟨r, pl', now', r1, r2, r3, r4⟩ := a_comeIn h l2
          simp only [c46, if_false, l1, r1, r2, Option.bind_some]
          exact fin 1 r wd _ _ _ _ _ _ (by omega) (by omega) r3 (by rw [show m + 1 - 1 = m by omega]; exact hok2) r4
