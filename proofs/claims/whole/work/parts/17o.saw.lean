/-! SAW -/
def fo (f : Nat → Option Int32) : Nat → Nat → Option Int32
  | 0, _ => none
  | m + 1, p => match f p with
    | some r => some r
    | none => fo f m (p + 1)
theorem fo_snoc (f : Nat → Option Int32) (v : Int32) : ∀ m p, (fo f (m + 1) p).getD v = (fo f m p).getD ((f (p + m)).getD v) := by
  intro m
  induction m with
  | zero =>
    intro p
    unfold fo fo
    cases h : f p with
    | none => simp [h]
    | some r => simp [h]
  | succ m ih =>
    intro p
    rw [fo]
    cases h : f p with
    | none =>
      have := ih (p + 1)
      simp only []
      rw [this, show p + 1 + m = p + (m + 1) by omega]
      conv => rhs; rw [fo]; simp only [h]
    | some r =>
      simp only []
      conv => rhs; rw [fo]; simp only [h]
      rfl
theorem fo_none {f : Nat → Option Int32} : ∀ m p, (∀ i, p ≤ i → i < p + m → f i = none) → fo f m p = none := by
  intro m
  induction m with
  | zero => intro p _; rfl
  | succ m ih =>
    intro p h
    rw [fo, h p (Nat.le_refl p) (by omega)]
    exact ih (p + 1) (fun i hi hi2 => h i (by omega) (by omega))
theorem fo_some {f : Nat → Option Int32} {r : Int32} : ∀ m p, fo f m p = some r → ∃ i, p ≤ i ∧ i < p + m ∧ f i = some r := by
  intro m
  induction m with
  | zero => intro p h; exact absurd h (by unfold fo; simp)
  | succ m ih =>
    intro p h
    rw [fo] at h
    cases q : f p with
    | none =>
      rw [q] at h
      obtain ⟨i, h1, h2, h3⟩ := ih (p + 1) h
      exact ⟨i, by omega, by omega, h3⟩
    | some z =>
      rw [q] at h
      exact ⟨p, by omega, by omega, by rw [q]; exact h⟩
def fc (book of : Nat → Int32) (x : Int32) (k p n : Nat) : Option Int32 :=
  if book p = 1 ∧ ¬ of (20 + p) < nI n ∧ (x ^^^ jrem (of (20 + p)) (nI (k + 1))) ^^^ jrem (of (20 + p) - nI n) (nI (k + 1)) = 0 then some (nI (100 * p + n)) else none
theorem worth8 {length place book of : Nat → Int32} {p k : Nat} (x : Int32) (hp : p < 10) (hk : 1 ≤ k) (hk9 : k ≤ 9) (el : length p = of (20 + p)) (eb : place p = book p) :
    fX8_worth length place (nI p) x (nI k) = some (if book p = 1 then jrem (of (20 + p) - x) (nI (k + 1)) else 0) := by
  unfold fX8_worth
  have h1 : (1 : Int32) ≤ nI k := by rw [k1, nI_leI (by decide) (by omega)]; omega
  rw [at8 hp (by decide), Option.bind_some, eb]
  by_cases c : book p = 1
  · rw [if_pos c, if_pos c, if_pos h1, at8 hp (by decide), Option.bind_some, el, nI_1]
    unfold nzi
    rw [if_neg (nI_ne0 (by omega) (by omega))]
  · rw [if_neg c, if_neg c]
theorem in8 {length place book of : Nat → Int32} {x : Int32} {p k : Nat} (K : Int32 → Option Int32) (hp : p < 10) (hk : 1 ≤ k) (hk9 : k ≤ 9) (el : length p = of (20 + p)) (eb : place p = book p) (hb : book p = 1) :
    ∀ m n fuel, n + m = k + 1 → m < fuel → fX8_firstWinningCut_69 K length place (nI k) x (nI p) (x ^^^ jrem (of (20 + p) - 0) (nI (k + 1))) fuel (nI n) = match fo (fc book of x k p) m n with
      | some r => some r
      | none => K (nI (p + 1)) := by
  intro m
  induction m with
  | zero =>
    intro n fuel hn hf
    obtain ⟨fuel, rfl⟩ : ∃ q, fuel = q + 1 := ⟨fuel - 1, by omega⟩
    have h1 : nI k < nI n := nI_lt (by omega) (by omega)
    rw [fX8_firstWinningCut_69, if_pos h1, nI_1]
    rfl
  | succ m ih =>
    intro n fuel hn hf
    obtain ⟨fuel, rfl⟩ : ∃ q, fuel = q + 1 := ⟨fuel - 1, by omega⟩
    have h1 : ¬ nI k < nI n := nI_nlt (by omega) (by omega)
    rw [fX8_firstWinningCut_69, if_neg h1, at8 hp (by decide), Option.bind_some, el, worth8 _ hp hk hk9 el eb, if_pos hb, Option.bind_some, nI_1, nI_1]
    by_cases c : of (20 + p) < nI n
    · rw [if_pos c, fo_none]
      intro i hi hi2
      unfold fc
      rw [if_neg]
      rintro ⟨-, q, -⟩
      apply q
      rw [i_lt] at c ⊢
      rw [nI_toInt (by omega)] at c ⊢
      omega
    · rw [if_neg c, fo]
      unfold fc
      by_cases c2 : jrem (of (20 + p) - nI n) (nI (k + 1)) = x ^^^ jrem (of (20 + p) - 0) (nI (k + 1))
      · rw [if_pos c2, if_pos ⟨hb, c, by rw [c2, Int32.sub_zero, Int32.xor_self]⟩, show (100 : Int32) = nI 100 by decide, pk_mul, l_add]
      · rw [if_neg c2, if_neg, ih (n + 1) fuel (by omega) (by omega)]
        · rfl
        · rintro ⟨-, -, q⟩
          apply c2
          rw [Int32.sub_zero]
          exact (Int32.xor_eq_zero_iff.mp q).symm
theorem in9 {book of : Nat → Int32} {x x2 : Int32} {p k : Nat} (K : Int32 → Int32 → Option Int32) (hp : p < 10) (hk : 1 ≤ k) (hk9 : k ≤ 9) :
    ∀ m fuel v, m ≤ k → m < fuel → fX9_saw_88 K book of (nI k) x2 x (nI p) fuel v (nI m) = K ((fo (fc book of x k p) m 1).getD v) (nI p + (-1)) := by
  intro m
  induction m with
  | zero =>
    intro fuel v hm hf
    obtain ⟨fuel, rfl⟩ : ∃ q, fuel = q + 1 := ⟨fuel - 1, by omega⟩
    rw [fX9_saw_88, if_pos (by rw [nI_0]; decide)]
    rfl
  | succ m ih =>
    intro fuel v hm hf
    obtain ⟨fuel, rfl⟩ : ∃ q, fuel = q + 1 := ⟨fuel - 1, by omega⟩
    have z : ¬ nI (k + 1) = 0 := nI_ne0 (by omega) (by omega)
    rw [fX9_saw_88, if_neg (nI_nle (by omega) (by omega)), fo_snoc]
    unfold nzi bnd
    simp only [k20, l_add, chk_nI (show p < 35 by omega) (by decide : 35 < 2 ^ 31), chk_nI (show 20 + p < 60 by omega) (by decide : 60 < 2 ^ 31), rd, nI_clamp (show p < 2 ^ 31 by omega), nI_clamp (show 20 + p < 2 ^ 31 by omega), nI_1, z, if_false, pk_m1, show (100 : Int32) = nI 100 by decide, pk_mul]
    rw [show 1 + m = m + 1 by omega]
    by_cases c : book p = 1
    · by_cases c2 : of (20 + p) < nI (m + 1)
      · have e : fc book of x k p (m + 1) = none := by
          unfold fc
          rw [if_neg (fun q => q.2.1 c2)]
        rw [if_pos c, if_pos c2, e]
        exact ih fuel v (by omega) (by omega)
      · by_cases c3 : (x ^^^ jrem (of (20 + p)) (nI (k + 1))) ^^^ jrem (of (20 + p) - nI (m + 1)) (nI (k + 1)) = 0
        · have e : fc book of x k p (m + 1) = some (nI (100 * p + (m + 1))) := by
            unfold fc
            rw [if_pos ⟨c, c2, c3⟩]
          rw [if_pos c, if_neg c2, if_pos c3, e]
          exact ih fuel _ (by omega) (by omega)
        · have e : fc book of x k p (m + 1) = none := by
            unfold fc
            rw [if_neg (fun q => c3 q.2.2)]
          rw [if_pos c, if_neg c2, if_neg c3, e]
          exact ih fuel _ (by omega) (by omega)
    · have e : fc book of x k p (m + 1) = none := by
        unfold fc
        rw [if_neg (fun q => c q.1)]
      rw [if_neg c, e]
      exact ih fuel v (by omega) (by omega)
theorem out9 {book of : Nat → Int32} {x x2 : Int32} {k : Nat} (hk : 1 ≤ k) (hk9 : k ≤ 9) :
    ∀ m fuel v, m ≤ 10 → m < fuel → fX9_saw_80 book of (nI k) x2 x fuel v (nI m + (-1)) = some (if x2 = 1 then (fo (fun p => fo (fc book of x k p) k 1) m 0).getD v else if 0 ≤ (fo (fun p => fo (fc book of x k p) k 1) m 0).getD v then 1 else 0) := by
  intro m
  induction m with
  | zero =>
    intro fuel v hm hf
    obtain ⟨fuel, rfl⟩ : ∃ q, fuel = q + 1 := ⟨fuel - 1, by omega⟩
    rw [fX9_saw_80, if_pos (by rw [nI_0]; decide)]
    show _ = some (if x2 = 1 then v else if 0 ≤ v then 1 else 0)
    by_cases q : x2 = 1
    · rw [if_pos q, if_pos q]
    · rw [if_neg q, if_neg q]
      split <;> rfl
  | succ m ih =>
    intro fuel v hm hf
    obtain ⟨fuel, rfl⟩ : ∃ q, fuel = q + 1 := ⟨fuel - 1, by omega⟩
    rw [fX9_saw_80, pk_m1, if_neg (nI_pos (by omega)), in9 _ (show m < 10 by omega) hk hk9 k 2000 v (by omega) (by omega), fo_snoc, show 0 + m = m by omega]
    exact ih fuel _ (by omega) (by omega)
theorem out8 {length place book of : Nat → Int32} {x : Int32} {k : Nat} (hk : 1 ≤ k) (hk9 : k ≤ 9) (el : ∀ p, p < 10 → length p = of (20 + p)) (eb : ∀ p, p < 10 → place p = book p) :
    ∀ m fuel p, p + m = 10 → m < fuel → fX8_firstWinningCut_28 length place (nI k) x fuel (nI p) = some ((fo (fun p => fo (fc book of x k p) k 1) m p).getD (-6)) := by
  intro m
  induction m with
  | zero =>
    intro fuel p hp hf
    obtain ⟨fuel, rfl⟩ : ∃ q, fuel = q + 1 := ⟨fuel - 1, by omega⟩
    have : p = 10 := by omega
    subst this
    rw [fX8_firstWinningCut_28, if_pos (by decide)]
    rfl
  | succ m ih =>
    intro fuel p hp hf
    obtain ⟨fuel, rfl⟩ : ∃ q, fuel = q + 1 := ⟨fuel - 1, by omega⟩
    have h1 : ¬ (10 : Int32) ≤ nI p := by rw [k10, nI_leI (by decide) (by omega)]; omega
    have hp10 : p < 10 := by omega
    rw [fX8_firstWinningCut_28, if_neg h1, at8 hp10 (by decide), Option.bind_some, eb p hp10]
    by_cases c : book p = 1
    · rw [if_pos c, worth8 _ hp10 hk hk9 (el p hp10) (eb p hp10), if_pos c, Option.bind_some]
      have := in8 (x := x) (fun y0 => fX8_firstWinningCut_28 length place (nI k) x fuel y0) hp10 hk hk9 (el p hp10) (eb p hp10) c k 1 2000 (by omega) (by omega)
      rw [← k1] at this
      rw [this, fo]
      cases q : fo (fc book of x k p) k 1 with
      | some r => rfl
      | none => exact ih fuel (p + 1) (by omega) (by omega)
    · rw [if_neg c, fo, fo_none k 1 (fun i _ _ => by unfold fc; rw [if_neg (fun q => c q.1)]), nI_1]
      exact ih fuel (p + 1) (by omega) (by omega)
theorem sum89 {length place book of : Nat → Int32} {x2 : Int32} {k : Nat} (hk : 1 ≤ k) (hk9 : k ≤ 9) (el : ∀ p, p < 10 → length p = of (20 + p)) (eb : ∀ p, p < 10 → place p = book p) :
    ∀ m n n2 p x, p + m = 10 → m < n → m < n2 → ∃ y, fX8_firstWinningCut_4 length place (nI k) n x (nI p) = fX8_firstWinningCut_28 length place (nI k) y 2000 0 ∧ fX9_saw_27 book of (nI k) x2 n2 x (nI p) = fX9_saw_80 book of (nI k) x2 y 2000 (-6) 9 := by
  intro m
  induction m with
  | zero =>
    intro n n2 p x hp hn hn2
    obtain ⟨n, rfl⟩ : ∃ q, n = q + 1 := ⟨n - 1, by omega⟩
    obtain ⟨n2, rfl⟩ : ∃ q, n2 = q + 1 := ⟨n2 - 1, by omega⟩
    have : p = 10 := by omega
    subst this
    rw [fX8_firstWinningCut_4, fX9_saw_27, if_pos (by decide), if_pos (by decide)]
    exact ⟨x, rfl, rfl⟩
  | succ m ih =>
    intro n n2 p x hp hn hn2
    obtain ⟨n, rfl⟩ : ∃ q, n = q + 1 := ⟨n - 1, by omega⟩
    obtain ⟨n2, rfl⟩ : ∃ q, n2 = q + 1 := ⟨n2 - 1, by omega⟩
    have h1 : ¬ (10 : Int32) ≤ nI p := by rw [k10, nI_leI (by decide) (by omega)]; omega
    have hp10 : p < 10 := by omega
    have z : ¬ nI (k + 1) = 0 := nI_ne0 (by omega) (by omega)
    rw [fX8_firstWinningCut_4, fX9_saw_27, if_neg h1, if_neg h1, worth8 _ hp10 hk hk9 (el p hp10) (eb p hp10), Option.bind_some]
    unfold nzi
    simp only [k20, l_add, chk_nI (show p < 35 by omega) (by decide : 35 < 2 ^ 31), chk_nI (show 20 + p < 60 by omega) (by decide : 60 < 2 ^ 31), rd, nI_clamp (show p < 2 ^ 31 by omega), nI_clamp (show 20 + p < 2 ^ 31 by omega), nI_1, z, if_false, Int32.sub_zero]
    by_cases c : book p = 1
    · simp only [c, if_true]
      exact ih n n2 (p + 1) _ (by omega) (by omega) (by omega)
    · simp only [c, if_false]
      exact ih n n2 (p + 1) _ (by omega) (by omega) (by omega)
theorem core_saw {n_year : Int32} {n_wreck : Nat → Int32} {n_wood : Nat → Int32} {n_length : Nat → Int32} {n_left : Nat → Int32} {n_right : Nat → Int32} {n_place : Nat → Int32} {n_rings : Nat → Int32} {n_hpiece : Nat → Int32} {n_partner : Nat → Int32} {n_children : Nat → Int32} {n_count : Int32} {n_house : Nat → Int32} {n_reach : Nat → Int32} {n_sounded : Nat → Int32} {book of sight : Nat → Int32} {sights : Int32} (s1 s2 : Int32) (h : RS n_year n_wreck n_wood n_length n_left n_right n_place n_rings n_hpiece n_partner n_children n_count n_house n_reach n_sounded book of sight sights) :
    ∃ zx zm, fX8_saw n_length n_place s1 s2 = some zx ∧ fX9_saw book of s1 s2 = some zm ∧ zx = zm := by
  unfold fX8_saw fX9_saw
  simp only [wi8, wi9, Option.bind_some, if10]
  by_cases c1 : 1 ≤ s1 ∧ s1 ≤ 9
  · by_cases c2 : 0 ≤ s2 ∧ s2 ≤ 1
    · obtain ⟨k, hk, hk9, rfl⟩ := rg_of (a := 1) (b := 9) rfl rfl c1.1 c1.2
      obtain ⟨w, -, hw, rfl⟩ := rg_of (a := 0) (b := 1) rfl rfl c2.1 c2.2
      have el : ∀ p, p < 10 → n_length p = of (20 + p) := fun p hp => (h.1.1 p hp).2.2.1
      have eb : ∀ p, p < 10 → n_place p = book p := fun p hp => (h.1.1 p hp).2.2.2.2.2.2
      obtain ⟨y, y1, y2⟩ := sum89 (x2 := nI w) hk hk9 el eb 10 2000 2000 0 0 (by omega) (by omega) (by omega)
      have o8 := out8 (x := y) hk hk9 el eb 10 2000 0 (by omega) (by omega)
      have o9 := out9 (book := book) (of := of) (x := y) (x2 := nI w) hk hk9 10 2000 (-6) (by omega) (by omega)
      rw [show nI 10 + (-1) = (9 : Int32) by decide] at o9
      rw [nI_0] at y1 y2 o8
      have hr : (fo (fun p => fo (fc book of y k p) k 1) 10 0).getD (-6) = -6 ∨ Rg ((fo (fun p => fo (fc book of y k p) k 1) 10 0).getD (-6)) 0 2000 := by
        cases q : fo (fun p => fo (fc book of y k p) k 1) 10 0 with
        | none => exact Or.inl rfl
        | some r =>
          right
          obtain ⟨p, p1, p2, p3⟩ := fo_some _ _ q
          obtain ⟨n, n1, n2, n3⟩ := fo_some _ _ p3
          unfold fc at n3
          split at n3
          · exact ⟨100 * p + n, by omega, by omega, (Option.some.inj n3).symm⟩
          · exact absurd n3 (by simp)
      have h6 := neg6 (by decide) hr
      generalize (fo (fun p => fo (fc book of y k p) k 1) 10 0).getD (-6) = r at o8 o9 h6
      unfold fX8_firstWinningCut
      simp only [c1, c2, and_self, if_true, y1, y2, o8, o9, Option.bind_some]
      rcases (show w = 0 ∨ w = 1 by omega) with rfl | rfl
      · simp only [nI_0, if_true, show ¬ (0 : Int32) = 1 by decide, if_false, h6.2]
        by_cases q : r = -6
        · simp only [q, if_true, not_true_eq_false, if_false]
          exact ⟨_, _, rfl, rfl, rfl⟩
        · simp only [q, if_false, not_false_eq_true, if_true]
          exact ⟨_, _, rfl, rfl, rfl⟩
      · simp only [show ¬ nI 1 = (0 : Int32) by decide, show nI 1 = (1 : Int32) by decide, if_true, if_false]
        exact ⟨_, _, rfl, rfl, rfl⟩
    · simp only [c1, c2, and_self, if_true, if_false]
      exact ⟨_, _, rfl, rfl, rfl⟩
  · simp only [c1, if_false]
    exact ⟨_, _, rfl, rfl, rfl⟩
