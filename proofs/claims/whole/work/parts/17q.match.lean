/-! MATCH -/
def RB (book : Nat → Int32) : Prop := ∀ h, h < 8 → (book (10 + h) = -6 ∨ Rg (book (10 + h)) 0 9) ∧ (book (18 + h) = -6 ∨ Rg (book (18 + h)) 0 7)
def mw (book of : Nat → Int32) (h g : Nat) : Bool := decide (h ≠ g ∧ ¬ book (10 + h) = -6 ∧ ¬ book (10 + g) = -6 ∧ book (18 + h) = -6 ∧ book (18 + g) = -6 ∧ ¬ of (book (10 + h)).toNatClampNeg = of (book (10 + g)).toNatClampNeg)
theorem mw9 {book of : Nat → Int32} (hb : RB book) {h g : Nat} (hh : h < 8) (hg : g < 8) : fX9_mayWed book of (nI h) (nI g) = some (if mw book of h g then 1 else 0) := by
  unfold fX9_mayWed fX9_mayWed_58 mw
  have n1 := neg6 (by decide) (hb h hh).1
  have n2 := neg6 (by decide) (hb g hg).1
  have n3 := neg6 (by decide) (hb h hh).2
  have n4 := neg6 (by decide) (hb g hg).2
  simp only [k10, k18, l_add, nI_eq (show h < 2 ^ 31 by omega) (show g < 2 ^ 31 by omega), chk_nI (show 10 + h < 35 by omega) (by decide : 35 < 2 ^ 31), chk_nI (show 10 + g < 35 by omega) (by decide : 35 < 2 ^ 31), chk_nI (show 18 + h < 35 by omega) (by decide : 35 < 2 ^ 31), chk_nI (show 18 + g < 35 by omega) (by decide : 35 < 2 ^ 31), rd, nI_clamp (show 10 + h < 2 ^ 31 by omega), nI_clamp (show 10 + g < 2 ^ 31 by omega), nI_clamp (show 18 + h < 2 ^ 31 by omega), nI_clamp (show 18 + g < 2 ^ 31 by omega), n1.1, n2.1, n3.2, n4.2, if_true, show ¬ (1 : Int32) = 0 by decide, if_false, decide_eq_true_eq]
  by_cases c1 : h = g
  · simp [c1]
  by_cases c2 : book (10 + h) = -6
  · simp [c1, c2]
  by_cases c3 : book (10 + g) = -6
  · simp [c1, c2, c3]
  by_cases c4 : book (18 + h) = -6
  · by_cases c5 : book (18 + g) = -6
    · rcases (hb h hh).1 with q | ⟨j, -, hj, ej⟩
      · exact absurd q c2
      rcases (hb g hg).1 with q | ⟨j2, -, hj2, ej2⟩
      · exact absurd q c3
      rw [ej] at c2
      rw [ej2] at c3
      simp only [c1, c2, c3, c4, c5, ej, ej2, chk_nI (show j < 60 by omega) (by decide : 60 < 2 ^ 31), chk_nI (show j2 < 60 by omega) (by decide : 60 < 2 ^ 31), nI_clamp (show j < 2 ^ 31 by omega), nI_clamp (show j2 < 2 ^ 31 by omega), not_false_eq_true, not_true_eq_false, if_false, ne_eq, true_and]
      by_cases c6 : of j = of j2
      · simp [c6]
      · simp [c6]
    · simp [c1, c2, c3, c4, c5]
  · simp [c1, c2, c3, c4]
theorem mw8 {book of wreck hpiece partner : Nat → Int32} (hb : RB book) (e1 : ∀ h, h < 8 → hpiece h = book (10 + h) ∧ partner h = book (18 + h)) (e2 : ∀ p, p < 10 → wreck p = of p) {h g : Nat} (hh : h < 8) (hg : g < 8) :
    fX5_mightWed wreck hpiece partner (nI h) (nI g) = some (if mw book of h g then 1 else 0) := by
  unfold fX5_mightWed fX5_isFree mw
  simp only [non8 hh, non8 hg, wed8 hh, wed8 hg, Option.bind_some, if10, if01, (e1 h hh).1, (e1 g hg).1, (e1 h hh).2, (e1 g hg).2, decide_eq_true_eq]
  by_cases c2 : book (10 + h) = -6
  · simp [c2]
  by_cases c4 : book (18 + h) = -6
  · by_cases c3 : book (10 + g) = -6
    · simp [c2, c3, c4]
    by_cases c5 : book (18 + g) = -6
    · rcases (hb h hh).1 with q | ⟨j, -, hj, ej⟩
      · exact absurd q c2
      rcases (hb g hg).1 with q | ⟨j2, -, hj2, ej2⟩
      · exact absurd q c3
      have w1 := wreck8 (wreck := wreck) hh (show j < 10 by omega) ((e1 h hh).1.trans ej)
      have w2 := wreck8 (wreck := wreck) hg (show j2 < 10 by omega) ((e1 g hg).1.trans ej2)
      rw [ej] at c2
      rw [ej2] at c3
      have key : h = g → j = j2 := by
        rintro rfl
        rw [ej, nI_eq (by omega) (by omega)] at ej2
        exact ej2
      simp only [c2, c3, c4, c5, ej, ej2, w1, w2, Option.bind_some, e2 j (by omega), e2 j2 (by omega), nI_clamp (show j < 2 ^ 31 by omega), nI_clamp (show j2 < 2 ^ 31 by omega), not_false_eq_true, not_true_eq_false, if_false, if_true, ne_eq, true_and]
      by_cases c6 : of j = of j2
      · simp [c6]
      · have c1 : ¬ h = g := fun q => c6 (by rw [key q])
        simp [c1, c6]
    · simp [c2, c3, c4, c5]
  · simp [c2, c4]
def MB (book of might : Nat → Int32) (h : Nat) : Prop := ∃ b, b < 256 ∧ might h = nI b ∧ ∀ g, g < 8 → b.testBit g = mw book of h g
theorem find16 {book of wreck hpiece partner might most mate : Nat → Int32} {cnt : Int32} {K : (Nat → Int32) → Int32 → Option (Int32 × (Nat → Int32) × (Nat → Int32) × (Nat → Int32))} (hb : RB book) (e1 : ∀ h, h < 8 → hpiece h = book (10 + h) ∧ partner h = book (18 + h)) (e2 : ∀ p, p < 10 → wreck p = of p) {h : Nat} (hh : h < 8) :
    ∀ m n g b, g + m = 8 → m < n → b < 256 → (∀ j, j < g → b.testBit j = mw book of h j) → (∀ j, g ≤ j → b.testBit j = false) →
    ∃ b', b' < 256 ∧ (∀ j, j < 8 → b'.testBit j = mw book of h j) ∧ fX1_find_16 K cnt might most mate wreck hpiece partner (nI h) n (nI b) (nI g) = K (upd might h (nI b')) (nI (h + 1)) := by
  intro m
  induction m with
  | zero =>
    intro n g b hg hn hb1 hb2 hb3
    obtain ⟨n, rfl⟩ : ∃ q, n = q + 1 := ⟨n - 1, by omega⟩
    have : g = 8 := by omega
    subst this
    refine ⟨b, hb1, hb2, ?_⟩
    rw [fX1_find_16, if_pos (by decide), chk_nI hh (by decide), wr_nI (by omega), nI_1]
  | succ m ih =>
    intro n g b hg hn hb1 hb2 hb3
    obtain ⟨n, rfl⟩ : ∃ q, n = q + 1 := ⟨n - 1, by omega⟩
    have h1 : ¬ (8 : Int32) ≤ nI g := by rw [k8, nI_leI (by decide) (by omega)]; omega
    rw [fX1_find_16, if_neg h1, mw8 hb e1 e2 hh (show g < 8 by omega), Option.bind_some, if10, nI_1, sh1 g (by omega), nx_or]
    by_cases c : mw book of h g = true
    · rw [if_pos c]
      refine ih n (g + 1) _ (by omega) (by omega) (Nat.or_lt_two_pow (n := 8) hb1 (Nat.pow_lt_pow_right (by decide) (by omega))) (fun j hj => ?_) (fun j hj => ?_)
      · rw [Nat.testBit_or, Nat.testBit_two_pow]
        by_cases q : g = j
        · subst q; simp [c]
        · rw [hb2 j (by omega)]; simp [q]
      · rw [Nat.testBit_or, Nat.testBit_two_pow, hb3 j (by omega)]
        simp; omega
    · rw [if_neg c]
      refine ih n (g + 1) _ (by omega) (by omega) hb1 (fun j hj => ?_) (fun j hj => hb3 j (by omega))
      by_cases q : g = j
      · subst q
        rw [hb3 g (Nat.le_refl g)]
        simpa using c
      · exact hb2 j (by omega)
theorem find2 {book of wreck hpiece partner most mate : Nat → Int32} {cnt : Int32} (hb : RB book) (e1 : ∀ h, h < 8 → hpiece h = book (10 + h) ∧ partner h = book (18 + h)) (e2 : ∀ p, p < 10 → wreck p = of p) :
    ∀ m n h (might : Nat → Int32), h + m = 8 → m < n → (∀ j, j < h → MB book of might j) → ∃ might', (∀ j, j < 8 → MB book of might' j) ∧ fX1_find_2 cnt most mate wreck hpiece partner n might (nI h) = fX1_find_61 cnt might' mate 2000 most 1 := by
  intro m
  induction m with
  | zero =>
    intro n h might hh hn hq
    obtain ⟨n, rfl⟩ : ∃ q, n = q + 1 := ⟨n - 1, by omega⟩
    have : h = 8 := by omega
    subst this
    refine ⟨might, hq, ?_⟩
    rw [fX1_find_2, if_pos (by decide)]
  | succ m ih =>
    intro n h might hh hn hq
    obtain ⟨n, rfl⟩ : ∃ q, n = q + 1 := ⟨n - 1, by omega⟩
    have h1 : ¬ (8 : Int32) ≤ nI h := by rw [k8, nI_leI (by decide) (by omega)]; omega
    rw [fX1_find_2, if_neg h1]
    obtain ⟨b', b1, b2, b3⟩ := find16 (might := might) (most := most) (mate := mate) (cnt := cnt) (K := fun y0 y1 => fX1_find_2 cnt most mate wreck hpiece partner n y0 y1) hb e1 e2 (show h < 8 by omega) 8 2000 0 0 (by omega) (by omega) (by omega) (fun j hj => absurd hj (by omega)) (fun j _ => Nat.zero_testBit j)
    rw [nI_0] at b3
    rw [b3]
    refine ih n (h + 1) _ (by omega) (by omega) (fun j hj => ?_)
    by_cases q : j = h
    · subst q
      exact ⟨b', b1, pk_us, b2⟩
    · obtain ⟨b, c1, c2, c3⟩ := hq j (by omega)
      exact ⟨b, c1, by rw [pk_un q]; exact c2, c3⟩
theorem low1 {S h : Nat} (hS : S < 256) (hh : h < 8) (h1 : S.testBit h = true) (h2 : ∀ j, j < h → S.testBit j = false) : ∀ m n j, j + m = h → m < n → fX1_lowest_2 (nI S) n (nI j) = some (nI h) := by
  intro m
  induction m with
  | zero =>
    intro n j hj hn
    obtain ⟨n, rfl⟩ : ∃ q, n = q + 1 := ⟨n - 1, by omega⟩
    have : j = h := by omega
    subst this
    rw [fX1_lowest_2, if_neg (by rw [k8, nI_leI (by decide) (by omega)]; omega), has8 (by omega) (by omega), Option.bind_some, if10, if_pos h1]
  | succ m ih =>
    intro n j hj hn
    obtain ⟨n, rfl⟩ : ∃ q, n = q + 1 := ⟨n - 1, by omega⟩
    rw [fX1_lowest_2, if_neg (by rw [k8, nI_leI (by decide) (by omega)]; omega), has8 (by omega) (by omega), Option.bind_some, if10, if_neg (by rw [h2 j (by omega)]; decide), nI_1]
    exact ih n (j + 1) (by omega) (by omega)
theorem low9 {book of twos : Nat → Int32} {K : (Nat → Int32) → Int32 → Option (Nat → Int32)} {S h : Nat} (hS : S < 256) (hh : h < 8) (h1 : S.testBit h = true) (h2 : ∀ j, j < h → S.testBit j = false) : ∀ m n j, j + m = h → m < n →
    fX9_layTwos_18 K book of twos (nI S) n (nI j) = fX9_layTwos_53 K book of twos (nI S) (nI h) (nI (dl S h)) 2000 (twos (dl S h)) (nI (h + 1)) := by
  intro m
  induction m with
  | zero =>
    intro n j hj hn
    obtain ⟨n, rfl⟩ : ∃ q, n = q + 1 := ⟨n - 1, by omega⟩
    have : j = h := by omega
    subst this
    have := dl_le S j
    rw [fX9_layTwos_18, has9 (by omega) (by omega), Option.bind_some, if10, if_pos h1, dl_i S (by omega), chk_nI (by omega) (by decide), rd_nI (by omega), nI_1]
  | succ m ih =>
    intro n j hj hn
    obtain ⟨n, rfl⟩ : ∃ q, n = q + 1 := ⟨n - 1, by omega⟩
    rw [fX9_layTwos_18, has9 (by omega) (by omega), Option.bind_some, if10, if_neg (by rw [h2 j (by omega)]; decide), nI_1]
    exact ih n (j + 1) (by omega) (by omega)
/-- both tables below S: alike, small, and no better wedding of the first is missed -/
def TB (book of : Nat → Int32) (S : Nat) (most twos : Nat → Int32) : Prop := ∀ R, R < S → most R = twos R ∧ Rg (twos R) 0 R ∧
  ∀ h, h < 8 → R.testBit h = true → (∀ j, j < h → R.testBit j = false) → ∀ g, g < 8 → (dl R h).testBit g = true → mw book of h g = true → (twos (dl (dl R h) g)).toNatClampNeg + 1 ≤ (twos R).toNatClampNeg
theorem best_run {book of might most twos : Nat → Int32} {K : (Nat → Int32) → Int32 → Option (Nat → Int32)} (hb : RB book) {S h : Nat} (hS : S < 256) (hh : h < 8) (h1 : S.testBit h = true) (hM : MB book of might h) (hT : TB book of S most twos) :
    ∀ m n n2 g v, g + m = 8 → m < n → m < n2 → v ≤ dl S h → ∃ r, v ≤ r ∧ r ≤ dl S h ∧ fX1_mostOf_26 might most (nI h) (nI (dl S h)) n (nI v) (nI g) = some (nI r) ∧ fX9_layTwos_53 K book of twos (nI S) (nI h) (nI (dl S h)) n2 (nI v) (nI g) = K (upd twos S (nI r)) (nI (S + 1)) ∧
      ∀ j, g ≤ j → j < 8 → (dl S h).testBit j = true → mw book of h j = true → (twos (dl (dl S h) j)).toNatClampNeg + 1 ≤ r := by
  have hlt := dl_lt (show S < 2 ^ 32 by omega) h1
  intro m
  induction m with
  | zero =>
    intro n n2 g v hg hn hn2 hv
    obtain ⟨n, rfl⟩ : ∃ q, n = q + 1 := ⟨n - 1, by omega⟩
    obtain ⟨n2, rfl⟩ : ∃ q, n2 = q + 1 := ⟨n2 - 1, by omega⟩
    have : g = 8 := by omega
    subst this
    refine ⟨v, Nat.le_refl v, hv, ?_, ?_, fun j h1 h2 => absurd h2 (by omega)⟩
    · rw [fX1_mostOf_26, if_pos (by decide)]
    · rw [fX9_layTwos_53, if_pos (by decide), chk_nI hS (by decide), wr_nI (by omega), nI_1]
  | succ m ih =>
    intro n n2 g v hg hn hn2 hv
    obtain ⟨n, rfl⟩ : ∃ q, n = q + 1 := ⟨n - 1, by omega⟩
    obtain ⟨n2, rfl⟩ : ∃ q, n2 = q + 1 := ⟨n2 - 1, by omega⟩
    have hg8 : g < 8 := by omega
    have q1 : ¬ (8 : Int32) ≤ nI g := by rw [k8, nI_leI (by decide) (by omega)]; omega
    obtain ⟨b, b1, b2, b3⟩ := hM
    have hand : dl S h &&& b ≤ dl S h := Nat.and_le_left
    rw [fX1_mostOf_26, fX9_layTwos_53, if_neg q1, if_neg q1, at8 hh (by decide), Option.bind_some, b2, nx_and, has8 (by omega) (by omega), has9 (by omega) (by omega), Option.bind_some, Option.bind_some, if10, if10, Nat.testBit_and, b3 g hg8, mw9 hb hh hg8, Option.bind_some, if10]
    by_cases c : (dl S h).testBit g = true
    · by_cases c2 : mw book of h g = true
      · have hlt2 := dl_lt (show dl S h < 2 ^ 32 by omega) c
        obtain ⟨t1, ⟨t, -, t2, t3⟩, -⟩ := hT (dl (dl S h) g) (by omega)
        rw [if_pos (by rw [c, c2]; rfl), if_pos c, if_pos c2, dl_i _ (by omega), sh1 g (by omega), nx_xor, xor_dl (by omega) c, at8 (by omega) (by decide), Option.bind_some, t1, chk_nI (by omega) (by decide)]
        simp only [bnd]
        rw [rd_nI (by omega), t3, nI_1, nI_1, show (1 : Int32) + nI t = nI (t + 1) by rw [Int32.add_comm]; exact nI_1 t]
        by_cases c3 : t + 1 ≤ v
        · have e : jmax (nI v) (nI (t + 1)) = nI v := if_neg (by rw [nI_ltI (by omega) (by omega)]; omega)
          rw [e, if_pos (nI_le c3 (by omega))]
          obtain ⟨r, r1, r2, r3, r4, r5⟩ := ih n n2 (g + 1) v (by omega) (by omega) (by omega) hv
          refine ⟨r, r1, r2, r3, r4, fun j hj1 hj2 hj3 hj4 => ?_⟩
          by_cases q : j = g
          · rw [q, t3, nI_clamp (by omega)]; omega
          · exact r5 j (by omega) hj2 hj3 hj4
        · have e : jmax (nI v) (nI (t + 1)) = nI (t + 1) := if_pos (by rw [nI_ltI (by omega) (by omega)]; omega)
          rw [e, if_neg (nI_ge (by omega) (by omega)), chk_nI (by omega) (by decide)]
          obtain ⟨r, r1, r2, r3, r4, r5⟩ := ih n n2 (g + 1) (t + 1) (by omega) (by omega) (by omega) (by omega)
          refine ⟨r, by omega, r2, r3, r4, fun j hj1 hj2 hj3 hj4 => ?_⟩
          by_cases q : j = g
          · rw [q, t3, nI_clamp (by omega)]; omega
          · exact r5 j (by omega) hj2 hj3 hj4
      · rw [if_neg (by rw [c]; simpa using c2), if_pos c, if_neg c2, nI_1]
        obtain ⟨r, r1, r2, r3, r4, r5⟩ := ih n n2 (g + 1) v (by omega) (by omega) (by omega) hv
        refine ⟨r, r1, r2, r3, r4, fun j hj1 hj2 hj3 hj4 => ?_⟩
        by_cases q : j = g
        · exact absurd (q ▸ hj4) c2
        · exact r5 j (by omega) hj2 hj3 hj4
    · rw [if_neg (by simp [c]), if_neg c, nI_1]
      obtain ⟨r, r1, r2, r3, r4, r5⟩ := ih n n2 (g + 1) v (by omega) (by omega) (by omega) hv
      refine ⟨r, r1, r2, r3, r4, fun j hj1 hj2 hj3 hj4 => ?_⟩
      by_cases q : j = g
      · exact absurd (q ▸ hj3) c
      · exact r5 j (by omega) hj2 hj3 hj4
theorem skip_run {book of might most : Nat → Int32} {R h : Nat} {v : Int32} (hR : R < 256) (hh : h < 8) (hM : MB book of might h) (hz : ∀ j, j ≤ h → R.testBit j = false) :
    ∀ m n g, g + m = h + 1 → m < n → fX1_mostOf_26 might most (nI h) (nI R) n v (nI g) = fX1_mostOf_26 might most (nI h) (nI R) (n - m) v (nI (h + 1)) := by
  intro m
  induction m with
  | zero =>
    intro n g hg hn
    rw [show g = h + 1 by omega, Nat.sub_zero]
  | succ m ih =>
    intro n g hg hn
    obtain ⟨n, rfl⟩ : ∃ q, n = q + 1 := ⟨n - 1, by omega⟩
    have q1 : ¬ (8 : Int32) ≤ nI g := by rw [k8, nI_leI (by decide) (by omega)]; omega
    obtain ⟨b, b1, b2, b3⟩ := hM
    have hand : R &&& b ≤ R := Nat.and_le_left
    conv => lhs; rw [fX1_mostOf_26]
    rw [if_neg q1, at8 hh (by decide), Option.bind_some, b2, nx_and, has8 (by omega) (by omega), Option.bind_some, if10, Nat.testBit_and, hz g (by omega), if_neg (by simp), nI_1, ih n (g + 1) (by omega) (by omega), show n + 1 - (m + 1) = n - m by omega]
theorem tab_run {book of might mate : Nat → Int32} {cnt : Int32} (hb : RB book) (hM : ∀ h, h < 8 → MB book of might h) :
    ∀ m n n2 S (most twos : Nat → Int32), S + m = 256 → m < n → m < n2 → 0 < S → TB book of S most twos → ∃ most' twos', TB book of 256 most' twos' ∧ most' 0 = most 0 ∧
      fX1_find_61 cnt might mate n most (nI S) = (fX8_at 256 most' 255).bind (fun r2002 => (fX8_fill 8 mate (-6)).bind (fun r2003 => fX1_find_118 r2002 might most' 2000 r2003 255 0)) ∧ fX9_layTwos_9 book of n2 twos (nI S) = some twos' := by
  intro m
  induction m with
  | zero =>
    intro n n2 S most twos hS hn hn2 h0 hT
    obtain ⟨n, rfl⟩ : ∃ q, n = q + 1 := ⟨n - 1, by omega⟩
    obtain ⟨n2, rfl⟩ : ∃ q, n2 = q + 1 := ⟨n2 - 1, by omega⟩
    have : S = 256 := by omega
    subst this
    rw [fX1_find_61, fX9_layTwos_9, if_pos (by decide), if_pos (by decide)]
    exact ⟨most, twos, hT, rfl, rfl, rfl⟩
  | succ m ih =>
    intro n n2 S most twos hS hn hn2 h0 hT
    obtain ⟨n, rfl⟩ : ∃ q, n = q + 1 := ⟨n - 1, by omega⟩
    obtain ⟨n2, rfl⟩ : ∃ q, n2 = q + 1 := ⟨n2 - 1, by omega⟩
    have q1 : ¬ (256 : Int32) ≤ nI S := by rw [show (256 : Int32) = nI 256 by decide, nI_leI (by decide) (by omega)]; omega
    obtain ⟨h, hh, h1, h2⟩ := low_ex (n := 8) (show S < 2 ^ 8 by omega) (by omega)
    have l1 := low1 (show S < 256 by omega) hh h1 h2 h 2000 0 (by omega) (by omega)
    have l9 := low9 (book := book) (of := of) (twos := twos) (K := fun y0 y1 => fX9_layTwos_9 book of n2 y0 y1) (show S < 256 by omega) hh h1 h2 h 2000 0 (by omega) (by omega)
    rw [nI_0] at l1 l9
    have hlt := dl_lt (show S < 2 ^ 32 by omega) h1
    obtain ⟨t1, ⟨t, -, t2, t3⟩, -⟩ := hT (dl S h) hlt
    have hz : ∀ j, j ≤ h → (dl S h).testBit j = false := by
      intro j hj
      rw [dl_bit (by omega)]
      by_cases q : h = j
      · simp [q]
      · rw [h2 j (by omega)]; rfl
    obtain ⟨r, r1, r2, r3, r4, r5⟩ := best_run (K := fun y0 y1 => fX9_layTwos_9 book of n2 y0 y1) hb (show S < 256 by omega) hh h1 (hM h hh) hT (8 - (h + 1)) (2000 - (h + 1)) 2000 (h + 1) t (by omega) (by omega) (by omega) t2
    have sk := skip_run (most := most) (v := nI t) (show dl S h < 256 by omega) hh (hM h hh) hz (h + 1) 2000 0 (by omega) (by omega)
    rw [nI_0] at sk
    rw [fX1_find_61, fX9_layTwos_9, if_neg q1, if_neg q1, l9, t3, r4]
    unfold fX1_mostOf fX1_lowest
    rw [l1, Option.bind_some, dl_i S (by omega), at8 (by omega) (by decide), Option.bind_some, t1, t3, sk, r3, Option.bind_some, chk_nI (by omega) (by decide), wr_nI (by omega), nI_1]
    have hT' : TB book of (S + 1) (upd most S (nI r)) (upd twos S (nI r)) := by
      intro R hR
      by_cases q : R = S
      · subst q
        refine ⟨by rw [pk_us, pk_us], by rw [pk_us]; exact ⟨r, by omega, by omega, rfl⟩, fun h' hh' hb1 hb2 g hg hg1 hg2 => ?_⟩
        have eh : h' = h := by
          rcases Nat.lt_trichotomy h' h with q | q | q
          · rw [h2 h' q] at hb1; exact absurd hb1 (by decide)
          · exact q
          · rw [hb2 h q] at h1; exact absurd h1 (by decide)
        subst eh
        have := dl_le (dl R h') g
        rw [pk_us, pk_un (by omega), nI_clamp (by omega)]
        refine r5 g ?_ hg hg1 hg2
        by_cases q : h' + 1 ≤ g
        · exact q
        · rw [hz g (by omega)] at hg1; exact absurd hg1 (by decide)
      · obtain ⟨a1, a2, a3⟩ := hT R (by omega)
        refine ⟨by rw [pk_un q, pk_un q]; exact a1, by rw [pk_un q]; exact a2, fun h' hh' hb1 hb2 g hg hg1 hg2 => ?_⟩
        have l1 := dl_le R h'
        have l2 := dl_le (dl R h') g
        rw [pk_un (by omega), pk_un q]
        exact a3 h' hh' hb1 hb2 g hg hg1 hg2
    obtain ⟨most', twos', m1, m2, m3, m4⟩ := ih n n2 (S + 1) _ _ (by omega) (by omega) (by omega) (by omega) hT'
    exact ⟨most', twos', m1, by rw [m2, pk_un (by omega)], m3, m4⟩
