/-! YEARS: copying, the acts, the years told -/
theorem copy_run {n : Nat} {fr : Nat → Int32} (hn : n < 2 ^ 31) : ∀ (m k fuel : Nat) (to : Nat → Int32), k + m = n → m < fuel → (∀ i, i < k → to i = fr i) → ∃ r, fX8_copy_2 n n fr fuel to (nI k) = some r ∧ ∀ i, i < n → r i = fr i := by
  intro m
  induction m with
  | zero =>
    intro k fuel to hk hf he
    obtain ⟨fuel, rfl⟩ : ∃ q, fuel = q + 1 := ⟨fuel - 1, by omega⟩
    have : k = n := by omega
    subst this
    rw [fX8_copy_2, show Int32.ofNat k = nI k from rfl, if_pos (nI_le (Nat.le_refl k) hn)]
    exact ⟨to, rfl, he⟩
  | succ m ih =>
    intro k fuel to hk hf he
    obtain ⟨fuel, rfl⟩ : ∃ q, fuel = q + 1 := ⟨fuel - 1, by omega⟩
    rw [fX8_copy_2, show Int32.ofNat n = nI n from rfl, if_neg (nI_ge (by omega) hn), if_neg (nI_ge (by omega) hn), chk_nI (by omega) hn, chk_nI (by omega) hn, rd_nI (by omega), wr_nI (by omega), nI_1]
    refine ih (k + 1) fuel _ (by omega) (by omega) (fun i hi => ?_)
    by_cases q : i = k
    · subst q; exact pk_us
    · rw [pk_un q]; exact he i (by omega)
theorem copy8 {n : Nat} (fr to : Nat → Int32) (hn : n < 2000) : ∃ r, fX8_copy n n fr to = some r ∧ ∀ i, i < n → r i = fr i := by
  have := copy_run (fr := fr) (show n < 2 ^ 31 by omega) n 0 2000 to (by omega) (by omega) (fun i hi => absurd hi (by omega))
  rw [nI_0] at this
  exact this
theorem become5 (a_year : Int32) (a_wreck : Nat → Int32) (a_wood : Nat → Int32) (a_length : Nat → Int32) (a_left : Nat → Int32) (a_right : Nat → Int32) (a_place : Nat → Int32) (a_rings : Nat → Int32) (a_hpiece : Nat → Int32) (a_partner : Nat → Int32) (a_children : Nat → Int32) (a_count : Int32) (a_house : Nat → Int32) (a_reach : Nat → Int32) (a_sounded : Nat → Int32) (b_year : Int32) (b_wreck : Nat → Int32) (b_wood : Nat → Int32) (b_length : Nat → Int32) (b_left : Nat → Int32) (b_right : Nat → Int32) (b_place : Nat → Int32) (b_rings : Nat → Int32) (b_hpiece : Nat → Int32) (b_partner : Nat → Int32) (b_children : Nat → Int32) (b_count : Int32) (b_house : Nat → Int32) (b_reach : Nat → Int32) (b_sounded : Nat → Int32) : ∃ w1 w2 w3 w4 w5 w6 w7 h1 h2 h3 s1 s2 s3 : Nat → Int32, fX5_become a_year a_wreck a_wood a_length a_left a_right a_place a_rings a_hpiece a_partner a_children a_count a_house a_reach a_sounded b_year b_wreck b_wood b_length b_left b_right b_place b_rings b_hpiece b_partner b_children b_count b_house b_reach b_sounded = some (b_year, w1, w2, w3, w4, w5, w6, w7, h1, h2, h3, b_count, s1, s2, s3) ∧
    (∀ i, i < 10 → w1 i = b_wreck i ∧ w2 i = b_wood i ∧ w3 i = b_length i ∧ w4 i = b_left i ∧ w5 i = b_right i ∧ w6 i = b_place i ∧ w7 i = b_rings i) ∧
    (∀ i, i < 8 → h1 i = b_hpiece i ∧ h2 i = b_partner i ∧ h3 i = b_children i) ∧ (∀ i, i < 8 → s1 i = b_house i ∧ s2 i = b_reach i ∧ s3 i = b_sounded i) := by
  obtain ⟨w1, e1, f1⟩ := copy8 (n := 10) b_wreck a_wreck (by decide)
  obtain ⟨w2, e2, f2⟩ := copy8 (n := 10) b_wood a_wood (by decide)
  obtain ⟨w3, e3, f3⟩ := copy8 (n := 10) b_length a_length (by decide)
  obtain ⟨w4, e4, f4⟩ := copy8 (n := 10) b_left a_left (by decide)
  obtain ⟨w5, e5, f5⟩ := copy8 (n := 10) b_right a_right (by decide)
  obtain ⟨w6, e6, f6⟩ := copy8 (n := 10) b_place a_place (by decide)
  obtain ⟨w7, e7, f7⟩ := copy8 (n := 10) b_rings a_rings (by decide)
  obtain ⟨h1, g1, k1⟩ := copy8 (n := 8) b_hpiece a_hpiece (by decide)
  obtain ⟨h2, g2, k2⟩ := copy8 (n := 8) b_partner a_partner (by decide)
  obtain ⟨h3, g3, k3⟩ := copy8 (n := 8) b_children a_children (by decide)
  obtain ⟨s1, p1, q1⟩ := copy8 (n := 8) b_house a_house (by decide)
  obtain ⟨s2, p2, q2⟩ := copy8 (n := 8) b_reach a_reach (by decide)
  obtain ⟨s3, p3, q3⟩ := copy8 (n := 8) b_sounded a_sounded (by decide)
  refine ⟨w1, w2, w3, w4, w5, w6, w7, h1, h2, h3, s1, s2, s3, ?_, fun i hi => ⟨f1 i hi, f2 i hi, f3 i hi, f4 i hi, f5 i hi, f6 i hi, f7 i hi⟩, fun i hi => ⟨k1 i hi, k2 i hi, k3 i hi⟩, fun i hi => ⟨q1 i hi, q2 i hi, q3 i hi⟩⟩
  unfold fX5_become fX3_become fX0_become fX6_become
  simp only [e1, e2, e3, e4, e5, e6, e7, g1, g2, g3, p1, p2, p3, Option.bind_some]
/-- the years' rows of a shore and the reference's row -/
def RN (year : Int32) (place hpiece partner children now : Nat → Int32) : Prop :=
  (∀ p, p < 10 → place p = now p ∧ Rg (now p) 0 3) ∧
  (∀ h, h < 8 → hpiece h = now (10 + h) ∧ partner h = now (18 + h) ∧ children h = now (26 + h) ∧ (now (10 + h) = -6 ∨ Rg (now (10 + h)) 0 9) ∧ (now (18 + h) = -6 ∨ Rg (now (18 + h)) 0 7) ∧ Rg (now (26 + h)) 0 99) ∧
  year = now 34 ∧ Rg (now 34) 0 99
theorem neg6 {x : Int32} {b : Nat} (hb : b < 2 ^ 31) (h : x = -6 ∨ Rg x 0 b) : (x < 0 ↔ x = -6) ∧ (0 ≤ x ↔ ¬ x = -6) := by
  rcases h with rfl | ⟨j, -, hj, rfl⟩
  · exact ⟨by decide, by decide⟩
  · have a1 : ¬ nI j < 0 := nI_pos (by omega)
    have a2 : 0 ≤ nI j := nI_pos' (by omega)
    have a3 : ¬ nI j = -6 := fun q => a1 (by rw [q]; decide)
    exact ⟨⟨fun q => absurd q a1, fun q => absurd q a3⟩, ⟨fun _ => a3, fun _ => a2⟩⟩
theorem non8 {f : Nat → Int32} {h : Nat} (hh : h < 8) : fX0_isOfNone f (nI h) = some (if f h = -6 then 1 else 0) := by
  unfold fX0_isOfNone
  rw [at8 hh (by decide), Option.bind_some]
  split <;> rfl
theorem wed8 {f : Nat → Int32} {h : Nat} (hh : h < 8) : fX0_isWed f (nI h) = some (if f h = -6 then 0 else 1) := by
  unfold fX0_isWed
  rw [at8 hh (by decide), Option.bind_some]
  split <;> rfl
theorem if01 {α : Type} (c : Prop) [Decidable c] (a b : α) : (if (if c then (0 : Int32) else 1) = 0 then a else b) = if c then a else b := by
  by_cases h : c
  · rw [if_pos h, if_pos h, if_pos rfl]
  · rw [if_neg h, if_neg h, if_neg (by decide)]
theorem RN_p {year : Int32} {place hpiece partner children now : Nat → Int32} (h : RN year place hpiece partner children now) {p : Nat} (hp : p < 10) (x : Int32) (hx : Rg x 0 3) : RN year (upd place p x) hpiece partner children (upd now p x) := by
  obtain ⟨e1, e2, e3, e4⟩ := h
  refine ⟨fun q hq => ?_, fun q hq => ?_, ?_, ?_⟩
  · have := e1 q hq
    simp only [upd_e]
    grind
  · have := e2 q hq
    simp only [upd_e]
    grind
  · rw [pk_un (by omega)]; exact e3
  · rw [pk_un (by omega)]; exact e4
theorem RN_h {year : Int32} {place hpiece partner children now : Nat → Int32} (h : RN year place hpiece partner children now) {k : Nat} (hk : k < 8) (x : Int32) (hx : x = -6 ∨ Rg x 0 9) : RN year place (upd hpiece k x) partner children (upd now (10 + k) x) := by
  obtain ⟨e1, e2, e3, e4⟩ := h
  refine ⟨fun q hq => ?_, fun q hq => ?_, ?_, ?_⟩
  · have := e1 q hq
    simp only [upd_e]
    grind
  · have := e2 q hq
    simp only [upd_e]
    grind
  · rw [pk_un (by omega)]; exact e3
  · rw [pk_un (by omega)]; exact e4
theorem RN_w {year : Int32} {place hpiece partner children now : Nat → Int32} (h : RN year place hpiece partner children now) {k : Nat} (hk : k < 8) (x : Int32) (hx : x = -6 ∨ Rg x 0 7) : RN year place hpiece (upd partner k x) children (upd now (18 + k) x) := by
  obtain ⟨e1, e2, e3, e4⟩ := h
  refine ⟨fun q hq => ?_, fun q hq => ?_, ?_, ?_⟩
  · have := e1 q hq
    simp only [upd_e]
    grind
  · have := e2 q hq
    simp only [upd_e]
    grind
  · rw [pk_un (by omega)]; exact e3
  · rw [pk_un (by omega)]; exact e4
theorem RN_c {year : Int32} {place hpiece partner children now : Nat → Int32} (h : RN year place hpiece partner children now) {k : Nat} (hk : k < 8) (x : Int32) (hx : Rg x 0 99) : RN year place hpiece partner (upd children k x) (upd now (26 + k) x) := by
  obtain ⟨e1, e2, e3, e4⟩ := h
  refine ⟨fun q hq => ?_, fun q hq => ?_, ?_, ?_⟩
  · have := e1 q hq
    simp only [upd_e]
    grind
  · have := e2 q hq
    simp only [upd_e]
    grind
  · rw [pk_un (by omega)]; exact e3
  · rw [pk_un (by omega)]; exact e4
theorem RN_y {year : Int32} {place hpiece partner children now : Nat → Int32} (h : RN year place hpiece partner children now) (x : Int32) (hx : Rg x 0 99) : RN x place hpiece partner children (upd now 34 x) := by
  obtain ⟨e1, e2, e3, e4⟩ := h
  refine ⟨fun q hq => ?_, fun q hq => ?_, ?_, ?_⟩
  · rw [pk_un (by omega)]; exact e1 q hq
  · rw [pk_un (by omega), pk_un (by omega), pk_un (by omega)]; exact e2 q hq
  · rw [pk_us]
  · rw [pk_us]; exact hx
theorem a_comeIn {year : Int32} {place hpiece partner children now : Nat → Int32} (h : RN year place hpiece partner children now) {p : Nat} (hp : p < 10) :
    ∃ r pl' now', fX5_comeIn place (nI p) = some (nI r, pl') ∧ fX9_comeIn now (nI p) = some (nI r, now') ∧ r ≤ 6 ∧ RN year pl' hpiece partner children now' := by
  unfold fX5_comeIn fX9_comeIn
  rw [at8 hp (by decide), Option.bind_some, put8 hp (by decide), Option.bind_some, chk_nI (show p < 35 by omega) (by decide), chk_nI (show p < 35 by omega) (by decide), rd_nI (by omega), wr_nI (by omega), (h.1 p hp).1]
  by_cases c : now p = 0
  · rw [if_pos c, if_pos c]
    exact ⟨0, _, _, by rw [nI_0], by rw [nI_0], by omega, RN_p h hp 1 ⟨1, by omega, by omega, by decide⟩⟩
  · rw [if_neg c, if_neg c]
    exact ⟨1, _, _, rfl, rfl, by omega, h⟩
theorem a_take {year : Int32} {place hpiece partner children now : Nat → Int32} (h : RN year place hpiece partner children now) {k p : Nat} (hk : k < 8) (hp : p < 10) :
    ∃ r pl' hp' now', fX5_takeHome place hpiece (nI k) (nI p) = some (nI r, pl', hp') ∧ fX9_take now (nI k) (nI p) = some (nI r, now') ∧ r ≤ 6 ∧ RN year pl' hp' partner children now' := by
  unfold fX5_takeHome fX9_take
  rw [at8 hp (by decide), Option.bind_some, put8 hp (by decide), put8 hk (by decide), Option.bind_some, Option.bind_some, chk_nI (show p < 35 by omega) (by decide), chk_nI (show p < 35 by omega) (by decide), k10, l_add, chk_nI (show 10 + k < 35 by omega) (by decide), chk_nI (show 10 + k < 35 by omega) (by decide), rd_nI (by omega), rd_nI (by omega), wr_nI (by omega), wr_nI (by omega), (h.1 p hp).1, non8 hk, Option.bind_some, if10, (h.2.1 k hk).1]
  have n6 := neg6 (by decide) (h.2.1 k hk).2.2.2.1
  by_cases c : now p = 1
  · rw [if_pos c, if_pos c]
    by_cases c2 : now (10 + k) = -6
    · rw [if_pos c2, if_pos (n6.1.mpr c2)]
      exact ⟨0, _, _, _, by rw [nI_0], by rw [nI_0], by omega, RN_h (RN_p h hp 2 ⟨2, by omega, by omega, by decide⟩) hk _ (Or.inr ⟨p, by omega, by omega, rfl⟩)⟩
    · rw [if_neg c2, if_neg (fun q => c2 (n6.1.mp q))]
      exact ⟨2, _, _, _, rfl, rfl, by omega, h⟩
  · rw [if_neg c, if_neg c]
    exact ⟨1, _, _, _, rfl, rfl, by omega, h⟩
theorem a_part {year : Int32} {place hpiece partner children now : Nat → Int32} (h : RN year place hpiece partner children now) {k : Nat} (hk : k < 8) :
    ∃ r pa' now', fX5_part partner (nI k) = some (nI r, pa') ∧ fX9_part now (nI k) = some (nI r, now') ∧ r ≤ 6 ∧ RN year place hpiece pa' children now' := by
  unfold fX5_part fX9_part
  have n6 := neg6 (by decide) (h.2.1 k hk).2.2.2.2.1
  rw [wed8 hk, Option.bind_some, if01, at8 hk (by decide), Option.bind_some, k18, l_add, chk_nI (show 18 + k < 35 by omega) (by decide), chk_nI (show 18 + k < 35 by omega) (by decide), rd_nI (by omega), wr_nI (by omega), (h.2.1 k hk).2.1]
  by_cases c : now (18 + k) = -6
  · rw [if_pos c, if_neg (fun q => (n6.2.mp q) c)]
    exact ⟨4, _, _, rfl, rfl, by omega, h⟩
  · rw [if_neg c, if_pos (n6.2.mpr c)]
    rcases (h.2.1 k hk).2.2.2.2.1 with q | ⟨g, -, hg, eg⟩
    · exact absurd q c
    rw [eg, put8 (show g < 8 by omega) (by decide), Option.bind_some, put8 hk (by decide), Option.bind_some, l_add, chk_nI (show 18 + g < 35 by omega) (by decide), wr_nI (by omega)]
    refine ⟨0, _, _, by rw [nI_0], by rw [nI_0], by omega, ?_⟩
    have hA := RN_w (RN_w h (show g < 8 by omega) (-6) (Or.inl rfl)) hk (-6) (Or.inl rfl)
    have hB : upd (upd now (18 + g) (-6)) (18 + k) (-6) = upd (upd now (18 + k) (-6)) (18 + g) (-6) := by
      funext i
      simp only [upd_e]
      grind
    rw [hB] at hA
    exact hA
theorem a_burn {year : Int32} {place hpiece partner children now : Nat → Int32} (h : RN year place hpiece partner children now) {k : Nat} (hk : k < 8) :
    ∃ r pl' hp' now', fX5_burn place hpiece (nI k) = some (nI r, pl', hp') ∧ fX9_burn now (nI k) = some (nI r, now') ∧ r ≤ 6 ∧ RN year pl' hp' partner children now' := by
  unfold fX5_burn fX9_burn
  have n6 := neg6 (by decide) (h.2.1 k hk).2.2.2.1
  rw [non8 hk, Option.bind_some, if10, at8 hk (by decide), Option.bind_some, k10, l_add, chk_nI (show 10 + k < 35 by omega) (by decide), chk_nI (show 10 + k < 35 by omega) (by decide), rd_nI (by omega), wr_nI (by omega), (h.2.1 k hk).1]
  by_cases c : now (10 + k) = -6
  · rw [if_pos c, if_neg (fun q => (n6.2.mp q) c)]
    exact ⟨2, _, _, _, rfl, rfl, by omega, h⟩
  · rw [if_neg c, if_pos (n6.2.mpr c)]
    rcases (h.2.1 k hk).2.2.2.1 with q | ⟨g, -, hg, eg⟩
    · exact absurd q c
    rw [eg, put8 (show g < 10 by omega) (by decide), Option.bind_some, put8 hk (by decide), Option.bind_some, chk_nI (show g < 35 by omega) (by decide), wr_nI (by omega)]
    exact ⟨0, _, _, _, by rw [nI_0], by rw [nI_0], by omega, RN_h (RN_p h (show g < 10 by omega) 3 ⟨3, by omega, by omega, by decide⟩) hk (-6) (Or.inl rfl)⟩
theorem wreck8 {wreck hpiece : Nat → Int32} {k g : Nat} (hk : k < 8) (hg : g < 10) (e : hpiece k = nI g) : fX5_wreckOf wreck hpiece (nI k) = some (wreck g) := by
  unfold fX5_wreckOf
  rw [at8 hk (by decide), Option.bind_some, e, at8 hg (by decide), Option.bind_some]
theorem a_wed {year : Int32} {place hpiece partner children now wreck of : Nat → Int32} (h : RN year place hpiece partner children now) (hw : ∀ p, p < 10 → wreck p = of p) (wd : Int32) {k j : Nat} (hk : k < 8) (hj : j < 8) :
    ∃ r wd' pa' now', fX7_wed wd wreck hpiece partner (nI k) (nI j) = some (nI r, wd', pa') ∧ fX9_wed wd now of (nI k) (nI j) = some (nI r, wd', now') ∧ r ≤ 6 ∧ RN year place hpiece pa' children now' := by
  unfold fX7_wed fX5_marry fX9_wed
  have n6 := neg6 (by decide) (h.2.1 k hk).2.2.2.1
  have m6 := neg6 (by decide) (h.2.1 j hj).2.2.2.1
  have u6 := neg6 (by decide) (h.2.1 k hk).2.2.2.2.1
  have v6 := neg6 (by decide) (h.2.1 j hj).2.2.2.2.1
  simp only [non8 hk, non8 hj, wed8 hk, wed8 hj, Option.bind_some, if10, if01, k10, k18, l_add, chk_nI (show 10 + k < 35 by omega) (by decide : 35 < 2 ^ 31), chk_nI (show 10 + j < 35 by omega) (by decide : 35 < 2 ^ 31), chk_nI (show 18 + k < 35 by omega) (by decide : 35 < 2 ^ 31), chk_nI (show 18 + j < 35 by omega) (by decide : 35 < 2 ^ 31), rd, nI_clamp (show 10 + k < 2 ^ 31 by omega), nI_clamp (show 10 + j < 2 ^ 31 by omega), nI_clamp (show 18 + k < 2 ^ 31 by omega), nI_clamp (show 18 + j < 2 ^ 31 by omega), wr_nI (show 18 + k < 2 ^ 31 by omega), wr_nI (show 18 + j < 2 ^ 31 by omega), (h.2.1 k hk).1, (h.2.1 j hj).1, (h.2.1 k hk).2.1, (h.2.1 j hj).2.1, n6.1, m6.2, u6.2, v6.1, nI_eq (show k < 2 ^ 31 by omega) (show j < 2 ^ 31 by omega)]
  have z2 : ¬ (2 : Int32) = 0 := by decide
  have z3 : ¬ (3 : Int32) = 0 := by decide
  have z4 : ¬ (4 : Int32) = 0 := by decide
  have z5 : ¬ (5 : Int32) = 0 := by decide
  by_cases c1 : now (10 + k) = -6
  · simp only [c1, if_true, z2, if_false, Option.bind_some]
    exact ⟨2, _, _, _, rfl, rfl, by omega, h⟩
  by_cases c2 : now (10 + j) = -6
  · simp only [c1, c2, if_true, z2, if_false, not_true_eq_false, Option.bind_some]
    exact ⟨2, _, _, _, rfl, rfl, by omega, h⟩
  by_cases c3 : k = j
  · simp only [c1, c2, c3, if_true, z3, if_false, not_false_eq_true, Option.bind_some]
    subst c3
    exact ⟨3, _, _, _, rfl, rfl, by omega, h⟩
  by_cases c4 : now (18 + k) = -6
  · by_cases c5 : now (18 + j) = -6
    · rcases (h.2.1 k hk).2.2.2.1 with q | ⟨g, -, hg, eg⟩
      · exact absurd q c1
      rcases (h.2.1 j hj).2.2.2.1 with q | ⟨g2, -, hg2, eg2⟩
      · exact absurd q c2
      have w1 := wreck8 (wreck := wreck) hk (show g < 10 by omega) ((h.2.1 k hk).1.trans eg)
      have w2 := wreck8 (wreck := wreck) hj (show g2 < 10 by omega) ((h.2.1 j hj).1.trans eg2)
      simp only [c1, c2, c3, c4, c5, if_true, if_false, not_false_eq_true, not_true_eq_false, Option.bind_some, w1, w2, hw g (by omega), hw g2 (by omega)]
      simp only [eg, eg2, chk_nI (show g < 60 by omega) (by decide : 60 < 2 ^ 31), chk_nI (show g2 < 60 by omega) (by decide : 60 < 2 ^ 31), nI_clamp (show g < 2 ^ 31 by omega), nI_clamp (show g2 < 2 ^ 31 by omega), put8 hk (by decide : 8 < 2 ^ 31), put8 hj (by decide : 8 < 2 ^ 31), Option.bind_some]
      have p1 : ¬ nI g = -6 := fun q => nI_pos (show g < 2 ^ 31 by omega) (by rw [q]; decide)
      have p2 : ¬ nI g2 = -6 := fun q => nI_pos (show g2 < 2 ^ 31 by omega) (by rw [q]; decide)
      by_cases c6 : of g = of g2
      · simp only [c6, if_true, z5, if_false, Option.bind_some]
        exact ⟨5, _, _, _, rfl, rfl, by omega, h⟩
      · simp only [c6, if_false, if_true, Option.bind_some]
        exact ⟨0, _, _, _, by rw [nI_0], by rw [nI_0], by omega, RN_w (RN_w h hk _ (Or.inr ⟨j, by omega, by omega, rfl⟩)) hj _ (Or.inr ⟨k, by omega, by omega, rfl⟩)⟩
    · simp only [c1, c2, c3, c4, c5, if_true, z4, if_false, not_false_eq_true, not_true_eq_false, Option.bind_some]
      exact ⟨4, _, _, _, rfl, rfl, by omega, h⟩
  · simp only [c1, c2, c3, c4, if_true, z4, if_false, not_false_eq_true, Option.bind_some]
    exact ⟨4, _, _, _, rfl, rfl, by omega, h⟩
theorem year_run {year : Int32} {place hpiece partner : Nat → Int32} : ∀ (m n k : Nat) (children now : Nat → Int32), k + m = 8 → m < n → RN year place hpiece partner children now →
    ∃ ch' now', fX5_passYear_24 year partner n children (nI k) = some (0, year, ch') ∧ fX9_endYear_28 n now (nI k) = some (0, now') ∧ RN year place hpiece partner ch' now' := by
  intro m
  induction m with
  | zero =>
    intro n k children now hk hn h
    obtain ⟨n, rfl⟩ : ∃ q, n = q + 1 := ⟨n - 1, by omega⟩
    have : k = 8 := by omega
    subst this
    rw [fX5_passYear_24, fX9_endYear_28, if_pos (by decide), if_pos (by decide)]
    exact ⟨_, _, rfl, rfl, h⟩
  | succ m ih =>
    intro n k children now hk hn h
    obtain ⟨n, rfl⟩ : ∃ q, n = q + 1 := ⟨n - 1, by omega⟩
    have hk8 : k < 8 := by omega
    have h1 : ¬ (8 : Int32) ≤ nI k := by rw [k8, nI_leI (by decide) (by omega)]; omega
    have v6 := neg6 (by decide) (h.2.1 k hk8).2.2.2.2.1
    obtain ⟨c, -, hc, ec⟩ := (h.2.1 k hk8).2.2.2.2.2
    have t1 : ((99 : Int32) < nI (c + 1)) ↔ c = 99 := by rw [show (99 : Int32) = nI 99 by decide, nI_ltI (by decide) (by omega)]; omega
    have t2 : ((99 : Int32) ≤ nI c) ↔ c = 99 := by rw [show (99 : Int32) = nI 99 by decide, nI_leI (by decide) (by omega)]; omega
    rw [fX5_passYear_24, fX9_endYear_28, if_neg h1, if_neg h1]
    simp only [at8 hk8 (by decide : 8 < 2 ^ 31), wed8 hk8, Option.bind_some, if01, k18, k26, l_add, chk_nI (show 18 + k < 35 by omega) (by decide : 35 < 2 ^ 31), chk_nI (show 26 + k < 35 by omega) (by decide : 35 < 2 ^ 31), rd, nI_clamp (show 18 + k < 2 ^ 31 by omega), nI_clamp (show 26 + k < 2 ^ 31 by omega), wr_nI (show 26 + k < 2 ^ 31 by omega), (h.2.1 k hk8).2.1, (h.2.1 k hk8).2.2.1, ec, v6.1, t1, t2, put8 hk8 (by decide : 8 < 2 ^ 31), nI_1, Int32.add_zero]
    have same : RN year place hpiece partner children (upd now (26 + k) (nI c)) := by
      have := RN_c h hk8 (nI c) ⟨c, by omega, by omega, rfl⟩
      have e : ∀ i, i < 8 → upd children k (nI c) i = children i := by
        intro i hi
        by_cases q : i = k
        · rw [q, pk_us, (h.2.1 k hk8).2.2.1, ec]
        · rw [pk_un q]
      exact ⟨this.1, fun i hi => by rw [← e i hi]; exact this.2.1 i hi, this.2.2⟩
    by_cases q : now (18 + k) = -6
    · simp only [q, if_true]
      exact ih n (k + 1) _ _ (by omega) (by omega) same
    · by_cases q2 : c = 99
      · simp only [q, q2, if_true, if_false]
        subst q2
        exact ih n (k + 1) _ _ (by omega) (by omega) same
      · simp only [q, q2, if_false]
        exact ih n (k + 1) _ _ (by omega) (by omega) (RN_c h hk8 _ ⟨c + 1, by omega, by omega, rfl⟩)
theorem a_year {year : Int32} {place hpiece partner children now : Nat → Int32} (h : RN year place hpiece partner children now) :
    ∃ r y' ch' now', fX5_passYear year partner children = some (nI r, y', ch') ∧ fX9_endYear now = some (nI r, now') ∧ r ≤ 6 ∧ RN y' place hpiece partner ch' now' := by
  unfold fX5_passYear fX9_endYear
  obtain ⟨y, -, hy, ey⟩ := h.2.2.2
  have t1 : (nI y < (99 : Int32)) ↔ ¬ y = 99 := by rw [show (99 : Int32) = nI 99 by decide, nI_ltI (by omega) (by decide)]; omega
  have t2 : (nI y = (99 : Int32)) ↔ y = 99 := by rw [show (99 : Int32) = nI 99 by decide, nI_eq (by omega) (by decide)]
  simp only [h.2.2.1, k34, chk_nI (show 34 < 35 by omega) (by decide : 35 < 2 ^ 31), rd, nI_clamp (show 34 < 2 ^ 31 by omega), wr_nI (show 34 < 2 ^ 31 by omega), ey, t1, t2, nI_1]
  by_cases q : y = 99
  · simp only [q, not_true_eq_false, if_true, if_false]
    subst q
    exact ⟨6, _, _, _, rfl, rfl, by omega, by rw [← ey, ← h.2.2.1]; exact h⟩
  · simp only [q, not_false_eq_true, if_true, if_false]
    obtain ⟨ch', now', r1, r2, r3⟩ := year_run 8 2000 0 children _ (by omega) (by omega) (RN_y h (nI (y + 1)) ⟨y + 1, by omega, by omega, rfl⟩)
    rw [nI_0] at r1 r2
    exact ⟨0, _, _, _, by rw [r1, nI_0], by rw [r2, nI_0], by omega, r3⟩
