/-! IMAGE, RESTORE -/
def RK (a b : Int32) (P : Prop) : Prop := a = b ∧ (a = 0 ∨ (a = 1 ∧ P))
theorem RS_congr {n_year : Int32} {n_wreck : Nat → Int32} {n_wood : Nat → Int32} {n_length : Nat → Int32} {n_left : Nat → Int32} {n_right : Nat → Int32} {n_place : Nat → Int32} {n_rings : Nat → Int32} {n_hpiece : Nat → Int32} {n_partner : Nat → Int32} {n_children : Nat → Int32} {n_count : Int32} {n_house : Nat → Int32} {n_reach : Nat → Int32} {n_sounded : Nat → Int32} {f_year : Int32} {f_wreck : Nat → Int32} {f_wood : Nat → Int32} {f_length : Nat → Int32} {f_left : Nat → Int32} {f_right : Nat → Int32} {f_place : Nat → Int32} {f_rings : Nat → Int32} {f_hpiece : Nat → Int32} {f_partner : Nat → Int32} {f_children : Nat → Int32} {f_count : Int32} {f_house : Nat → Int32} {f_reach : Nat → Int32} {f_sounded : Nat → Int32} {book of sight book' of' sight' : Nat → Int32} {sights sights' : Int32} (h : RS n_year n_wreck n_wood n_length n_left n_right n_place n_rings n_hpiece n_partner n_children n_count n_house n_reach n_sounded book of sight sights) (hy : f_year = n_year) (hc : f_count = n_count)
    (hp : ∀ i, i < 10 → f_wreck i = n_wreck i ∧ f_wood i = n_wood i ∧ f_length i = n_length i ∧ f_left i = n_left i ∧ f_right i = n_right i ∧ f_place i = n_place i ∧ f_rings i = n_rings i)
    (hh : ∀ i, i < 8 → f_hpiece i = n_hpiece i ∧ f_partner i = n_partner i ∧ f_children i = n_children i) (hs : ∀ i, i < 8 → f_house i = n_house i ∧ f_reach i = n_reach i ∧ f_sounded i = n_sounded i)
    (b : ∀ i, i < 35 → book' i = book i) (o : ∀ i, i < 60 → of' i = of i) (s : ∀ i, i < 24 → sight' i = sight i) (t : sights' = sights) : RS f_year f_wreck f_wood f_length f_left f_right f_place f_rings f_hpiece f_partner f_children f_count f_house f_reach f_sounded book' of' sight' sights' := by
  obtain ⟨⟨a1, a2, a3, a4, a5⟩, v1, v2, v3, v4, v5⟩ := h
  subst hy hc t
  refine ⟨⟨fun p q => ?_, fun p q => ?_, ?_, a4, fun p q => ?_⟩, fun p q => ?_, fun p q => ?_, ?_, v4, fun p q => ?_⟩
  · obtain ⟨p1, p2, p3, p4, p5, p6, p7⟩ := hp p q
    rw [p1, p2, p3, p4, p5, p6, p7, b p (by omega), o p (by omega), o (10 + p) (by omega), o (20 + p) (by omega), o (30 + p) (by omega), o (40 + p) (by omega), o (50 + p) (by omega)]
    exact a1 p q
  · obtain ⟨p1, p2, p3⟩ := hh p q
    rw [p1, p2, p3, b (10 + p) (by omega), b (18 + p) (by omega), b (26 + p) (by omega)]
    exact a2 p q
  · rw [b 34 (by omega)]; exact a3
  · obtain ⟨p1, p2, p3⟩ := hs p q
    rw [p1, p2, p3, s (3 * p) (by omega), s (3 * p + 1) (by omega), s (3 * p + 2) (by omega)]
    exact a5 p q
  · rw [b p (by omega), o p (by omega), o (10 + p) (by omega), o (20 + p) (by omega), o (30 + p) (by omega), o (40 + p) (by omega), o (50 + p) (by omega)]
    exact v1 p q
  · rw [b (10 + p) (by omega), b (18 + p) (by omega), b (26 + p) (by omega)]
    exact v2 p q
  · rw [b 34 (by omega)]; exact v3
  · rw [s (3 * p) (by omega), s (3 * p + 1) (by omega), s (3 * p + 2) (by omega)]
    exact v5 p q
theorem img20 {sights x : Int32} {book of sight K : Nat → Int32} {B : Nat} (hB : B ≤ 130) : ∀ (m k n : Nat) (im : Nat → Int32), k + m = 35 → m < n → ∃ im', fX9_image_20 sights book of sight K x (nI B) n im (nI k) = fX9_image_48 sights of sight K x (nI B) 2000 im' 0 ∧ (∀ j, k ≤ j → j < 35 → im' (B + j) = book j) ∧ (∀ i, (i < B + k ∨ B + 35 ≤ i) → im' i = im i) := by
  intro m
  induction m with
  | zero =>
    intro k n im hk hn
    obtain ⟨n, rfl⟩ : ∃ q, n = q + 1 := ⟨n - 1, by omega⟩
    have : k = 35 := by omega
    subst this
    rw [fX9_image_20, if_pos (by decide)]
    exact ⟨im, rfl, fun j h1 h2 => absurd h2 (by omega), fun i _ => rfl⟩
  | succ m ih =>
    intro k n im hk hn
    obtain ⟨n, rfl⟩ : ∃ q, n = q + 1 := ⟨n - 1, by omega⟩
    have h1 : ¬ (35 : Int32) ≤ nI k := by rw [show (35 : Int32) = nI 35 by decide, nI_leI (by decide) (by omega)]; omega
    rw [fX9_image_20, if_neg h1, l_add, chk_nI (by omega) (by decide), chk_nI (by omega) (by decide), rd_nI (by omega), wr_nI (by omega), nI_1]
    obtain ⟨im', i1, i2, i3⟩ := ih (k + 1) n (upd im (B + k) (book k)) (by omega) (by omega)
    refine ⟨im', i1, fun j h1 h2 => ?_, fun i hi => ?_⟩
    · by_cases q : j = k
      · rw [q, i3 (B + k) (by omega), pk_us]
      · exact i2 j (by omega) h2
    · rw [i3 i (by omega), pk_un (by omega)]
theorem img48 {sights x : Int32} {of sight K : Nat → Int32} {B : Nat} (hB : B ≤ 130) : ∀ (m k n : Nat) (im : Nat → Int32), k + m = 60 → m < n → ∃ im', fX9_image_48 sights of sight K x (nI B) n im (nI k) = fX9_image_79 sights sight K x (nI B) 2000 im' 0 ∧ (∀ j, k ≤ j → j < 60 → im' (B + 35 + j) = of j) ∧ (∀ i, (i < B + 35 + k ∨ B + 95 ≤ i) → im' i = im i) := by
  intro m
  induction m with
  | zero =>
    intro k n im hk hn
    obtain ⟨n, rfl⟩ : ∃ q, n = q + 1 := ⟨n - 1, by omega⟩
    have : k = 60 := by omega
    subst this
    rw [fX9_image_48, if_pos (by decide)]
    exact ⟨im, rfl, fun j h1 h2 => absurd h2 (by omega), fun i _ => rfl⟩
  | succ m ih =>
    intro k n im hk hn
    obtain ⟨n, rfl⟩ : ∃ q, n = q + 1 := ⟨n - 1, by omega⟩
    have h1 : ¬ (60 : Int32) ≤ nI k := by rw [k60, nI_leI (by decide) (by omega)]; omega
    rw [fX9_image_48, if_neg h1, show (35 : Int32) = nI 35 by decide, l_add, l_add, chk_nI (by omega) (by decide), chk_nI (by omega) (by decide), rd_nI (by omega), wr_nI (by omega), nI_1]
    obtain ⟨im', i1, i2, i3⟩ := ih (k + 1) n (upd im (B + 35 + k) (of k)) (by omega) (by omega)
    refine ⟨im', i1, fun j h1 h2 => ?_, fun i hi => ?_⟩
    · by_cases q : j = k
      · rw [q, i3 (B + 35 + k) (by omega), pk_us]
      · exact i2 j (by omega) h2
    · rw [i3 i (by omega), pk_un (by omega)]
theorem img79 {sights x : Int32} {sight K : Nat → Int32} {B : Nat} (hB : B ≤ 130) {w : Nat} (hw : w < 2) (hx : x = nI w) : ∀ (m k n : Nat) (im : Nat → Int32), k + m = 24 → m < n → ∃ im', fX9_image_79 sights sight K x (nI B) n im (nI k) = some (1, im', upd K w 1) ∧ (∀ j, k ≤ j → j < 24 → im' (B + 95 + j) = sight j) ∧ im' (B + 120) = sights ∧ (∀ i, (i < B + 95 + k ∨ B + 121 ≤ i) → im' i = im i) := by
  intro m
  induction m with
  | zero =>
    intro k n im hk hn
    obtain ⟨n, rfl⟩ : ∃ q, n = q + 1 := ⟨n - 1, by omega⟩
    have : k = 24 := by omega
    subst this
    subst hx
    rw [fX9_image_79, if_pos (by decide), show (120 : Int32) = nI 120 by decide, l_add, chk_nI (by omega) (by decide), chk_nI (by omega) (by decide), wr_nI (by omega), wr_nI (by omega)]
    exact ⟨_, rfl, fun j h1 h2 => absurd h2 (by omega), pk_us, fun i hi => pk_un (by omega)⟩
  | succ m ih =>
    intro k n im hk hn
    obtain ⟨n, rfl⟩ : ∃ q, n = q + 1 := ⟨n - 1, by omega⟩
    have h1 : ¬ (24 : Int32) ≤ nI k := by rw [show (24 : Int32) = nI 24 by decide, nI_leI (by decide) (by omega)]; omega
    rw [fX9_image_79, if_neg h1, show (95 : Int32) = nI 95 by decide, l_add, l_add, chk_nI (by omega) (by decide), chk_nI (by omega) (by decide), rd_nI (by omega), wr_nI (by omega), nI_1]
    obtain ⟨im', i1, i2, i3, i4⟩ := ih (k + 1) n (upd im (B + 95 + k) (sight k)) (by omega) (by omega)
    refine ⟨im', i1, fun j h1 h2 => ?_, i3, fun i hi => ?_⟩
    · by_cases q : j = k
      · rw [q, i4 (B + 95 + k) (by omega), pk_us]
      · exact i2 j (by omega) h2
    · rw [i4 i (by omega), pk_un (by omega)]
theorem img_all (sights : Int32) (book of sight K im : Nat → Int32) {B w : Nat} (hw : w < 2) (hB : B ≤ 130) : ∃ im', fX9_image_20 sights book of sight K (nI w) (nI B) 2000 im 0 = some (1, im', upd K w 1) ∧ (∀ j, j < 35 → im' (B + j) = book j) ∧ (∀ j, j < 60 → im' (B + 35 + j) = of j) ∧ (∀ j, j < 24 → im' (B + 95 + j) = sight j) ∧ im' (B + 120) = sights ∧ (∀ i, (i < B ∨ B + 121 ≤ i) → im' i = im i) := by
  obtain ⟨i1, a1, a2, a3⟩ := img20 (sights := sights) (x := nI w) (book := book) (of := of) (sight := sight) (K := K) hB 35 0 2000 im (by omega) (by omega)
  obtain ⟨i2, b1, b2, b3⟩ := img48 (sights := sights) (x := nI w) (of := of) (sight := sight) (K := K) hB 60 0 2000 i1 (by omega) (by omega)
  obtain ⟨i3, c1, c2, c3, c4⟩ := img79 (sights := sights) (sight := sight) (K := K) hB hw rfl 24 0 2000 i2 (by omega) (by omega)
  rw [nI_0] at a1 b1 c1
  refine ⟨i3, by rw [a1, b1, c1], fun j hj => ?_, fun j hj => ?_, fun j hj => c2 j (by omega) hj, c3, fun i hi => ?_⟩
  · rw [c4 _ (by omega), b3 _ (by omega), a2 j (by omega) hj]
  · rw [c4 _ (by omega), b2 j (by omega) hj]
  · rw [c4 _ (by omega), b3 _ (by omega), a3 _ (by omega)]
theorem core_image {n_year : Int32} {n_wreck : Nat → Int32} {n_wood : Nat → Int32} {n_length : Nat → Int32} {n_left : Nat → Int32} {n_right : Nat → Int32} {n_place : Nat → Int32} {n_rings : Nat → Int32} {n_hpiece : Nat → Int32} {n_partner : Nat → Int32} {n_children : Nat → Int32} {n_count : Int32} {n_house : Nat → Int32} {n_reach : Nat → Int32} {n_sounded : Nat → Int32} {f_year : Int32} {f_wreck : Nat → Int32} {f_wood : Nat → Int32} {f_length : Nat → Int32} {f_left : Nat → Int32} {f_right : Nat → Int32} {f_place : Nat → Int32} {f_rings : Nat → Int32} {f_hpiece : Nat → Int32} {f_partner : Nat → Int32} {f_children : Nat → Int32} {f_count : Int32} {f_house : Nat → Int32} {f_reach : Nat → Int32} {f_sounded : Nat → Int32} {s_year : Int32} {s_wreck : Nat → Int32} {s_wood : Nat → Int32} {s_length : Nat → Int32} {s_left : Nat → Int32} {s_right : Nat → Int32} {s_place : Nat → Int32} {s_rings : Nat → Int32} {s_hpiece : Nat → Int32} {s_partner : Nat → Int32} {s_children : Nat → Int32} {s_count : Int32} {s_house : Nat → Int32} {s_reach : Nat → Int32} {s_sounded : Nat → Int32} {k1' k2' : Int32} {book of sight im K : Nat → Int32} {sights : Int32} (x : Int32)
    (h : RS n_year n_wreck n_wood n_length n_left n_right n_place n_rings n_hpiece n_partner n_children n_count n_house n_reach n_sounded book of sight sights) (hf : RK k1' (K 0) (RS f_year f_wreck f_wood f_length f_left f_right f_place f_rings f_hpiece f_partner f_children f_count f_house f_reach f_sounded (fun k => im (0 + k)) (fun k => im (35 + k)) (fun k => im (95 + k)) (im 120)))
    (hs : RK k2' (K 1) (RS s_year s_wreck s_wood s_length s_left s_right s_place s_rings s_hpiece s_partner s_children s_count s_house s_reach s_sounded (fun k => im (130 + k)) (fun k => im (165 + k)) (fun k => im (225 + k)) (im 250))) :
    ∃ zx zm, fX8_image k1' k2' n_year n_wreck n_wood n_length n_left n_right n_place n_rings n_hpiece n_partner n_children n_count n_house n_reach n_sounded f_year f_wreck f_wood f_length f_left f_right f_place f_rings f_hpiece f_partner f_children f_count f_house f_reach f_sounded s_year s_wreck s_wood s_length s_left s_right s_place s_rings s_hpiece s_partner s_children s_count s_house s_reach s_sounded x = some zx ∧ fX9_image sights book of sight im K x = some zm ∧ zx.1 = zm.1 ∧
      RK zx.2.1 (zm.2.2 0) (RS zx.2.2.2.1 zx.2.2.2.2.1 zx.2.2.2.2.2.1 zx.2.2.2.2.2.2.1 zx.2.2.2.2.2.2.2.1 zx.2.2.2.2.2.2.2.2.1 zx.2.2.2.2.2.2.2.2.2.1 zx.2.2.2.2.2.2.2.2.2.2.1 zx.2.2.2.2.2.2.2.2.2.2.2.1 zx.2.2.2.2.2.2.2.2.2.2.2.2.1 zx.2.2.2.2.2.2.2.2.2.2.2.2.2.1 zx.2.2.2.2.2.2.2.2.2.2.2.2.2.2.1 zx.2.2.2.2.2.2.2.2.2.2.2.2.2.2.2.1 zx.2.2.2.2.2.2.2.2.2.2.2.2.2.2.2.2.1 zx.2.2.2.2.2.2.2.2.2.2.2.2.2.2.2.2.2.1 (fun k => zm.2.1 (0 + k)) (fun k => zm.2.1 (35 + k)) (fun k => zm.2.1 (95 + k)) (zm.2.1 120)) ∧
      RK zx.2.2.1 (zm.2.2 1) (RS zx.2.2.2.2.2.2.2.2.2.2.2.2.2.2.2.2.2.2.1 zx.2.2.2.2.2.2.2.2.2.2.2.2.2.2.2.2.2.2.2.1 zx.2.2.2.2.2.2.2.2.2.2.2.2.2.2.2.2.2.2.2.2.1 zx.2.2.2.2.2.2.2.2.2.2.2.2.2.2.2.2.2.2.2.2.2.1 zx.2.2.2.2.2.2.2.2.2.2.2.2.2.2.2.2.2.2.2.2.2.2.1 zx.2.2.2.2.2.2.2.2.2.2.2.2.2.2.2.2.2.2.2.2.2.2.2.1 zx.2.2.2.2.2.2.2.2.2.2.2.2.2.2.2.2.2.2.2.2.2.2.2.2.1 zx.2.2.2.2.2.2.2.2.2.2.2.2.2.2.2.2.2.2.2.2.2.2.2.2.2.1 zx.2.2.2.2.2.2.2.2.2.2.2.2.2.2.2.2.2.2.2.2.2.2.2.2.2.2.1 zx.2.2.2.2.2.2.2.2.2.2.2.2.2.2.2.2.2.2.2.2.2.2.2.2.2.2.2.1 zx.2.2.2.2.2.2.2.2.2.2.2.2.2.2.2.2.2.2.2.2.2.2.2.2.2.2.2.2.1 zx.2.2.2.2.2.2.2.2.2.2.2.2.2.2.2.2.2.2.2.2.2.2.2.2.2.2.2.2.2.1 zx.2.2.2.2.2.2.2.2.2.2.2.2.2.2.2.2.2.2.2.2.2.2.2.2.2.2.2.2.2.2.1 zx.2.2.2.2.2.2.2.2.2.2.2.2.2.2.2.2.2.2.2.2.2.2.2.2.2.2.2.2.2.2.2.1 zx.2.2.2.2.2.2.2.2.2.2.2.2.2.2.2.2.2.2.2.2.2.2.2.2.2.2.2.2.2.2.2.2 (fun k => zm.2.1 (130 + k)) (fun k => zm.2.1 (165 + k)) (fun k => zm.2.1 (225 + k)) (zm.2.1 250)) := by
  unfold fX8_image fX9_image
  simp only [wi8, wi9, Option.bind_some, if10]
  by_cases c1 : 0 ≤ x ∧ x ≤ 1
  · obtain ⟨w, -, hw, rfl⟩ := rg_of (a := 0) (b := 1) rfl rfl c1.1 c1.2
    simp only [c1, and_self, if_true]
    rcases (show w = 0 ∨ w = 1 by omega) with rfl | rfl
    · obtain ⟨im', i1, i2, i3, i4, i5, i6⟩ := img_all sights book of sight K im (B := 0) (w := 0) (by decide) (by decide)
      obtain ⟨w1, w2, w3, w4, w5, w6, w7, h1, h2, h3, s1, s2, s3, b1, b2, b3, b4⟩ := become5 f_year f_wreck f_wood f_length f_left f_right f_place f_rings f_hpiece f_partner f_children f_count f_house f_reach f_sounded n_year n_wreck n_wood n_length n_left n_right n_place n_rings n_hpiece n_partner n_children n_count n_house n_reach n_sounded
      rw [show (130 : Int32) * nI 0 = nI 0 by decide, if_pos nI_0, b1, i1, Option.bind_some]
      refine ⟨_, _, rfl, rfl, rfl, ⟨rfl, Or.inr ⟨rfl, ?_⟩⟩, ?_⟩
      · exact RS_congr h rfl rfl b2 b3 b4 (fun i hi => i2 i hi) (fun i hi => i3 i hi) (fun i hi => i4 i hi) i5
      · refine ⟨hs.1, ?_⟩
        rcases hs.2 with q | ⟨q, hS⟩
        · exact Or.inl q
        · exact Or.inr ⟨q, RS_congr hS rfl rfl (fun _ _ => ⟨rfl, rfl, rfl, rfl, rfl, rfl, rfl⟩) (fun _ _ => ⟨rfl, rfl, rfl⟩) (fun _ _ => ⟨rfl, rfl, rfl⟩) (fun i hi => i6 _ (by omega)) (fun i hi => i6 _ (by omega)) (fun i hi => i6 _ (by omega)) (i6 _ (by omega))⟩
    · obtain ⟨im', i1, i2, i3, i4, i5, i6⟩ := img_all sights book of sight K im (B := 130) (w := 1) (by decide) (by decide)
      obtain ⟨w1, w2, w3, w4, w5, w6, w7, h1, h2, h3, s1, s2, s3, b1, b2, b3, b4⟩ := become5 s_year s_wreck s_wood s_length s_left s_right s_place s_rings s_hpiece s_partner s_children s_count s_house s_reach s_sounded n_year n_wreck n_wood n_length n_left n_right n_place n_rings n_hpiece n_partner n_children n_count n_house n_reach n_sounded
      rw [show (130 : Int32) * nI 1 = nI 130 by decide, if_neg (show ¬ nI 1 = 0 by decide), b1, i1, Option.bind_some]
      refine ⟨_, _, rfl, rfl, rfl, ?_, ⟨rfl, Or.inr ⟨rfl, ?_⟩⟩⟩
      · refine ⟨hf.1, ?_⟩
        rcases hf.2 with q | ⟨q, hS⟩
        · exact Or.inl q
        · exact Or.inr ⟨q, RS_congr hS rfl rfl (fun _ _ => ⟨rfl, rfl, rfl, rfl, rfl, rfl, rfl⟩) (fun _ _ => ⟨rfl, rfl, rfl⟩) (fun _ _ => ⟨rfl, rfl, rfl⟩) (fun i hi => i6 _ (by omega)) (fun i hi => i6 _ (by omega)) (fun i hi => i6 _ (by omega)) (i6 _ (by omega))⟩
      · exact RS_congr h rfl rfl b2 b3 b4 (fun i hi => i2 i hi) (fun i hi => i3 i hi) (fun i hi => i4 i hi) i5
  · simp only [c1, if_false]
    exact ⟨_, _, rfl, rfl, rfl, hf, hs⟩
theorem res32 {sights : Int32} {of sight im : Nat → Int32} {B : Nat} (hB : B ≤ 130) : ∀ (m k n : Nat) (to : Nat → Int32), k + m = 35 → m < n → (∀ j, j < k → to j = im (B + j)) → ∃ r, fX9_restore_32 sights of sight im (nI B) n to (nI k) = fX9_restore_60 sights r sight im (nI B) 2000 of 0 ∧ (∀ j, j < 35 → r j = im (B + j)) := by
  intro m
  induction m with
  | zero =>
    intro k n to hk hn he
    obtain ⟨n, rfl⟩ : ∃ q, n = q + 1 := ⟨n - 1, by omega⟩
    have : k = 35 := by omega
    subst this
    rw [fX9_restore_32, if_pos (by decide)]
    exact ⟨to, rfl, he⟩
  | succ m ih =>
    intro k n to hk hn he
    obtain ⟨n, rfl⟩ : ∃ q, n = q + 1 := ⟨n - 1, by omega⟩
    have h1 : ¬ (35 : Int32) ≤ nI k := by rw [show (35 : Int32) = nI 35 by decide, nI_leI (by decide) (by omega)]; omega
    rw [fX9_restore_32, if_neg h1, l_add, chk_nI (by omega) (by decide), chk_nI (by omega) (by decide), rd_nI (by omega), wr_nI (by omega), nI_1]
    refine ih (k + 1) n _ (by omega) (by omega) (fun j hj => ?_)
    by_cases q : j = k
    · rw [q, pk_us]
    · rw [pk_un q]; exact he j (by omega)
theorem res60 {sights : Int32} {book sight im : Nat → Int32} {B : Nat} (hB : B ≤ 130) : ∀ (m k n : Nat) (to : Nat → Int32), k + m = 60 → m < n → (∀ j, j < k → to j = im (B + 35 + j)) → ∃ r, fX9_restore_60 sights book sight im (nI B) n to (nI k) = fX9_restore_91 sights book r im (nI B) 2000 sight 0 ∧ (∀ j, j < 60 → r j = im (B + 35 + j)) := by
  intro m
  induction m with
  | zero =>
    intro k n to hk hn he
    obtain ⟨n, rfl⟩ : ∃ q, n = q + 1 := ⟨n - 1, by omega⟩
    have : k = 60 := by omega
    subst this
    rw [fX9_restore_60, if_pos (by decide)]
    exact ⟨to, rfl, he⟩
  | succ m ih =>
    intro k n to hk hn he
    obtain ⟨n, rfl⟩ : ∃ q, n = q + 1 := ⟨n - 1, by omega⟩
    have h1 : ¬ (60 : Int32) ≤ nI k := by rw [k60, nI_leI (by decide) (by omega)]; omega
    rw [fX9_restore_60, if_neg h1, show (35 : Int32) = nI 35 by decide, l_add, l_add, chk_nI (by omega) (by decide), chk_nI (by omega) (by decide), rd_nI (by omega), wr_nI (by omega), nI_1]
    refine ih (k + 1) n _ (by omega) (by omega) (fun j hj => ?_)
    by_cases q : j = k
    · rw [q, pk_us]
    · rw [pk_un q]; exact he j (by omega)
theorem res91 {sights : Int32} {book of im : Nat → Int32} {B : Nat} (hB : B ≤ 130) : ∀ (m k n : Nat) (to : Nat → Int32), k + m = 24 → m < n → (∀ j, j < k → to j = im (B + 95 + j)) → ∃ r, fX9_restore_91 sights book of im (nI B) n to (nI k) = some (1, im (B + 120), book, of, r) ∧ (∀ j, j < 24 → r j = im (B + 95 + j)) := by
  intro m
  induction m with
  | zero =>
    intro k n to hk hn he
    obtain ⟨n, rfl⟩ : ∃ q, n = q + 1 := ⟨n - 1, by omega⟩
    have : k = 24 := by omega
    subst this
    rw [fX9_restore_91, if_pos (by decide), show (120 : Int32) = nI 120 by decide, l_add, chk_nI (by omega) (by decide), rd_nI (by omega)]
    exact ⟨to, rfl, he⟩
  | succ m ih =>
    intro k n to hk hn he
    obtain ⟨n, rfl⟩ : ∃ q, n = q + 1 := ⟨n - 1, by omega⟩
    have h1 : ¬ (24 : Int32) ≤ nI k := by rw [show (24 : Int32) = nI 24 by decide, nI_leI (by decide) (by omega)]; omega
    rw [fX9_restore_91, if_neg h1, show (95 : Int32) = nI 95 by decide, l_add, l_add, chk_nI (by omega) (by decide), chk_nI (by omega) (by decide), rd_nI (by omega), wr_nI (by omega), nI_1]
    refine ih (k + 1) n _ (by omega) (by omega) (fun j hj => ?_)
    by_cases q : j = k
    · rw [q, pk_us]
    · rw [pk_un q]; exact he j (by omega)
theorem res_all (sights : Int32) (book of sight im : Nat → Int32) {B : Nat} (hB : B ≤ 130) : ∃ b o s, fX9_restore_32 sights of sight im (nI B) 2000 book 0 = some (1, im (B + 120), b, o, s) ∧ (∀ j, j < 35 → b j = im (B + j)) ∧ (∀ j, j < 60 → o j = im (B + 35 + j)) ∧ (∀ j, j < 24 → s j = im (B + 95 + j)) := by
  obtain ⟨b, a1, a2⟩ := res32 (sights := sights) (of := of) (sight := sight) (im := im) hB 35 0 2000 book (by omega) (by omega) (fun j hj => absurd hj (by omega))
  obtain ⟨o, b1, b2⟩ := res60 (sights := sights) (book := b) (sight := sight) (im := im) hB 60 0 2000 of (by omega) (by omega) (fun j hj => absurd hj (by omega))
  obtain ⟨s, c1, c2⟩ := res91 (sights := sights) (book := b) (of := o) (im := im) hB 24 0 2000 sight (by omega) (by omega) (fun j hj => absurd hj (by omega))
  rw [nI_0] at a1 b1 c1
  exact ⟨b, o, s, by rw [a1, b1, c1], a2, b2, c2⟩
theorem core_restore {n_year : Int32} {n_wreck : Nat → Int32} {n_wood : Nat → Int32} {n_length : Nat → Int32} {n_left : Nat → Int32} {n_right : Nat → Int32} {n_place : Nat → Int32} {n_rings : Nat → Int32} {n_hpiece : Nat → Int32} {n_partner : Nat → Int32} {n_children : Nat → Int32} {n_count : Int32} {n_house : Nat → Int32} {n_reach : Nat → Int32} {n_sounded : Nat → Int32} {f_year : Int32} {f_wreck : Nat → Int32} {f_wood : Nat → Int32} {f_length : Nat → Int32} {f_left : Nat → Int32} {f_right : Nat → Int32} {f_place : Nat → Int32} {f_rings : Nat → Int32} {f_hpiece : Nat → Int32} {f_partner : Nat → Int32} {f_children : Nat → Int32} {f_count : Int32} {f_house : Nat → Int32} {f_reach : Nat → Int32} {f_sounded : Nat → Int32} {s_year : Int32} {s_wreck : Nat → Int32} {s_wood : Nat → Int32} {s_length : Nat → Int32} {s_left : Nat → Int32} {s_right : Nat → Int32} {s_place : Nat → Int32} {s_rings : Nat → Int32} {s_hpiece : Nat → Int32} {s_partner : Nat → Int32} {s_children : Nat → Int32} {s_count : Int32} {s_house : Nat → Int32} {s_reach : Nat → Int32} {s_sounded : Nat → Int32} {k1' k2' : Int32} {book of sight im K : Nat → Int32} {sights : Int32} (x : Int32)
    (h : RS n_year n_wreck n_wood n_length n_left n_right n_place n_rings n_hpiece n_partner n_children n_count n_house n_reach n_sounded book of sight sights) (hf : RK k1' (K 0) (RS f_year f_wreck f_wood f_length f_left f_right f_place f_rings f_hpiece f_partner f_children f_count f_house f_reach f_sounded (fun k => im (0 + k)) (fun k => im (35 + k)) (fun k => im (95 + k)) (im 120)))
    (hs : RK k2' (K 1) (RS s_year s_wreck s_wood s_length s_left s_right s_place s_rings s_hpiece s_partner s_children s_count s_house s_reach s_sounded (fun k => im (130 + k)) (fun k => im (165 + k)) (fun k => im (225 + k)) (im 250))) :
    ∃ zx zm, fX8_restore k1' k2' n_year n_wreck n_wood n_length n_left n_right n_place n_rings n_hpiece n_partner n_children n_count n_house n_reach n_sounded f_year f_wreck f_wood f_length f_left f_right f_place f_rings f_hpiece f_partner f_children f_count f_house f_reach f_sounded s_year s_wreck s_wood s_length s_left s_right s_place s_rings s_hpiece s_partner s_children s_count s_house s_reach s_sounded x = some zx ∧ fX9_restore sights book of sight im K x = some zm ∧ zx.1 = zm.1 ∧
      RS zx.2.1 zx.2.2.1 zx.2.2.2.1 zx.2.2.2.2.1 zx.2.2.2.2.2.1 zx.2.2.2.2.2.2.1 zx.2.2.2.2.2.2.2.1 zx.2.2.2.2.2.2.2.2.1 zx.2.2.2.2.2.2.2.2.2.1 zx.2.2.2.2.2.2.2.2.2.2.1 zx.2.2.2.2.2.2.2.2.2.2.2.1 zx.2.2.2.2.2.2.2.2.2.2.2.2.1 zx.2.2.2.2.2.2.2.2.2.2.2.2.2.1 zx.2.2.2.2.2.2.2.2.2.2.2.2.2.2.1 zx.2.2.2.2.2.2.2.2.2.2.2.2.2.2.2 zm.2.2.1 zm.2.2.2.1 zm.2.2.2.2 zm.2.1 := by
  unfold fX8_restore fX9_restore
  simp only [wi8, wi9, Option.bind_some, if10]
  by_cases c1 : 0 ≤ x ∧ x ≤ 1
  · obtain ⟨w, -, hw, rfl⟩ := rg_of (a := 0) (b := 1) rfl rfl c1.1 c1.2
    simp only [c1, and_self, if_true, chk_nI (show w < 2 by omega) (by decide : 2 < 2 ^ 31), rd, nI_clamp (show w < 2 ^ 31 by omega)]
    rcases (show w = 0 ∨ w = 1 by omega) with rfl | rfl
    · rw [show (130 : Int32) * nI 0 = nI 0 by decide, if_pos nI_0, ← hf.1]
      rcases hf.2 with q | ⟨q, hS⟩
      · rw [if_pos q, if_pos q]
        exact ⟨_, _, rfl, rfl, rfl, h⟩
      · have q0 : ¬ k1' = 0 := by rw [q]; decide
        obtain ⟨b, o, s, r1, r2, r3, r4⟩ := res_all sights book of sight im (B := 0) (by decide)
        obtain ⟨w1, w2, w3, w4, w5, w6, w7, h1, h2, h3, s1, s2, s3, b1, b2, b3, b4⟩ := become5 n_year n_wreck n_wood n_length n_left n_right n_place n_rings n_hpiece n_partner n_children n_count n_house n_reach n_sounded f_year f_wreck f_wood f_length f_left f_right f_place f_rings f_hpiece f_partner f_children f_count f_house f_reach f_sounded
        unfold fX8_restore_36
        rw [if_neg q0, if_neg q0, if_pos nI_0, r1, b1, Option.bind_some]
        refine ⟨_, _, rfl, rfl, rfl, ?_⟩
        exact RS_congr hS rfl rfl b2 b3 b4 (fun i hi => r2 i hi) (fun i hi => r3 i hi) (fun i hi => r4 i hi) rfl
    · rw [show (130 : Int32) * nI 1 = nI 130 by decide, if_neg (show ¬ nI 1 = 0 by decide), ← hs.1]
      rcases hs.2 with q | ⟨q, hS⟩
      · rw [if_pos q, if_pos q]
        exact ⟨_, _, rfl, rfl, rfl, h⟩
      · have q0 : ¬ k2' = 0 := by rw [q]; decide
        obtain ⟨b, o, s, r1, r2, r3, r4⟩ := res_all sights book of sight im (B := 130) (by decide)
        obtain ⟨w1, w2, w3, w4, w5, w6, w7, h1, h2, h3, s1, s2, s3, b1, b2, b3, b4⟩ := become5 n_year n_wreck n_wood n_length n_left n_right n_place n_rings n_hpiece n_partner n_children n_count n_house n_reach n_sounded s_year s_wreck s_wood s_length s_left s_right s_place s_rings s_hpiece s_partner s_children s_count s_house s_reach s_sounded
        unfold fX8_restore_36
        rw [if_neg q0, if_neg q0, if_neg (show ¬ nI 1 = 0 by decide), r1, b1, Option.bind_some]
        refine ⟨_, _, rfl, rfl, rfl, ?_⟩
        exact RS_congr hS rfl rfl b2 b3 b4 (fun i hi => r2 i hi) (fun i hi => r3 i hi) (fun i hi => r4 i hi) rfl
  · simp only [c1, if_false]
    exact ⟨_, _, rfl, rfl, rfl, h⟩
