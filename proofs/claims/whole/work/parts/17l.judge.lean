/-! JUDGE, DONE, WHERE, BEHIND, THEN -/
theorem asNow_run {wd : Int32} {book : Nat → Int32} : ∀ (m k fuel : Nat) (to : Nat → Int32), k + m = 35 → m < fuel → (∀ i, i < k → to i = book i) → ∃ r, fX9_asNow_2 wd book fuel to (nI k) = some (0, r) ∧ ∀ i, i < 35 → r i = book i := by
  intro m
  induction m with
  | zero =>
    intro k fuel to hk hf he
    obtain ⟨fuel, rfl⟩ : ∃ q, fuel = q + 1 := ⟨fuel - 1, by omega⟩
    have : k = 35 := by omega
    subst this
    rw [fX9_asNow_2, if_pos (by decide)]
    exact ⟨to, rfl, he⟩
  | succ m ih =>
    intro k fuel to hk hf he
    obtain ⟨fuel, rfl⟩ : ∃ q, fuel = q + 1 := ⟨fuel - 1, by omega⟩
    have h1 : ¬ (35 : Int32) ≤ nI k := by rw [show (35 : Int32) = nI 35 by decide, nI_leI (by decide) (by omega)]; omega
    rw [fX9_asNow_2, if_neg h1, chk_nI (by omega) (by decide), chk_nI (by omega) (by decide), rd_nI (by omega), wr_nI (by omega), nI_1]
    refine ih (k + 1) fuel _ (by omega) (by omega) (fun i hi => ?_)
    by_cases q : i = k
    · subst q; exact pk_us
    · rw [pk_un q]; exact he i (by omega)
theorem asNow9 (wd : Int32) (book now : Nat → Int32) : ∃ r, fX9_asNow wd book now = some (0, r) ∧ ∀ i, i < 35 → r i = book i := by
  have := asNow_run (wd := wd) (book := book) 35 0 2000 now (by omega) (by omega) (fun i hi => absurd hi (by omega))
  rw [nI_0] at this
  exact this
theorem done_run {c wd rs a : Int32} {now : Nat → Int32} : ∀ (m k fuel : Nat) (to : Nat → Int32), k + m = 35 → m < fuel → (∀ i, i < k → to i = now i) → ∃ r, fX9_done_12 c wd rs a now fuel to (nI k) = some (a, 0, wd, rs, a, r, now) ∧ ∀ i, i < 35 → r i = now i := by
  intro m
  induction m with
  | zero =>
    intro k fuel to hk hf he
    obtain ⟨fuel, rfl⟩ : ∃ q, fuel = q + 1 := ⟨fuel - 1, by omega⟩
    have : k = 35 := by omega
    subst this
    rw [fX9_done_12, if_pos (by decide)]
    exact ⟨to, rfl, he⟩
  | succ m ih =>
    intro k fuel to hk hf he
    obtain ⟨fuel, rfl⟩ : ∃ q, fuel = q + 1 := ⟨fuel - 1, by omega⟩
    have h1 : ¬ (35 : Int32) ≤ nI k := by rw [show (35 : Int32) = nI 35 by decide, nI_leI (by decide) (by omega)]; omega
    rw [fX9_done_12, if_neg h1, chk_nI (by omega) (by decide), chk_nI (by omega) (by decide), rd_nI (by omega), wr_nI (by omega), nI_1]
    refine ih (k + 1) fuel _ (by omega) (by omega) (fun i hi => ?_)
    by_cases q : i = k
    · subst q; exact pk_us
    · rw [pk_un q]; exact he i (by omega)
theorem start_RN {n_year : Int32} {n_wreck : Nat → Int32} {n_wood : Nat → Int32} {n_length : Nat → Int32} {n_left : Nat → Int32} {n_right : Nat → Int32} {n_place : Nat → Int32} {n_rings : Nat → Int32} {n_hpiece : Nat → Int32} {n_partner : Nat → Int32} {n_children : Nat → Int32} {n_count : Int32} {n_house : Nat → Int32} {n_reach : Nat → Int32} {n_sounded : Nat → Int32} {book of sight : Nat → Int32} {sights : Int32} (h : RS n_year n_wreck n_wood n_length n_left n_right n_place n_rings n_hpiece n_partner n_children n_count n_house n_reach n_sounded book of sight sights) {w6 h1 h2 h3 now : Nat → Int32} (e1 : ∀ i, i < 10 → w6 i = n_place i)
    (e2 : ∀ i, i < 8 → h1 i = n_hpiece i ∧ h2 i = n_partner i ∧ h3 i = n_children i) (e3 : ∀ i, i < 35 → now i = book i) : RN n_year w6 h1 h2 h3 now := by
  obtain ⟨⟨a1, a2, a3, -, -⟩, v1, v2, v3, -, -⟩ := h
  refine ⟨fun p hp => ?_, fun k hk => ?_, ?_, ?_⟩
  · rw [e3 p (by omega)]
    exact ⟨(e1 p hp).trans (a1 p hp).2.2.2.2.2.2, (v1 p hp).2.2.2.2.2.2⟩
  · rw [e3 (10 + k) (by omega), e3 (18 + k) (by omega), e3 (26 + k) (by omega)]
    exact ⟨(e2 k hk).1.trans (a2 k hk).1, (e2 k hk).2.1.trans (a2 k hk).2.1, (e2 k hk).2.2.trans (a2 k hk).2.2, v2 k hk⟩
  · rw [e3 34 (by omega)]; exact a3
  · rw [e3 34 (by omega)]; exact v3
theorem years_both {n_year : Int32} {n_wreck : Nat → Int32} {n_wood : Nat → Int32} {n_length : Nat → Int32} {n_left : Nat → Int32} {n_right : Nat → Int32} {n_place : Nat → Int32} {n_rings : Nat → Int32} {n_hpiece : Nat → Int32} {n_partner : Nat → Int32} {n_children : Nat → Int32} {n_count : Int32} {n_house : Nat → Int32} {n_reach : Nat → Int32} {n_sounded : Nat → Int32} {book of sight : Nat → Int32} {sights : Int32} (h : RS n_year n_wreck n_wood n_length n_left n_right n_place n_rings n_hpiece n_partner n_children n_count n_house n_reach n_sounded book of sight sights) (e_year : Int32) (e_wreck : Nat → Int32) (e_wood : Nat → Int32) (e_length : Nat → Int32) (e_left : Nat → Int32) (e_right : Nat → Int32) (e_place : Nat → Int32) (e_rings : Nat → Int32) (e_hpiece : Nat → Int32) (e_partner : Nat → Int32) (e_children : Nat → Int32) (e_count : Int32) (e_house : Nat → Int32) (e_reach : Nat → Int32) (e_sounded : Nat → Int32) (y1 y2 y3 mw mr ma : Int32) (now : Nat → Int32) {c : Nat} {signs pad : Nat → Int32} (hc : c ≤ 60) (e1 : ∀ i, i < 60 → signs i = pad i) (e2 : ∀ i, i < c → Rg (pad i) 33 126) (hok : okr pad c 0 0) :
    ∃ (a w : Nat) (wd y : Int32) (w1 w2 w3 w4 w5 pl w7 hp pa ch s1 s2 s3 now' : Nat → Int32), fX7_tell y1 y2 y3 e_year e_wreck e_wood e_length e_left e_right e_place e_rings e_hpiece e_partner e_children e_count e_house e_reach e_sounded (nI c) signs n_year n_wreck n_wood n_length n_left n_right n_place n_rings n_hpiece n_partner n_children n_count n_house n_reach n_sounded = some (nI a, nI w, wd, y, w1, w2, w3, w4, w5, pl, w7, hp, pa, ch, n_count, s1, s2, s3) ∧ a ≤ 60 ∧ w ≤ 6 ∧
      (∀ i, i < 10 → w1 i = n_wreck i ∧ w2 i = n_wood i ∧ w3 i = n_length i ∧ w4 i = n_left i ∧ w5 i = n_right i ∧ w7 i = n_rings i) ∧ (∀ i, i < 8 → s1 i = n_house i ∧ s2 i = n_reach i ∧ s3 i = n_sounded i) ∧
      ((w = 0 ∧ ∃ rs', fX9_goYears (nI c) mw mr ma book now of pad = some (-6, wd, rs', nI a, now') ∧ RN y pl hp pa ch now') ∨ (w ≠ 0 ∧ fX9_goYears (nI c) mw mr ma book now of pad = some (nI a, wd, nI w, nI a, now'))) := by
  obtain ⟨w1, w2, w3, w4, w5, w6, w7, h1, h2, h3, s1, s2, s3, b1, b2, b3, b4⟩ := become5 e_year e_wreck e_wood e_length e_left e_right e_place e_rings e_hpiece e_partner e_children e_count e_house e_reach e_sounded n_year n_wreck n_wood n_length n_left n_right n_place n_rings n_hpiece n_partner n_children n_count n_house n_reach n_sounded
  obtain ⟨now0, n1, n2⟩ := asNow9 mw book now
  have hN := start_RN h (fun i hi => (b2 i hi).2.2.2.2.2.1) b3 n2
  obtain ⟨a, w, wd, y, pl, hp, pa, ch, now', t1, t2, t3, t4⟩ := tell_run (b_year := 0) (b_place := w6) (b_hpiece := h1) (b_partner := h2) (b_children := h3) (b_wreck := w1) (b_wood := w2) (b_length := w3) (b_left := w4) (b_right := w5) (b_rings := w7) (b_count := n_count) (b_house := s1) (b_reach := s2) (b_sounded := s3) (of := of) hc (fun p hp => ((b2 p hp).1.trans (h.1.1 p hp).1)) e1 e2 c 2000 2000 0 0 0 mr 0 n_year w6 h1 h2 h3 now0 (by omega) (by omega) (by omega) (by omega) (by omega) hok hN
  rw [nI_0] at t1 t4
  refine ⟨a, w, wd, y, w1, w2, w3, w4, w5, pl, w7, hp, pa, ch, s1, s2, s3, now', ?_, t2, t3, fun i hi => ⟨(b2 i hi).1, (b2 i hi).2.1, (b2 i hi).2.2.1, (b2 i hi).2.2.2.1, (b2 i hi).2.2.2.2.1, (b2 i hi).2.2.2.2.2.2⟩, b4, ?_⟩
  · unfold fX7_tell fX7_begin
    rw [b1, Option.bind_some, Option.bind_some]
    exact t1
  · unfold fX9_goYears
    rw [n1, Option.bind_some]
    exact t4
theorem fault_c {c : Nat} {signs pad : Nat → Int32} (hc : c ≤ 60) (e1 : ∀ i, i < 60 → signs i = pad i) (e2 : ∀ i, i < c → Rg (pad i) 33 126) :
    ∃ r, fX2_firstWrong (nI c) signs = some r ∧ fX9_faultOf (nI c) pad = some r ∧ ((r = -6 ∧ okr pad c 0 0) ∨ ∃ j, j ≤ c ∧ r = nI j) := by
  obtain ⟨r, r1, r2, r3⟩ := fault_run hc e1 e2 c 2000 0 0 (by decide) (by omega) (by omega)
  rw [nI_0] at r1 r2
  refine ⟨r, r1, r2, ?_⟩
  rcases r3 with q | q
  · exact Or.inl q
  · exact Or.inr q.2
theorem core_judge {n_year : Int32} {n_wreck : Nat → Int32} {n_wood : Nat → Int32} {n_length : Nat → Int32} {n_left : Nat → Int32} {n_right : Nat → Int32} {n_place : Nat → Int32} {n_rings : Nat → Int32} {n_hpiece : Nat → Int32} {n_partner : Nat → Int32} {n_children : Nat → Int32} {n_count : Int32} {n_house : Nat → Int32} {n_reach : Nat → Int32} {n_sounded : Nat → Int32} {book of sight : Nat → Int32} {sights : Int32} {e_year : Int32} {e_wreck : Nat → Int32} {e_wood : Nat → Int32} {e_length : Nat → Int32} {e_left : Nat → Int32} {e_right : Nat → Int32} {e_place : Nat → Int32} {e_rings : Nat → Int32} {e_hpiece : Nat → Int32} {e_partner : Nat → Int32} {e_children : Nat → Int32} {e_count : Int32} {e_house : Nat → Int32} {e_reach : Nat → Int32} {e_sounded : Nat → Int32} {y1 y2 y3 mw mr ma : Int32} {now : Nat → Int32} {pc : Int32} {signs : Nat → Int32} {msigns : Int32} {pad : Nat → Int32} (x : Int32)
    (h : RS n_year n_wreck n_wood n_length n_left n_right n_place n_rings n_hpiece n_partner n_children n_count n_house n_reach n_sounded book of sight sights) (hp : RP pc signs msigns pad) :
    ∃ zx zm, fX8_judge n_year n_wreck n_wood n_length n_left n_right n_place n_rings n_hpiece n_partner n_children n_count n_house n_reach n_sounded pc signs y1 y2 y3 e_year e_wreck e_wood e_length e_left e_right e_place e_rings e_hpiece e_partner e_children e_count e_house e_reach e_sounded x = some zx ∧ fX9_judge msigns mw mr ma book now of pad x = some zm ∧ zx.1 = zm.1 := by
  obtain ⟨c, hc, rfl, rfl, e1, e2⟩ := hp
  unfold fX8_judge fX9_judge
  simp only [wi8, wi9, Option.bind_some, if10]
  by_cases c1 : 0 ≤ x ∧ x ≤ 1
  · simp only [c1, and_self, if_true]
    obtain ⟨r, r1, r2, r3⟩ := fault_c hc e1 e2
    simp only [r1, r2, Option.bind_some]
    rcases r3 with ⟨rfl, hok⟩ | ⟨j, hj, rfl⟩
    · rw [if_pos rfl, if_pos (by decide)]
      obtain ⟨a, w, wd, y, w1, w2, w3, w4, w5, pl, w7, hp, pa, ch, s1, s2, s3, now', t1, t2, t3, t4, t5, t6⟩ := years_both h e_year e_wreck e_wood e_length e_left e_right e_place e_rings e_hpiece e_partner e_children e_count e_house e_reach e_sounded y1 y2 y3 mw mr ma now hc e1 e2 hok
      simp only [t1, Option.bind_some]
      rcases t6 with ⟨rfl, rs', g1, g2⟩ | ⟨hw, g1⟩
      · simp only [g1, Option.bind_some, nI_0, if_true, show (-6 : Int32) < 0 by decide]
        exact ⟨_, _, rfl, rfl, rfl⟩
      · simp only [g1, Option.bind_some, nI_ne0 (show 0 < w by omega) (show w < 2 ^ 31 by omega), nI_pos (show a < 2 ^ 31 by omega), if_false]
        by_cases q : x = 0
        · simp only [q, if_true]
          exact ⟨_, _, rfl, rfl, rfl⟩
        · simp only [q, if_false]
          exact ⟨_, _, rfl, rfl, rfl⟩
    · have z1 : ¬ nI j = -6 := fun q => nI_pos (show j < 2 ^ 31 by omega) (by rw [q]; decide)
      simp only [z1, nI_pos (show j < 2 ^ 31 by omega), if_false]
      exact ⟨_, _, rfl, rfl, rfl⟩
  · simp only [c1, if_false]
    exact ⟨_, _, rfl, rfl, rfl⟩
theorem stand_both {n_year : Int32} {n_wreck : Nat → Int32} {n_wood : Nat → Int32} {n_length : Nat → Int32} {n_left : Nat → Int32} {n_right : Nat → Int32} {n_place : Nat → Int32} {n_rings : Nat → Int32} {n_hpiece : Nat → Int32} {n_partner : Nat → Int32} {n_children : Nat → Int32} {n_count : Int32} {n_house : Nat → Int32} {n_reach : Nat → Int32} {n_sounded : Nat → Int32} {book of sight : Nat → Int32} {sights : Int32} (h : RS n_year n_wreck n_wood n_length n_left n_right n_place n_rings n_hpiece n_partner n_children n_count n_house n_reach n_sounded book of sight sights) (e_year : Int32) (e_wreck : Nat → Int32) (e_wood : Nat → Int32) (e_length : Nat → Int32) (e_left : Nat → Int32) (e_right : Nat → Int32) (e_place : Nat → Int32) (e_rings : Nat → Int32) (e_hpiece : Nat → Int32) (e_partner : Nat → Int32) (e_children : Nat → Int32) (e_count : Int32) (e_house : Nat → Int32) (e_reach : Nat → Int32) (e_sounded : Nat → Int32) (y1 y2 y3 mw mr ma : Int32) (now : Nat → Int32) {c : Nat} {signs pad : Nat → Int32} (hc : c ≤ 60) (e1 : ∀ i, i < 60 → signs i = pad i) (e2 : ∀ i, i < c → Rg (pad i) 33 126) :
    ∃ z zm, fX8_yearsStand n_year n_wreck n_wood n_length n_left n_right n_place n_rings n_hpiece n_partner n_children n_count n_house n_reach n_sounded (nI c) signs y1 y2 y3 e_year e_wreck e_wood e_length e_left e_right e_place e_rings e_hpiece e_partner e_children e_count e_house e_reach e_sounded = some z ∧ fX9_barOfYears (nI c) mw mr ma book now of pad = some zm ∧
      ((z.1 = 0 ∧ zm.1 = -5) ∨ ∃ (a : Nat) (wd y rs' : Int32) (w1 w2 w3 w4 w5 pl w7 hp pa ch s1 s2 s3 now' : Nat → Int32), z = (1, nI a, 0, wd, y, w1, w2, w3, w4, w5, pl, w7, hp, pa, ch, n_count, s1, s2, s3) ∧ zm = (0, wd, rs', nI a, now') ∧
        (∀ i, i < 10 → w1 i = n_wreck i ∧ w2 i = n_wood i ∧ w3 i = n_length i ∧ w4 i = n_left i ∧ w5 i = n_right i ∧ w7 i = n_rings i) ∧ (∀ i, i < 8 → s1 i = n_house i ∧ s2 i = n_reach i ∧ s3 i = n_sounded i) ∧ RN y pl hp pa ch now') := by
  unfold fX8_yearsStand fX9_barOfYears
  obtain ⟨r, r1, r2, r3⟩ := fault_c hc e1 e2
  simp only [r1, r2, Option.bind_some]
  rcases r3 with ⟨rfl, hok⟩ | ⟨j, hj, rfl⟩
  · rw [if_pos rfl, if_neg (by decide)]
    obtain ⟨a, w, wd, y, w1, w2, w3, w4, w5, pl, w7, hp, pa, ch, s1, s2, s3, now', t1, t2, t3, t4, t5, t6⟩ := years_both h e_year e_wreck e_wood e_length e_left e_right e_place e_rings e_hpiece e_partner e_children e_count e_house e_reach e_sounded y1 y2 y3 mw mr ma now hc e1 e2 hok
    simp only [t1, Option.bind_some]
    rcases t6 with ⟨rfl, rs', g1, g2⟩ | ⟨hw, g1⟩
    · simp only [g1, Option.bind_some, nI_0, if_true, show (-6 : Int32) < 0 by decide]
      exact ⟨_, _, rfl, rfl, Or.inr ⟨a, wd, y, rs', w1, w2, w3, w4, w5, pl, w7, hp, pa, ch, s1, s2, s3, now', rfl, rfl, t4, t5, g2⟩⟩
    · simp only [g1, Option.bind_some, nI_ne0 (show 0 < w by omega) (show w < 2 ^ 31 by omega), nI_pos (show a < 2 ^ 31 by omega), if_false]
      exact ⟨_, _, rfl, rfl, Or.inl ⟨rfl, rfl⟩⟩
  · have z1 : ¬ nI j = -6 := fun q => nI_pos (show j < 2 ^ 31 by omega) (by rw [q]; decide)
    simp only [z1, nI_pos' (show j < 2 ^ 31 by omega), if_false, if_true]
    exact ⟨_, _, rfl, rfl, Or.inl ⟨rfl, rfl⟩⟩
theorem core_where {n_year : Int32} {n_wreck : Nat → Int32} {n_wood : Nat → Int32} {n_length : Nat → Int32} {n_left : Nat → Int32} {n_right : Nat → Int32} {n_place : Nat → Int32} {n_rings : Nat → Int32} {n_hpiece : Nat → Int32} {n_partner : Nat → Int32} {n_children : Nat → Int32} {n_count : Int32} {n_house : Nat → Int32} {n_reach : Nat → Int32} {n_sounded : Nat → Int32} {book of sight : Nat → Int32} {sights : Int32} {e_year : Int32} {e_wreck : Nat → Int32} {e_wood : Nat → Int32} {e_length : Nat → Int32} {e_left : Nat → Int32} {e_right : Nat → Int32} {e_place : Nat → Int32} {e_rings : Nat → Int32} {e_hpiece : Nat → Int32} {e_partner : Nat → Int32} {e_children : Nat → Int32} {e_count : Int32} {e_house : Nat → Int32} {e_reach : Nat → Int32} {e_sounded : Nat → Int32} {y1 y2 y3 mw mr ma : Int32} {now : Nat → Int32} {pc : Int32} {signs : Nat → Int32} {msigns : Int32} {pad : Nat → Int32} (x : Int32)
    (h : RS n_year n_wreck n_wood n_length n_left n_right n_place n_rings n_hpiece n_partner n_children n_count n_house n_reach n_sounded book of sight sights) (hp : RP pc signs msigns pad) :
    ∃ zx zm, fX8_where n_year n_wreck n_wood n_length n_left n_right n_place n_rings n_hpiece n_partner n_children n_count n_house n_reach n_sounded pc signs y1 y2 y3 e_year e_wreck e_wood e_length e_left e_right e_place e_rings e_hpiece e_partner e_children e_count e_house e_reach e_sounded x = some zx ∧ fX9_where msigns mw mr ma book now of pad x = some zm ∧ zx.1 = zm.1 := by
  obtain ⟨c, hc, rfl, rfl, e1, e2⟩ := hp
  unfold fX8_where fX9_where
  simp only [ip8, ip9, Option.bind_some, if10]
  by_cases c1 : 0 ≤ x ∧ x ≤ 9
  · obtain ⟨p, -, hp, rfl⟩ := rg_of (a := 0) (b := 9) rfl rfl c1.1 c1.2
    simp only [c1, and_self, if_true]
    obtain ⟨z, zm, s1, s2, s3⟩ := stand_both h e_year e_wreck e_wood e_length e_left e_right e_place e_rings e_hpiece e_partner e_children e_count e_house e_reach e_sounded y1 y2 y3 mw mr ma now hc e1 e2
    simp only [s1, s2, Option.bind_some]
    rcases s3 with ⟨q1, q2⟩ | ⟨a, wd, y, rs', w1, w2, w3, w4, w5, pl, w7, hp', pa, ch, s1, s2, s3, now', rfl, rfl, t4, t5, g2⟩
    · simp only [q1, q2, if_true, show ¬ (0 : Int32) ≤ -5 by decide, if_false]
      exact ⟨_, _, rfl, rfl, rfl⟩
    · simp only [show ¬ (1 : Int32) = 0 by decide, if_false, show (0 : Int32) ≤ 0 by decide, if_true, at8 (show p < 10 by omega) (by decide : 10 < 2 ^ 31), chk_nI (show p < 35 by omega) (by decide : 35 < 2 ^ 31), rd, nI_clamp (show p < 2 ^ 31 by omega), Option.bind_some]
      exact ⟨_, _, rfl, rfl, (g2.1 p (by omega)).1⟩
  · simp only [c1, if_false]
    exact ⟨_, _, rfl, rfl, rfl⟩
theorem core_behind {n_year : Int32} {n_wreck : Nat → Int32} {n_wood : Nat → Int32} {n_length : Nat → Int32} {n_left : Nat → Int32} {n_right : Nat → Int32} {n_place : Nat → Int32} {n_rings : Nat → Int32} {n_hpiece : Nat → Int32} {n_partner : Nat → Int32} {n_children : Nat → Int32} {n_count : Int32} {n_house : Nat → Int32} {n_reach : Nat → Int32} {n_sounded : Nat → Int32} {book of sight : Nat → Int32} {sights : Int32} {e_year : Int32} {e_wreck : Nat → Int32} {e_wood : Nat → Int32} {e_length : Nat → Int32} {e_left : Nat → Int32} {e_right : Nat → Int32} {e_place : Nat → Int32} {e_rings : Nat → Int32} {e_hpiece : Nat → Int32} {e_partner : Nat → Int32} {e_children : Nat → Int32} {e_count : Int32} {e_house : Nat → Int32} {e_reach : Nat → Int32} {e_sounded : Nat → Int32} {y1 y2 y3 mw mr ma : Int32} {now : Nat → Int32} {pc : Int32} {signs : Nat → Int32} {msigns : Int32} {pad : Nat → Int32} (x x2 : Int32)
    (h : RS n_year n_wreck n_wood n_length n_left n_right n_place n_rings n_hpiece n_partner n_children n_count n_house n_reach n_sounded book of sight sights) (hp : RP pc signs msigns pad) :
    ∃ zx zm, fX8_behind n_year n_wreck n_wood n_length n_left n_right n_place n_rings n_hpiece n_partner n_children n_count n_house n_reach n_sounded pc signs y1 y2 y3 e_year e_wreck e_wood e_length e_left e_right e_place e_rings e_hpiece e_partner e_children e_count e_house e_reach e_sounded x x2 = some zx ∧ fX9_behind msigns mw mr ma book now of pad x x2 = some zm ∧ zx.1 = zm.1 := by
  obtain ⟨c, hc, rfl, rfl, e1, e2⟩ := hp
  unfold fX8_behind fX9_behind
  simp only [ih8, ih9, wi8, wi9, Option.bind_some, if10]
  by_cases c1 : 0 ≤ x ∧ x ≤ 7
  · by_cases c2 : 0 ≤ x2 ∧ x2 ≤ 2
    · obtain ⟨p, -, hp, rfl⟩ := rg_of (a := 0) (b := 7) rfl rfl c1.1 c1.2
      obtain ⟨w, -, hw, rfl⟩ := rg_of (a := 0) (b := 2) rfl rfl c2.1 c2.2
      simp only [c1, c2, and_self, if_true]
      obtain ⟨z, zm, s1, s2, s3⟩ := stand_both h e_year e_wreck e_wood e_length e_left e_right e_place e_rings e_hpiece e_partner e_children e_count e_house e_reach e_sounded y1 y2 y3 mw mr ma now hc e1 e2
      simp only [s1, s2, Option.bind_some]
      rcases s3 with ⟨q1, q2⟩ | ⟨a, wd, y, rs', w1, w2, w3, w4, w5, pl, w7, hp', pa, ch, s1, s2, s3, now', rfl, rfl, t4, t5, g2⟩
      · simp only [q1, q2, if_true, show ¬ (0 : Int32) ≤ -5 by decide, if_false]
        exact ⟨_, _, rfl, rfl, rfl⟩
      · have a1 : (10 : Int32) + 8 * nI w + nI p = nI (10 + 8 * w + p) := by rw [k10, k8, pk_mul, l_add, l_add]
        have q0 : (nI w = (0 : Int32)) ↔ w = 0 := by rw [← nI_0, nI_eq (by omega) (by decide)]
        have q1 : (nI w = (1 : Int32)) ↔ w = 1 := by rw [k1, nI_eq (by omega) (by decide)]
        simp only [show ¬ (1 : Int32) = 0 by decide, if_false, show (0 : Int32) ≤ 0 by decide, if_true, a1, chk_nI (show 10 + 8 * w + p < 35 by omega) (by decide : 35 < 2 ^ 31), rd, nI_clamp (show 10 + 8 * w + p < 2 ^ 31 by omega)]
        unfold fX0_detail
        simp only [q0, q1, at8 (show p < 8 by omega) (by decide : 8 < 2 ^ 31), Option.bind_some]
        have gp := g2.2.1 p (by omega)
        rcases (show w = 0 ∨ w = 1 ∨ w = 2 by omega) with rfl | rfl | rfl
        · exact ⟨_, _, rfl, rfl, gp.1⟩
        · exact ⟨_, _, rfl, rfl, gp.2.1⟩
        · exact ⟨_, _, rfl, rfl, gp.2.2.1⟩
    · simp only [c1, c2, and_self, if_true, if_false]
      exact ⟨_, _, rfl, rfl, rfl⟩
  · simp only [c1, if_false]
    exact ⟨_, _, rfl, rfl, rfl⟩
theorem then_run {wd rs a x1 : Int32} {now pl : Nat → Int32} (he : ∀ p, p < 10 → pl p = now p) : ∀ (m n n2 k : Nat) (b : Int32), k + m = 10 → m < n → m < n2 →
    ∃ r, fX3_bitsAt_4 pl 1 n b (nI k) = some r ∧ fX9_then_26 wd rs a now x1 n2 b (nI k) = some (if x1 = 0 then r else if x1 = 1 then wd else now 34, wd, rs, a, now) := by
  intro m
  induction m with
  | zero =>
    intro n n2 k b hk hn hn2
    obtain ⟨n, rfl⟩ : ∃ q, n = q + 1 := ⟨n - 1, by omega⟩
    obtain ⟨n2, rfl⟩ : ∃ q, n2 = q + 1 := ⟨n2 - 1, by omega⟩
    have : k = 10 := by omega
    subst this
    rw [fX3_bitsAt_4, fX9_then_26, if_pos (by decide), if_pos (by decide)]
    refine ⟨b, rfl, ?_⟩
    by_cases q : x1 = 0
    · simp only [q, if_true]
    · by_cases q2 : x1 = 1
      · simp only [q2, if_true, show ¬ (1 : Int32) = 0 by decide, if_false]
      · simp only [q, q2, if_false, k34, chk_nI (show 34 < 35 by omega) (by decide : 35 < 2 ^ 31), rd, nI_clamp (show 34 < 2 ^ 31 by omega)]
  | succ m ih =>
    intro n n2 k b hk hn hn2
    obtain ⟨n, rfl⟩ : ∃ q, n = q + 1 := ⟨n - 1, by omega⟩
    obtain ⟨n2, rfl⟩ : ∃ q, n2 = q + 1 := ⟨n2 - 1, by omega⟩
    have h1 : ¬ (10 : Int32) ≤ nI k := by rw [k10, nI_leI (by decide) (by omega)]; omega
    rw [fX3_bitsAt_4, fX9_then_26, if_neg h1, if_neg h1]
    simp only [chk_nI (show k < 10 by omega) (by decide : 10 < 2 ^ 31), chk_nI (show k < 35 by omega) (by decide : 35 < 2 ^ 31), rd, nI_clamp (show k < 2 ^ 31 by omega), he k (by omega), nI_1, Int32.or_zero]
    by_cases q : now k = 1
    · simp only [q, if_true]
      exact ih n n2 (k + 1) _ (by omega) (by omega) (by omega)
    · simp only [q, if_false]
      exact ih n n2 (k + 1) _ (by omega) (by omega) (by omega)
theorem core_then {n_year : Int32} {n_wreck : Nat → Int32} {n_wood : Nat → Int32} {n_length : Nat → Int32} {n_left : Nat → Int32} {n_right : Nat → Int32} {n_place : Nat → Int32} {n_rings : Nat → Int32} {n_hpiece : Nat → Int32} {n_partner : Nat → Int32} {n_children : Nat → Int32} {n_count : Int32} {n_house : Nat → Int32} {n_reach : Nat → Int32} {n_sounded : Nat → Int32} {book of sight : Nat → Int32} {sights : Int32} {e_year : Int32} {e_wreck : Nat → Int32} {e_wood : Nat → Int32} {e_length : Nat → Int32} {e_left : Nat → Int32} {e_right : Nat → Int32} {e_place : Nat → Int32} {e_rings : Nat → Int32} {e_hpiece : Nat → Int32} {e_partner : Nat → Int32} {e_children : Nat → Int32} {e_count : Int32} {e_house : Nat → Int32} {e_reach : Nat → Int32} {e_sounded : Nat → Int32} {y1 y2 y3 mw mr ma : Int32} {now : Nat → Int32} {pc : Int32} {signs : Nat → Int32} {msigns : Int32} {pad : Nat → Int32} (x : Int32)
    (h : RS n_year n_wreck n_wood n_length n_left n_right n_place n_rings n_hpiece n_partner n_children n_count n_house n_reach n_sounded book of sight sights) (hp : RP pc signs msigns pad) :
    ∃ zx zm, fX8_then n_year n_wreck n_wood n_length n_left n_right n_place n_rings n_hpiece n_partner n_children n_count n_house n_reach n_sounded pc signs y1 y2 y3 e_year e_wreck e_wood e_length e_left e_right e_place e_rings e_hpiece e_partner e_children e_count e_house e_reach e_sounded x = some zx ∧ fX9_then msigns mw mr ma book now of pad x = some zm ∧ zx.1 = zm.1 := by
  obtain ⟨c, hc, rfl, rfl, e1, e2⟩ := hp
  unfold fX8_then fX9_then
  simp only [wi8, wi9, Option.bind_some, if10]
  by_cases c1 : 0 ≤ x ∧ x ≤ 2
  · simp only [c1, and_self, if_true]
    obtain ⟨z, zm, s1, s2, s3⟩ := stand_both h e_year e_wreck e_wood e_length e_left e_right e_place e_rings e_hpiece e_partner e_children e_count e_house e_reach e_sounded y1 y2 y3 mw mr ma now hc e1 e2
    simp only [s1, s2, Option.bind_some]
    rcases s3 with ⟨q1, q2⟩ | ⟨a, wd, y, rs', w1, w2, w3, w4, w5, pl, w7, hp', pa, ch, s1, s2, s3, now', rfl, rfl, t4, t5, g2⟩
    · simp only [q1, q2, if_true, show ¬ (0 : Int32) ≤ -5 by decide, if_false]
      exact ⟨_, _, rfl, rfl, rfl⟩
    · obtain ⟨r, r1, r2⟩ := then_run (wd := wd) (rs := rs') (a := nI a) (x1 := x) (fun p hp => (g2.1 p hp).1) 10 2000 2000 0 0 (by omega) (by omega) (by omega)
      rw [nI_0] at r1 r2
      unfold fX3_bitsAt
      simp only [show ¬ (1 : Int32) = 0 by decide, if_false, show (0 : Int32) ≤ 0 by decide, if_true, r1, r2, Option.bind_some]
      by_cases q : x = 0
      · simp only [q, if_true]
        exact ⟨_, _, rfl, rfl, rfl⟩
      · by_cases q2 : x = 1
        · simp only [q2, if_true, show ¬ (1 : Int32) = 0 by decide, if_false]
          exact ⟨_, _, rfl, rfl, rfl⟩
        · simp only [q, q2, if_false]
          exact ⟨_, _, rfl, rfl, g2.2.2.1⟩
  · simp only [c1, if_false]
    exact ⟨_, _, rfl, rfl, rfl⟩
theorem core_done {n_year : Int32} {n_wreck : Nat → Int32} {n_wood : Nat → Int32} {n_length : Nat → Int32} {n_left : Nat → Int32} {n_right : Nat → Int32} {n_place : Nat → Int32} {n_rings : Nat → Int32} {n_hpiece : Nat → Int32} {n_partner : Nat → Int32} {n_children : Nat → Int32} {n_count : Int32} {n_house : Nat → Int32} {n_reach : Nat → Int32} {n_sounded : Nat → Int32} {book of sight : Nat → Int32} {sights : Int32} {e_year : Int32} {e_wreck : Nat → Int32} {e_wood : Nat → Int32} {e_length : Nat → Int32} {e_left : Nat → Int32} {e_right : Nat → Int32} {e_place : Nat → Int32} {e_rings : Nat → Int32} {e_hpiece : Nat → Int32} {e_partner : Nat → Int32} {e_children : Nat → Int32} {e_count : Int32} {e_house : Nat → Int32} {e_reach : Nat → Int32} {e_sounded : Nat → Int32} {y1 y2 y3 mw mr ma : Int32} {now : Nat → Int32} {pc : Int32} {signs : Nat → Int32} {msigns : Int32} {pad : Nat → Int32}
    (h : RS n_year n_wreck n_wood n_length n_left n_right n_place n_rings n_hpiece n_partner n_children n_count n_house n_reach n_sounded book of sight sights) (hp : RP pc signs msigns pad) :
    ∃ zx zm, fX8_done n_year n_wreck n_wood n_length n_left n_right n_place n_rings n_hpiece n_partner n_children n_count n_house n_reach n_sounded pc signs y1 y2 y3 e_year e_wreck e_wood e_length e_left e_right e_place e_rings e_hpiece e_partner e_children e_count e_house e_reach e_sounded = some zx ∧ fX9_done msigns mw mr ma book now of pad = some zm ∧ zx.1 = zm.1 ∧ RS zx.2.1 zx.2.2.1 zx.2.2.2.1 zx.2.2.2.2.1 zx.2.2.2.2.2.1 zx.2.2.2.2.2.2.1 zx.2.2.2.2.2.2.2.1 zx.2.2.2.2.2.2.2.2.1 zx.2.2.2.2.2.2.2.2.2.1 zx.2.2.2.2.2.2.2.2.2.2.1 zx.2.2.2.2.2.2.2.2.2.2.2.1 zx.2.2.2.2.2.2.2.2.2.2.2.2.1 zx.2.2.2.2.2.2.2.2.2.2.2.2.2.1 zx.2.2.2.2.2.2.2.2.2.2.2.2.2.2.1 zx.2.2.2.2.2.2.2.2.2.2.2.2.2.2.2.1 zm.2.2.2.2.2.1 of sight sights ∧ RP zx.2.2.2.2.2.2.2.2.2.2.2.2.2.2.2.2.1 signs zm.2.1 pad := by
  obtain ⟨c, hc, rfl, rfl, e1, e2⟩ := hp
  unfold fX8_done fX9_done
  obtain ⟨z, zm, s1, s2, s3⟩ := stand_both h e_year e_wreck e_wood e_length e_left e_right e_place e_rings e_hpiece e_partner e_children e_count e_house e_reach e_sounded y1 y2 y3 mw mr ma now hc e1 e2
  simp only [s1, s2, Option.bind_some]
  rcases s3 with ⟨q1, q2⟩ | ⟨a, wd, y, rs', w1, w2, w3, w4, w5, pl, w7, hp', pa, ch, p1, p2, p3, now', rfl, rfl, t4, t5, g2⟩
  · simp only [q1, q2, if_true, show ¬ (0 : Int32) ≤ -5 by decide, if_false]
    exact ⟨_, _, rfl, rfl, rfl, h, c, hc, rfl, rfl, e1, e2⟩
  · obtain ⟨x1, x2, x3, x4, x5, x6, x7, g1, g2', g3, u1, u2, u3, b1, b2, b3, b4⟩ := become5 n_year n_wreck n_wood n_length n_left n_right n_place n_rings n_hpiece n_partner n_children n_count n_house n_reach n_sounded y w1 w2 w3 w4 w5 pl w7 hp' pa ch n_count p1 p2 p3
    obtain ⟨book', d1, d2⟩ := done_run (c := nI c) (wd := wd) (rs := rs') (a := nI a) (now := now') 35 0 2000 book (by omega) (by omega) (fun i hi => absurd hi (by omega))
    rw [nI_0] at d1
    simp only [show ¬ (1 : Int32) = 0 by decide, if_false, show (0 : Int32) ≤ 0 by decide, if_true, b1, d1, Option.bind_some]
    refine ⟨_, _, rfl, rfl, rfl, ?_, 0, by omega, nI_0.symm, nI_0.symm, e1, fun i hi => absurd hi (by omega)⟩
    obtain ⟨⟨a1, a2, a3, a4, a5⟩, v1, v2, v3, v4, v5⟩ := h
    refine ⟨⟨fun p hp => ?_, fun k hk => ?_, ?_, a4, fun i hi => ?_⟩, fun p hp => ?_, fun k hk => ?_, ?_, v4, v5⟩
    · have := a1 p hp
      have := b2 p hp
      have := t4 p hp
      have := d2 p (by omega)
      have := (g2.1 p hp).1
      grind
    · have := b3 k hk
      have := g2.2.1 k hk
      have := d2 (10 + k) (by omega)
      have := d2 (18 + k) (by omega)
      have := d2 (26 + k) (by omega)
      grind
    · exact g2.2.2.1.trans (d2 34 (by omega)).symm
    · have := a5 i hi
      have := b4 i hi
      have := t5 i hi
      grind
    · have := v1 p hp
      have := d2 p (by omega)
      have := (g2.1 p hp).2
      grind
    · have := g2.2.1 k hk
      have := d2 (10 + k) (by omega)
      have := d2 (18 + k) (by omega)
      have := d2 (26 + k) (by omega)
      grind
    · show Rg (book' 34) 0 99
      rw [d2 34 (by omega)]
      exact g2.2.2.2
