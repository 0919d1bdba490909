/-! MATCH: the first such way -/
def sf (book of twos : Nat → Int32) (L R k g : Nat) : Option Int32 :=
  if R.testBit g = true ∧ mw book of k g = true ∧ (twos (dl R g)).toNatClampNeg + 1 = (twos L).toNatClampNeg then some (nI g) else none
theorem settle8 {book of might most twos mate : Nat → Int32} {L k : Nat} (hL : L < 256) (hk : k < 8) (h1 : L.testBit k = true) (h2 : ∀ j, j < k → L.testBit j = false) (hM : MB book of might k) (hT : TB book of 256 most twos) :
    ∀ m n g, g + m = 8 → m < n → fX1_settle_9 might most mate (nI L) (nI k) (nI (dl L k)) n (nI g) = match fo (sf book of twos L (dl L k) k) m g with
      | some x => some (nI (dl (dl L k) x.toNatClampNeg), upd (upd mate k x) x.toNatClampNeg (nI k))
      | none => some (nI (dl L k), mate) := by
  have hlt := dl_lt (show L < 2 ^ 32 by omega) h1
  obtain ⟨u1, ⟨u, -, u2, u3⟩, u4⟩ := hT L hL
  intro m
  induction m with
  | zero =>
    intro n g hg hn
    obtain ⟨n, rfl⟩ : ∃ q, n = q + 1 := ⟨n - 1, by omega⟩
    have : g = 8 := by omega
    subst this
    rw [fX1_settle_9, if_pos (by decide)]
    rfl
  | succ m ih =>
    intro n g hg hn
    obtain ⟨n, rfl⟩ : ∃ q, n = q + 1 := ⟨n - 1, by omega⟩
    have hg8 : g < 8 := by omega
    have q1 : ¬ (8 : Int32) ≤ nI g := by rw [k8, nI_leI (by decide) (by omega)]; omega
    obtain ⟨b, b1, b2, b3⟩ := hM
    have hand : dl L k &&& b ≤ dl L k := Nat.and_le_left
    rw [fX1_settle_9, if_neg q1, at8 hk (by decide), Option.bind_some, b2, nx_and, has8 (by omega) (by omega), Option.bind_some, if10, Nat.testBit_and, b3 g hg8, fo]
    by_cases c : (dl L k).testBit g = true
    · by_cases c2 : mw book of k g = true
      · have hlt2 := dl_lt (show dl L k < 2 ^ 32 by omega) c
        obtain ⟨t1, ⟨t, -, t2, t3⟩, -⟩ := hT (dl (dl L k) g) (by omega)
        have o := u4 k hk h1 h2 g hg8 c c2
        rw [t3, u3, nI_clamp (by omega), nI_clamp (by omega)] at o
        rw [if_pos (by rw [c, c2]; rfl), sh1 g (by omega), nx_xor, xor_dl (by omega) c, at8 (by omega) (by decide), Option.bind_some, at8 (by omega) (by decide), Option.bind_some, t1, t3, u1, u3, show (1 : Int32) + nI t = nI (t + 1) by rw [Int32.add_comm]; exact nI_1 t]
        by_cases c3 : t + 1 = u
        · have e : sf book of twos L (dl L k) k g = some (nI g) := by
            unfold sf
            rw [if_pos ⟨c, c2, by rw [t3, u3, nI_clamp (by omega), nI_clamp (by omega)]; exact c3⟩]
          rw [if_pos (nI_le (by omega) (by omega)), put8 hk (by decide), Option.bind_some, put8 hg8 (by decide), Option.bind_some, e]
          simp only [nI_clamp (show g < 2 ^ 31 by omega)]
        · have e : sf book of twos L (dl L k) k g = none := by
            unfold sf
            rw [if_neg]
            rintro ⟨-, -, q⟩
            rw [t3, u3, nI_clamp (by omega), nI_clamp (by omega)] at q
            exact c3 q
          rw [if_neg (nI_ge (by omega) (by omega)), e, nI_1]
          exact ih n (g + 1) (by omega) (by omega)
      · have e : sf book of twos L (dl L k) k g = none := by
          unfold sf
          rw [if_neg (fun q => c2 q.2.1)]
        rw [if_neg (by rw [c]; simpa using c2), e, nI_1]
        exact ih n (g + 1) (by omega) (by omega)
    · have e : sf book of twos L (dl L k) k g = none := by
        unfold sf
        rw [if_neg (fun q => c q.1)]
      rw [if_neg (by simp [c]), e, nI_1]
      exact ih n (g + 1) (by omega) (by omega)
theorem pick9 {book of most twos : Nat → Int32} {x1 x3 : Int32} {K : Int32 → Int32 → Int32 → Option (Int32 × (Nat → Int32))} {L k : Nat} (hb : RB book) (hL : L < 256) (hk : k < 8) (h1 : L.testBit k = true) (hT : TB book of 256 most twos) :
    ∀ m n v, m + (k + 1) ≤ 8 → m < n → fX9_match_73 K book of twos x1 (nI L) x3 (nI k) (nI (dl L k)) n v (nI (k + m)) =
      (fun w => if nI k = x1 then fX9_match_176 K book of twos x1 (nI k) (nI (dl L k)) w w else if w = x1 then fX9_match_176 K book of twos x1 (nI k) (nI (dl L k)) w (nI k) else fX9_match_176 K book of twos x1 (nI k) (nI (dl L k)) w x3) ((fo (sf book of twos L (dl L k) k) m (k + 1)).getD v) := by
  have hlt := dl_lt (show L < 2 ^ 32 by omega) h1
  obtain ⟨u1, ⟨u, -, u2, u3⟩, u4⟩ := hT L hL
  intro m
  induction m with
  | zero =>
    intro n v hm hn
    obtain ⟨n, rfl⟩ : ∃ q, n = q + 1 := ⟨n - 1, by omega⟩
    rw [fX9_match_73, Nat.add_zero, if_pos (nI_le (Nat.le_refl k) (by omega))]
    rfl
  | succ m ih =>
    intro n v hm hn
    obtain ⟨n, rfl⟩ : ∃ q, n = q + 1 := ⟨n - 1, by omega⟩
    have hg8 : k + 1 + m < 8 := by omega
    rw [show k + (m + 1) = k + 1 + m by omega, fX9_match_73, if_neg (nI_ge (by omega) (by omega)), has9 (by omega) (by omega), Option.bind_some, if10, fo_snoc, mw9 hb hk hg8, Option.bind_some, if10]
    unfold fX9_match_131
    rw [if_pos rfl, if_neg (show ¬ (1 : Int32) = 0 by decide), show k + 1 + m = (k + m) + 1 by omega, pk_m1]
    by_cases c : (dl L k).testBit (k + m + 1) = true
    · by_cases c2 : mw book of k (k + m + 1) = true
      · have hlt2 := dl_lt (show dl L k < 2 ^ 32 by omega) c
        obtain ⟨t1, ⟨t, -, t2, t3⟩, -⟩ := hT (dl (dl L k) (k + m + 1)) (by omega)
        simp only [bnd]
        rw [if_pos c, if_pos c2, dl_i _ (by omega), chk_nI (by omega) (by decide), chk_nI (by omega) (by decide), rd_nI (by omega), rd_nI (by omega), t3, u3, nI_1]
        by_cases c3 : t + 1 = u
        · have e : sf book of twos L (dl L k) k (k + m + 1) = some (nI (k + m + 1)) := by
            unfold sf
            rw [if_pos ⟨c, c2, by rw [t3, u3, nI_clamp (by omega), nI_clamp (by omega)]; exact c3⟩]
          rw [if_pos (show nI (t + 1) = nI u by rw [c3]), e]
          exact ih n _ (by omega) (by omega)
        · have e : sf book of twos L (dl L k) k (k + m + 1) = none := by
            unfold sf
            rw [if_neg]
            rintro ⟨-, -, q⟩
            rw [t3, u3, nI_clamp (by omega), nI_clamp (by omega)] at q
            exact c3 q
          rw [if_neg (fun q => c3 ((nI_eq (by omega) (by omega)).mp q)), e]
          exact ih n _ (by omega) (by omega)
      · have e : sf book of twos L (dl L k) k (k + m + 1) = none := by
          unfold sf
          rw [if_neg (fun q => c2 q.2.1)]
        rw [if_pos c, if_neg c2, e]
        exact ih n _ (by omega) (by omega)
    · have e : sf book of twos L (dl L k) k (k + m + 1) = none := by
        unfold sf
        rw [if_neg (fun q => c q.1)]
      rw [if_neg c, e]
      exact ih n _ (by omega) (by omega)
theorem way_run {book of might most twos : Nat → Int32} {cnt : Int32} {hs : Nat} (hs8 : hs < 8) (hb : RB book) (hM : ∀ h, h < 8 → MB book of might h) (hT : TB book of 256 most twos) :
    ∀ m n n2 k L (mate : Nat → Int32) (found : Int32), k + m = 8 → m < n → m < n2 → L < 256 → (∀ j, j < k → L.testBit j = false) → (∀ j, j < 8 → L.testBit j = true → mate j = -6) → mate hs = found →
    ∃ mate', fX1_find_118 cnt might most n mate (nI L) (nI k) = some (cnt, might, most, mate') ∧ fX9_match_39 book of twos (nI hs) n2 (nI L) found (nI k) = some (mate' hs, twos) := by
  intro m
  induction m with
  | zero =>
    intro n n2 k L mate found hk hn hn2 hL h2 h3 h4
    obtain ⟨n, rfl⟩ : ∃ q, n = q + 1 := ⟨n - 1, by omega⟩
    obtain ⟨n2, rfl⟩ : ∃ q, n2 = q + 1 := ⟨n2 - 1, by omega⟩
    have : k = 8 := by omega
    subst this
    rw [fX1_find_118, fX9_match_39, if_pos (by decide), if_pos (by decide)]
    exact ⟨mate, rfl, by rw [h4]⟩
  | succ m ih =>
    intro n n2 k L mate found hk hn hn2 hL h2 h3 h4
    obtain ⟨n, rfl⟩ : ∃ q, n = q + 1 := ⟨n - 1, by omega⟩
    obtain ⟨n2, rfl⟩ : ∃ q, n2 = q + 1 := ⟨n2 - 1, by omega⟩
    have hk8 : k < 8 := by omega
    have q1 : ¬ (8 : Int32) ≤ nI k := by rw [k8, nI_leI (by decide) (by omega)]; omega
    rw [fX1_find_118, fX9_match_39, if_neg q1, if_neg q1, has8 (by omega) (by omega), has9 (by omega) (by omega), Option.bind_some, Option.bind_some, if10, if10]
    by_cases h1 : L.testBit k = true
    · have hlt := dl_lt (show L < 2 ^ 32 by omega) h1
      have hz : ∀ j, j ≤ k → (dl L k).testBit j = false := by
        intro j hj
        rw [dl_bit (by omega)]
        by_cases q : k = j
        · simp [q]
        · rw [h2 j (by omega)]; rfl
      have s8 := settle8 (mate := mate) hL hk8 h1 h2 (hM k hk8) hT 8 2000 0 (by omega) (by omega)
      have p9 := pick9 (x1 := nI hs) (x3 := found) (K := fun y0 y1 y2 => fX9_match_39 book of twos (nI hs) n2 y0 y1 y2) hb hL hk8 h1 hT (7 - k) 2000 (-6) (by omega) (by omega)
      rw [show k + (7 - k) = 7 by omega, show nI 7 = (7 : Int32) by decide] at p9
      rw [nI_0, show 8 = (k + 1) + (7 - k) by omega, fo_skip _ (k + 1) (7 - k) 0 (fun i _ hi => by unfold sf; rw [if_neg]; rintro ⟨q, -⟩; rw [hz i (by omega)] at q; exact absurd q (by decide)), Nat.zero_add] at s8
      rw [if_pos h1, if_pos h1, dl_i L (by omega), p9]
      unfold fX1_settle
      rw [sh1 k (by omega), nx_xor, xor_dl (by omega) h1, s8]
      simp only []
      unfold fX9_match_176
      cases e : fo (sf book of twos L (dl L k) k) (7 - k) (k + 1) with
      | none =>
        simp only [Option.getD_none, Option.bind_some, show ¬ (0 : Int32) ≤ -6 by decide, if_false, nI_1]
        have e6 : ¬ (-6 : Int32) = nI hs := fun q => nI_pos (show hs < 2 ^ 31 by omega) (by rw [← q]; decide)
        have hf : (if nI k = nI hs then fX9_match_39 book of twos (nI hs) n2 (nI (dl L k)) (-6) (nI (k + 1)) else if (-6 : Int32) = nI hs then fX9_match_39 book of twos (nI hs) n2 (nI (dl L k)) (nI k) (nI (k + 1)) else fX9_match_39 book of twos (nI hs) n2 (nI (dl L k)) found (nI (k + 1))) = fX9_match_39 book of twos (nI hs) n2 (nI (dl L k)) found (nI (k + 1)) := by
          by_cases q : k = hs
          · subst q
            rw [if_pos rfl, ← h4, h3 k hk8 h1]
          · rw [if_neg (by rw [nI_eq (by omega) (by omega)]; exact q), if_neg e6]
        rw [hf]
        exact ih n n2 (k + 1) (dl L k) mate found (by omega) (by omega) (by omega) (by omega) (fun j hj => hz j (by omega)) (fun j hj hj2 => h3 j hj (by rw [dl_bit (by omega), Bool.and_eq_true] at hj2; exact hj2.1)) h4
      | some x =>
        obtain ⟨g, g1, g2, g3⟩ := fo_some _ _ e
        have gx : x = nI g ∧ (dl L k).testBit g = true := by
          unfold sf at g3
          split at g3
          · next q => exact ⟨(Option.some.inj g3).symm, q.1⟩
          · exact absurd g3 (by simp)
        obtain ⟨rfl, gb⟩ := gx
        have hg8 : g < 8 := by omega
        have hlt2 := dl_lt (show dl L k < 2 ^ 32 by omega) gb
        simp only [Option.getD_some, Option.bind_some, nI_pos' (show g < 2 ^ 31 by omega), if_true, nI_clamp (show g < 2 ^ 31 by omega), dl_i (dl L k) (show g < 31 by omega), nI_1, nI_eq (show k < 2 ^ 31 by omega) (show hs < 2 ^ 31 by omega), nI_eq (show g < 2 ^ 31 by omega) (show hs < 2 ^ 31 by omega)]
        have hf : (if k = hs then fX9_match_39 book of twos (nI hs) n2 (nI (dl (dl L k) g)) (nI g) (nI (k + 1)) else if g = hs then fX9_match_39 book of twos (nI hs) n2 (nI (dl (dl L k) g)) (nI k) (nI (k + 1)) else fX9_match_39 book of twos (nI hs) n2 (nI (dl (dl L k) g)) found (nI (k + 1))) = fX9_match_39 book of twos (nI hs) n2 (nI (dl (dl L k) g)) (upd (upd mate k (nI g)) g (nI k) hs) (nI (k + 1)) := by
          by_cases q : k = hs
          · subst q
            rw [if_pos rfl, pk_un (by omega), pk_us]
          · rw [if_neg q]
            by_cases q2 : g = hs
            · subst q2
              rw [if_pos rfl, pk_us]
            · rw [if_neg q2, pk_un (fun z => q2 z.symm), pk_un (fun z => q z.symm), h4]
        rw [hf]
        refine ih n n2 (k + 1) (dl (dl L k) g) _ _ (by omega) (by omega) (by omega) (by omega) (fun j hj => ?_) (fun j hj hj2 => ?_) rfl
        · rw [dl_bit (by omega), hz j (by omega)]; rfl
        · rw [dl_bit (by omega), Bool.and_eq_true, dl_bit (by omega), Bool.and_eq_true] at hj2
          obtain ⟨⟨a1, a2⟩, a3⟩ := hj2
          have b2 : ¬ k = j := by simpa using a2
          have b3 : ¬ g = j := by simpa using a3
          rw [pk_un (fun z => b3 z.symm), pk_un (fun z => b2 z.symm)]
          exact h3 j hj a1
    · rw [if_neg h1, if_neg h1, nI_1]
      refine ih n n2 (k + 1) L mate found (by omega) (by omega) (by omega) hL (fun j hj => ?_) h3 h4
      by_cases q : j = k
      · rw [q]; simpa using h1
      · exact h2 j (by omega)
theorem core_match {n_year : Int32} {n_wreck : Nat → Int32} {n_wood : Nat → Int32} {n_length : Nat → Int32} {n_left : Nat → Int32} {n_right : Nat → Int32} {n_place : Nat → Int32} {n_rings : Nat → Int32} {n_hpiece : Nat → Int32} {n_partner : Nat → Int32} {n_children : Nat → Int32} {n_count : Int32} {n_house : Nat → Int32} {n_reach : Nat → Int32} {n_sounded : Nat → Int32} {book of sight twos m_might m_most m_mate : Nat → Int32} {sights m_count : Int32} (x : Int32) (h : RS n_year n_wreck n_wood n_length n_left n_right n_place n_rings n_hpiece n_partner n_children n_count n_house n_reach n_sounded book of sight sights) (h0 : m_most 0 = 0) :
    ∃ zx zm, fX8_match n_wreck n_hpiece n_partner m_count m_might m_most m_mate x = some zx ∧ fX9_match book of twos x = some zm ∧ zx.1 = zm.1 ∧ zx.2.2.2.1 0 = 0 := by
  have hb : RB book := fun k hk => ⟨(h.2.2.1 k hk).1, (h.2.2.1 k hk).2.1⟩
  obtain ⟨might', m1, m2⟩ := find2 (cnt := m_count) (most := m_most) (mate := m_mate) (wreck := n_wreck) (hpiece := n_hpiece) (partner := n_partner) hb (fun k hk => ⟨(h.1.2.1 k hk).1, (h.1.2.1 k hk).2.1⟩) (fun p hp => (h.1.1 p hp).1) 8 2000 0 m_might (by omega) (by omega) (fun j hj => absurd hj (by omega))
  have hT0 : TB book of 1 m_most (upd twos 0 0) := by
    intro R hR
    have : R = 0 := by omega
    subst this
    refine ⟨by rw [pk_us, h0], by rw [pk_us]; exact ⟨0, by omega, by omega, nI_0.symm⟩, fun k hk hk1 => ?_⟩
    rw [Nat.zero_testBit] at hk1
    exact absurd hk1 (by decide)
  obtain ⟨most', twos', t1, t2, t3, t4⟩ := tab_run (cnt := m_count) (mate := m_mate) hb m1 255 2000 2000 1 m_most _ (by omega) (by omega) (by omega) (by omega) hT0
  rw [nI_0] at m2
  rw [← k1] at t3 t4
  obtain ⟨mate0, f1, f2⟩ := fill8 (n := 8) m_mate (-6) (by decide)
  have a255 : fX8_at 256 most' 255 = some (most' 255) := by
    rw [show (255 : Int32) = nI 255 by decide]
    exact at8 (by decide) (by decide)
  have r255 : rd twos' 255 = twos' 255 := by
    rw [show (255 : Int32) = nI 255 by decide]
    exact rd_nI (by decide)
  have hlay : fX9_layTwos book of twos = some twos' := by
    unfold fX9_layTwos
    rw [← nI_0, chk_nI (by decide) (by decide), wr_nI (by decide), nI_0]
    exact t4
  have hc255 : ∀ K : Option (Int32 × (Nat → Int32)), chk 255 256 K = K := fun K => by
    rw [show (255 : Int32) = nI 255 by decide]
    exact chk_nI (by decide) (by decide)
  rw [a255, Option.bind_some, f1, Option.bind_some] at t3
  unfold fX8_match fX9_match fX8_match_14 fX1_find
  simp only [ih8, wi9, Option.bind_some, if10, m2, t3, hlay]
  by_cases c : x = -1
  · subst c
    obtain ⟨mate', w1, w2⟩ := way_run (cnt := most' 255) (hs := 0) (by decide) hb m1 t1 8 2000 2000 0 255 mate0 (mate0 0) (by omega) (by omega) (by omega) (by omega) (fun j hj => absurd hj (by omega)) (fun j hj _ => f2 j hj) rfl
    rw [nI_0, show nI 255 = (255 : Int32) by decide] at w1
    simp only [w1, if_true, Option.bind_some, show (-1 : Int32) ≤ -1 ∧ (-1 : Int32) ≤ 7 by decide, and_self, show ¬ (0 : Int32) ≤ -1 by decide, if_false, hc255, r255]
    exact ⟨_, _, rfl, rfl, (t1 255 (by decide)).1, by rw [← h0]; exact t2⟩
  · by_cases c1 : 0 ≤ x ∧ x ≤ 7
    · obtain ⟨hs, -, hs7, rfl⟩ := rg_of (a := 0) (b := 7) rfl rfl c1.1 c1.2
      obtain ⟨mate', w1, w2⟩ := way_run (cnt := most' 255) (hs := hs) (by omega) hb m1 t1 8 2000 2000 0 255 mate0 (-6) (by omega) (by omega) (by omega) (by omega) (fun j hj => absurd hj (by omega)) (fun j hj _ => f2 j hj) (f2 hs (by omega))
      rw [nI_0, show nI 255 = (255 : Int32) by decide] at w1 w2
      have c2 : (-1 : Int32) ≤ nI hs ∧ nI hs ≤ 7 := ⟨by rw [i_le, nI_toInt (by omega), show (-1 : Int32).toInt = -1 from rfl]; omega, c1.2⟩
      simp only [c, if_false, c1, c2, and_self, if_true, w1, w2, Option.bind_some, at8 (show hs < 8 by omega) (by decide : 8 < 2 ^ 31)]
      exact ⟨_, _, rfl, rfl, rfl, by rw [← h0]; exact t2⟩
    · have c2 : ¬ ((-1 : Int32) ≤ x ∧ x ≤ 7) := by
        rintro ⟨q1, q2⟩
        rw [i_le, show (-1 : Int32).toInt = -1 from rfl] at q1
        apply c1
        refine ⟨?_, q2⟩
        rw [i_le, show (0 : Int32).toInt = 0 from rfl]
        rcases Int.lt_or_eq_of_le q1 with q | q
        · omega
        · exact absurd (Int32.toInt_inj.mp (by rw [← q]; rfl)) c
      simp only [c, if_false, c1, c2]
      exact ⟨_, _, rfl, rfl, rfl, h0⟩
