/-! DECK -/
theorem chk0 {α : Type} {n : Nat} {K : Option α} (h : 0 < n) (hn : n < 2 ^ 31) : chk 0 n K = K := by
  rw [← nI_0]; exact chk_nI h hn
theorem wr0 {f : Nat → Int32} {v : Int32} : wr f 0 v = upd f 0 v := by
  rw [← nI_0]; exact wr_nI (by decide)
def lbt (S : Nat) : Nat := ((List.range 10).find? (fun i => S.testBit i)).getD 0
set_option maxRecDepth 1000000 in
theorem lbt_ok : ∀ S, S < 1024 → (S == 0 || (S.testBit (lbt S) && decide (nI S &&& (-(nI S)) = nI (2 ^ lbt S)))) = true := by decide +kernel
theorem and2 {P h : Nat} : P &&& 2 ^ h = 0 ↔ ¬ P.testBit h = true := by
  rw [and0]
  constructor
  · intro q r
    exact q ⟨h, r, Nat.testBit_two_pow_self⟩
  · rintro q ⟨i, h1, h2⟩
    rw [Nat.testBit_two_pow, decide_eq_true_eq] at h2
    subst h2
    exact q h1
theorem part_run {lasts few : Nat → Int32} {K : (Nat → Int32) → Int32 → Option (Int32 × (Nat → Int32) × (Nat → Int32))} {x1 : Int32} {S h : Nat} (hS : S < 1024) (hh : S.testBit h = true) (hg : ∀ R, R < S → ∃ g, g ≤ 1000000 ∧ few R = nI g) :
    ∀ n P v, P < n → Sbs P S → v ≤ 1000000 → ∃ x', x' ≤ v ∧ fX9_deck_68 K lasts few x1 (nI S) (nI (2 ^ h)) n (nI v) (nI P) = K (upd few S (nI x')) (nI (S + 1)) ∧
      (∀ A, Sbs A S → A ≤ P → A.testBit h = true → ¬ lasts A = 0 → x' ≤ (few (sdf S A)).toNatClampNeg + 1) ∧ (x' = v ∨ ∃ A, Sbs A S ∧ A.testBit h = true ∧ ¬ lasts A = 0 ∧ x' = (few (sdf S A)).toNatClampNeg + 1) := by
  have hS32 : S < 2 ^ 32 := by omega
  have h10 : h < 10 := bit_lt (n := 10) hS hh
  have h2h : 2 ^ h < 1024 := Nat.pow_lt_pow_right (show 1 < 2 by decide) h10
  intro n
  induction n with
  | zero => intro P v hP; exact absurd hP (by omega)
  | succ n ih =>
    intro P v hP hPS hv
    have hP1 : P < 1024 := sbs_lt (n := 10) hPS hS
    rw [fX9_deck_68]
    by_cases c0 : P = 0
    · subst c0
      rw [if_pos (by rw [nI_0]; decide), chk_nI hS (by decide), wr_nI (by omega), nI_1]
      refine ⟨v, Nat.le_refl v, rfl, fun A _ hA hA2 => ?_, Or.inl rfl⟩
      have : A = 0 := by omega
      subst this
      rw [Nat.zero_testBit] at hA2
      exact absurd hA2 (by decide)
    · rw [if_neg (nI_nle (by omega) (by omega))]
      have hle : (P - 1) &&& S ≤ P - 1 := Nat.and_le_left
      have hsub : Sbs ((P - 1) &&& S) S := fun j hj => by
        rw [Nat.testBit_and, Bool.and_eq_true] at hj
        exact hj.2
      have hnx : (nI P - 1) &&& nI S = nI ((P - 1) &&& S) := by
        rw [k1, pk_sub (by omega), nx_and]
      have hand : P &&& 2 ^ h ≤ P := Nat.and_le_left
      have z0 : (nI (P &&& 2 ^ h) = (0 : Int32)) ↔ ¬ P.testBit h = true := by rw [← nI_0, nI_eq (by omega) (by decide), and2]
      have e0 : nI S &&& (nI P ^^^ (-1)) = nI (sdf S P) := by rw [km1, nx_xor, nx_and]; rfl
      have hsd := sdf_le S P
      have sk : ∀ w, w ≤ 1000000 → ∃ x', x' ≤ w ∧ fX9_deck_122 K (fun y0 y1 => fX9_deck_68 K lasts few x1 (nI S) (nI (2 ^ h)) n y0 y1) lasts few x1 (nI S) (nI w) (nI (2 ^ h)) (nI P) = K (upd few S (nI x')) (nI (S + 1)) ∧
          (∀ A, Sbs A S → A ≤ (P - 1) &&& S → A.testBit h = true → ¬ lasts A = 0 → x' ≤ (few (sdf S A)).toNatClampNeg + 1) ∧ (x' = w ∨ ∃ A, Sbs A S ∧ A.testBit h = true ∧ ¬ lasts A = 0 ∧ x' = (few (sdf S A)).toNatClampNeg + 1) := by
        intro w hw
        unfold fX9_deck_122
        rw [hnx]
        exact ih ((P - 1) &&& S) w (by omega) hsub hw
      have nx : ∀ A, Sbs A S → A ≤ P → A ≠ P → A ≤ (P - 1) &&& S := fun A h1 h2 h3 => sub_next 10 S P A hP1 h1 hPS (by omega)
      rw [nx_and, e0, chk_nI hP1 (by decide), rd_nI (by omega), chk_nI (show sdf S P < 1024 by omega) (by decide), chk_nI (show sdf S P < 1024 by omega) (by decide), rd_nI (by omega)]
      by_cases c1 : P.testBit h = true
      · rw [if_neg (fun q => (z0.mp q) c1)]
        by_cases c2 : lasts P = 0
        · rw [if_pos c2]
          obtain ⟨x', r1, r2, r3, r4⟩ := sk v hv
          refine ⟨x', r1, r2, fun A a1 a2 a3 a4 => r3 A a1 (nx A a1 a2 ?_) a3 a4, r4⟩
          rintro rfl
          exact a4 c2
        · have hlt : sdf S P < S := by
            rcases Nat.lt_or_eq_of_le hsd with q | q
            · exact q
            · have := sdf_bit (A := P) (j := h) hS32
              rw [q, hh, c1] at this
              exact absurd this (by decide)
          obtain ⟨g, g1, g2⟩ := hg (sdf S P) hlt
          have gc : (few (sdf S P)).toNatClampNeg = g := by rw [g2, nI_clamp (by omega)]
          rw [if_neg c2, g2, nI_1]
          by_cases c3 : v ≤ g + 1
          · rw [if_pos (nI_le c3 (by omega))]
            obtain ⟨x', r1, r2, r3, r4⟩ := sk v hv
            refine ⟨x', r1, r2, fun A a1 a2 a3 a4 => ?_, r4⟩
            by_cases q : A = P
            · subst q; omega
            · exact r3 A a1 (nx A a1 a2 q) a3 a4
          · rw [if_neg (nI_ge (by omega) (by omega))]
            obtain ⟨x', r1, r2, r3, r4⟩ := sk (g + 1) (by omega)
            refine ⟨x', by omega, r2, fun A a1 a2 a3 a4 => ?_, ?_⟩
            · by_cases q : A = P
              · subst q; omega
              · exact r3 A a1 (nx A a1 a2 q) a3 a4
            · rcases r4 with q | q
              · exact Or.inr ⟨P, hPS, c1, c2, by omega⟩
              · exact Or.inr q
      · rw [if_pos (z0.mpr c1)]
        obtain ⟨x', r1, r2, r3, r4⟩ := sk v hv
        refine ⟨x', r1, r2, fun A a1 a2 a3 a4 => r3 A a1 (nx A a1 a2 ?_) a3 a4, r4⟩
        rintro rfl
        exact c1 a3
def DT (U : Nat) (J : Nat → Nat → Bool) (k : Nat) (few : Nat → Int32) : Prop := ∀ R, R < k → ∃ g, g ≤ 1000000 ∧ few R = nI g ∧ (Sbs R U → Mnm J R g)
theorem plank_ne {U : Nat} {J : Nat → Nat → Bool} {lasts : Nat → Int32} (hL : L9t U J 1024 lasts) {A : Nat} (hA : A < 1024) : ¬ lasts A = 0 ↔ (Sbs A U ∧ ∃ p, Plk J A p) := by
  obtain ⟨r, r1, r2, r3⟩ := hL A hA
  rw [r2, ← nI_0, nI_eq (by omega) (by decide)]
  constructor
  · intro h
    obtain ⟨i, hi⟩ := Nat.exists_testBit_of_ne_zero h
    exact ⟨((r3 i).mp hi).1, i, ((r3 i).mp hi).2⟩
  · rintro ⟨h1, p, h2⟩ rfl
    have := (r3 p).mpr ⟨h1, h2⟩
    rw [Nat.zero_testBit] at this
    exact absurd this (by decide)
theorem deck_run {U a : Nat} {J : Nat → Nat → Bool} {lasts : Nat → Int32} (ha : a < 1024) (hL : L9t U J 1024 lasts) :
    ∀ m n S (few : Nat → Int32), S + m = 1024 → m < n → 0 < S → DT U J S few → ∃ few', fX9_deck_49 lasts (nI a) n few (nI S) = some (few' a, lasts, few') ∧ DT U J 1024 few' := by
  intro m
  induction m with
  | zero =>
    intro n S few hS hn h0 hT
    obtain ⟨n, rfl⟩ : ∃ q, n = q + 1 := ⟨n - 1, by omega⟩
    have : S = 1024 := by omega
    subst this
    rw [fX9_deck_49, if_pos (by decide), chk_nI ha (by decide), rd_nI (by omega)]
    exact ⟨few, rfl, hT⟩
  | succ m ih =>
    intro n S few hS hn h0 hT
    obtain ⟨n, rfl⟩ : ∃ q, n = q + 1 := ⟨n - 1, by omega⟩
    have h1 : ¬ (1024 : Int32) ≤ nI S := by rw [show (1024 : Int32) = nI 1024 by decide, nI_leI (by decide) (by omega)]; omega
    have hS1 : S < 1024 := by omega
    have hS32 : S < 2 ^ 32 := by omega
    have lb := lbt_ok S hS1
    have hS0 : ¬ S = 0 := by omega
    simp only [Bool.or_eq_true, beq_iff_eq, hS0, false_or, Bool.and_eq_true, decide_eq_true_eq] at lb
    obtain ⟨hh, lb2⟩ := lb
    rw [fX9_deck_49, if_neg h1, lb2]
    obtain ⟨x, r1, r2, r3, r4⟩ := part_run (lasts := lasts) (K := fun y0 y1 => fX9_deck_49 lasts (nI a) n y0 y1) (x1 := nI a) hS1 hh (fun R hR => by
      obtain ⟨g, g1, g2, -⟩ := hT R hR
      exact ⟨g, g1, g2⟩) 2000 S 1000000 (by omega) (fun j hj => hj) (Nat.le_refl _)
    rw [show nI 1000000 = (1000000 : Int32) by decide] at r2
    rw [r2]
    refine ih n (S + 1) _ (by omega) (by omega) (by omega) (fun R hR => ?_)
    by_cases q : R = S
    · subst q
      refine ⟨x, r1, pk_us, fun hU => ?_⟩
      have gv : ∀ A, Sbs A R → A.testBit (lbt R) = true → Mnm J (sdf R A) (few (sdf R A)).toNatClampNeg := by
        intro A a1 a2
        have hlt : sdf R A < R := by
          rcases Nat.lt_or_eq_of_le (sdf_le R A) with q | q
          · exact q
          · have := sdf_bit (A := A) (j := lbt R) hS32
            rw [q, hh, a2] at this
            exact absurd this (by decide)
        obtain ⟨g, g1, g2, g3⟩ := hT (sdf R A) hlt
        rw [g2, nI_clamp (by omega)]
        exact g3 (sbs_tr (sbs_sdf hS32) hU)
      have lowD : ∀ k, Dvn J k R → x ≤ k := by
        intro k hk
        cases k with
        | zero => exact absurd hk hS0
        | succ k =>
          obtain ⟨A, p, a1, a2, a3, a4⟩ := dv_low k R hS32 hh hk
          have hAR : A ≤ R := by
            have hAS := sub_next 11 R (R + 1) A
            by_cases z : A ≤ R
            · exact z
            · exfalso
              have e : A &&& R = A := by
                apply Nat.eq_of_testBit_eq
                intro j
                rw [Nat.testBit_and]
                cases w : A.testBit j with
                | false => rfl
                | true => rw [a1 j w]; rfl
              have : A &&& R ≤ R := Nat.and_le_right
              omega
          have := r3 A a1 hAR a2 ((plank_ne hL (by omega)).mpr ⟨sbs_tr a1 hU, p, a3⟩)
          have := mn_le (gv A a1 a2) a4
          omega
      obtain ⟨g, g1, g2⟩ := dv_bound (J := J) 10 R (by decide) hS1
      have := lowD g g2
      rcases r4 with q | ⟨A, a1, a2, a3, a4⟩
      · omega
      · have hA1 : A < 1024 := sbs_lt (n := 10) a1 hS1
        obtain ⟨-, p, a5⟩ := (plank_ne hL hA1).mp a3
        refine ⟨?_, fun k hk hD => ?_⟩
        · rw [a4]
          exact ⟨A, p, a1, a5, (gv A a1 a2).1⟩
        · have := lowD k hD
          omega
    · obtain ⟨g, g1, g2, g3⟩ := hT R (by omega)
      exact ⟨g, g1, by rw [pk_un q]; exact g2, g3⟩
theorem all_run {book lasts few : Nat → Int32} : ∀ m n k b, k + m = 10 → m < n → b < 1024 → (∀ j, j < k → b.testBit j = !decide (book j = 3)) → (∀ j, k ≤ j → b.testBit j = false) →
    ∃ b', b' < 1024 ∧ fX9_deck_8 book lasts few n (nI b) (nI k) = fX9_deck_49 lasts (nI b') 2000 (upd few 0 0) 1 ∧ ∀ j, j < 10 → b'.testBit j = !decide (book j = 3) := by
  intro m
  induction m with
  | zero =>
    intro n k b hk hn hb1 hb2 hb3
    obtain ⟨n, rfl⟩ : ∃ q, n = q + 1 := ⟨n - 1, by omega⟩
    have : k = 10 := by omega
    subst this
    rw [fX9_deck_8, if_pos (by decide), chk0 (by decide) (by decide), wr0]
    exact ⟨b, hb1, rfl, hb2⟩
  | succ m ih =>
    intro n k b hk hn hb1 hb2 hb3
    obtain ⟨n, rfl⟩ : ∃ q, n = q + 1 := ⟨n - 1, by omega⟩
    have h1 : ¬ (10 : Int32) ≤ nI k := by rw [k10, nI_leI (by decide) (by omega)]; omega
    rw [fX9_deck_8, if_neg h1, chk_nI (show k < 35 by omega) (by decide), rd_nI (by omega), nI_1, sh1 k (by omega), nx_or, Int32.or_zero]
    by_cases c : book k = 3
    · rw [if_pos c]
      refine ih n (k + 1) _ (by omega) (by omega) hb1 (fun j hj => ?_) (fun j hj => hb3 j (by omega))
      by_cases q : k = j
      · subst q
        rw [hb3 k (Nat.le_refl k)]
        simp [c]
      · exact hb2 j (by omega)
    · rw [if_neg c]
      refine ih n (k + 1) _ (by omega) (by omega) (Nat.or_lt_two_pow (n := 10) hb1 (Nat.pow_lt_pow_right (by decide) (by omega))) (fun j hj => ?_) (fun j hj => ?_)
      · rw [Nat.testBit_or, Nat.testBit_two_pow]
        by_cases q : k = j
        · subst q; simp [c]
        · rw [hb2 j (by omega)]; simp [q]
      · rw [Nat.testBit_or, Nat.testBit_two_pow, hb3 j (by omega)]
        simp; omega
theorem bits_eq10 {a b : Nat} (ha : a < 1024) (hb : b < 1024) (h : ∀ j, j < 10 → a.testBit j = b.testBit j) : a = b := by
  apply Nat.eq_of_testBit_eq
  intro j
  by_cases q : j < 10
  · exact h j q
  · rw [Nat.testBit_lt_two_pow (Nat.lt_of_lt_of_le (show a < 2 ^ 10 from ha) (Nat.pow_le_pow_right (by decide) (by omega))), Nat.testBit_lt_two_pow (Nat.lt_of_lt_of_le (show b < 2 ^ 10 from hb) (Nat.pow_le_pow_right (by decide) (by omega)))]
theorem core_deck {n_year : Int32} {n_wreck : Nat → Int32} {n_wood : Nat → Int32} {n_length : Nat → Int32} {n_left : Nat → Int32} {n_right : Nat → Int32} {n_place : Nat → Int32} {n_rings : Nat → Int32} {n_hpiece : Nat → Int32} {n_partner : Nat → Int32} {n_children : Nat → Int32} {n_count : Int32} {n_house : Nat → Int32} {n_reach : Nat → Int32} {n_sounded : Nat → Int32} {book of sight : Nat → Int32} {sights us : Int32} {bf few las lasts9 few9 : Nat → Int32} (h : RS n_year n_wreck n_wood n_length n_left n_right n_place n_rings n_hpiece n_partner n_children n_count n_house n_reach n_sounded book of sight sights) (hP : PL us bf few las) :
    ∃ zx zm, fX8_deck n_wood n_left n_right n_place us bf few las = some zx ∧ fX9_deck book of lasts9 few9 = some zm ∧ zx.1 = zm.1 ∧ PL zx.2.1 zx.2.2.1 zx.2.2.2.1 zx.2.2.2.2 := by
  obtain ⟨U, bf', few', las', u1, u2, u3, u4, u5, u6⟩ := lay_both (place := n_place) (fun p hp => ⟨(h.1.1 p hp).2.1, (h.1.1 p hp).2.2.2.1, (h.1.1 p hp).2.2.2.2.1⟩) hP
  have hU : ∀ p, p < 10 → U.testBit p = !decide (book p = 3) := fun p hp => by rw [u4 p hp, (h.1.1 p hp).2.2.2.2.2.2]
  obtain ⟨l9, l1, l2⟩ := ref_both lasts9 u5 hU
  obtain ⟨a, a1, a2, a3⟩ := all_run (book := book) (lasts := l9) (few := few9) 10 2000 0 0 (by omega) (by omega) (by omega) (fun j hj => absurd hj (by omega)) (fun j _ => Nat.zero_testBit j)
  have ea : a = U := bits_eq10 a1 u1 (fun j hj => by rw [a3 j hj, hU j hj])
  subst ea
  obtain ⟨f9, d1, d2⟩ := deck_run u1 l2 1023 2000 1 (upd few9 0 0) (by omega) (by omega) (by omega) (fun R hR => by
    have : R = 0 := by omega
    subst this
    exact ⟨0, by omega, by rw [pk_us, nI_0], fun _ => ⟨rfl, fun m hm => absurd hm (by omega)⟩⟩)
  rw [← k1] at d1
  rw [nI_0] at a2
  obtain ⟨f, l, f1, f2, f3⟩ := u6 a u1 (fun j hj => hj)
  obtain ⟨g, g1, g2, g3⟩ := d2 a u1
  have efg := mn_uniq f3.1 (g3 (fun j hj => hj))
  unfold fX8_deck fX9_deck
  rw [u2, Option.bind_some, u3, Option.bind_some, l1, Option.bind_some, a2, d1]
  simp only [at8 u1 (by decide : 1024 < 2 ^ 31), Option.bind_some]
  exact ⟨_, _, rfl, rfl, by rw [f1, g2, efg], a, u1, rfl, u6⟩
