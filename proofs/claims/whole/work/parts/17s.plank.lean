/-! PLANKS: rows of pieces, and the fewest of them (no machine) -/
def Sbs (A S : Nat) : Prop := ∀ j, A.testBit j = true → S.testBit j = true
def sdf (S A : Nat) : Nat := S &&& (A ^^^ 4294967295)
theorem sdf_bit {S A j : Nat} (hS : S < 2 ^ 32) : (sdf S A).testBit j = (S.testBit j && !A.testBit j) := by
  unfold sdf
  rw [Nat.testBit_and, Nat.testBit_xor, show 4294967295 = 2 ^ 32 - 1 from rfl, Nat.testBit_two_pow_sub_one]
  by_cases hj : j < 32
  · simp [hj]
  · have : S.testBit j = false := Nat.testBit_lt_two_pow (Nat.lt_of_lt_of_le hS (Nat.pow_le_pow_right (by decide) (by omega)))
    rw [this]; simp
theorem sdf_le (S A : Nat) : sdf S A ≤ S := Nat.and_le_left
theorem sbs_dl {S i : Nat} (hS : S < 2 ^ 32) : Sbs (dl S i) S := fun j h => by
  rw [dl_bit hS, Bool.and_eq_true] at h
  exact h.1
theorem sbs_sdf {S A : Nat} (hS : S < 2 ^ 32) : Sbs (sdf S A) S := fun j h => by
  rw [sdf_bit hS, Bool.and_eq_true] at h
  exact h.1
theorem sbs_tr {A B C : Nat} (h : Sbs A B) (h2 : Sbs B C) : Sbs A C := fun j q => h2 j (h j q)
theorem sbs_lt {A S n : Nat} (h : Sbs A S) (hS : S < 2 ^ n) : A < 2 ^ n := by
  apply Nat.lt_pow_two_of_testBit
  intro i hi
  cases q : A.testBit i with
  | false => rfl
  | true =>
    have := bit_lt hS (h i q)
    omega
def Pth (J : Nat → Nat → Bool) : Nat → Nat → Nat → Prop
  | 0, _, _ => False
  | k + 1, S, p => S.testBit p = true ∧ (dl S p = 0 ∨ ∃ q, Pth J k (dl S p) q ∧ J q p = true)
def Plk (J : Nat → Nat → Bool) (S p : Nat) : Prop := ∃ k, Pth J k S p
theorem plk_iff {J : Nat → Nat → Bool} {S p : Nat} : Plk J S p ↔ S.testBit p = true ∧ (dl S p = 0 ∨ ∃ q, Plk J (dl S p) q ∧ J q p = true) := by
  constructor
  · rintro ⟨k, h⟩
    cases k with
    | zero => exact False.elim h
    | succ k =>
      obtain ⟨h1, h2⟩ := h
      refine ⟨h1, ?_⟩
      rcases h2 with h2 | ⟨q, h3, h4⟩
      · exact Or.inl h2
      · exact Or.inr ⟨q, ⟨k, h3⟩, h4⟩
  · rintro ⟨h1, h2 | ⟨q, ⟨k, h3⟩, h4⟩⟩
    · exact ⟨1, h1, Or.inl h2⟩
    · exact ⟨k + 1, h1, Or.inr ⟨q, h3, h4⟩⟩
def Dvn (J : Nat → Nat → Bool) : Nat → Nat → Prop
  | 0, S => S = 0
  | n + 1, S => ∃ A p, Sbs A S ∧ Plk J A p ∧ Dvn J n (sdf S A)
theorem two_lt {p : Nat} (hp : p < 32) : 2 ^ p < 2 ^ 32 := Nat.pow_lt_pow_right (by decide) hp
theorem plk_one {J : Nat → Nat → Bool} {p : Nat} (hp : p < 32) : Plk J (2 ^ p) p := by
  refine plk_iff.mpr ⟨Nat.testBit_two_pow_self, Or.inl ?_⟩
  apply Nat.eq_of_testBit_eq
  intro j
  rw [dl_bit (two_lt hp), Nat.testBit_two_pow, Nat.zero_testBit]
  by_cases q : p = j <;> simp [q]
theorem dv_low {J : Nat → Nat → Bool} {h : Nat} : ∀ n S, S < 2 ^ 32 → S.testBit h = true → Dvn J (n + 1) S → ∃ A p, Sbs A S ∧ A.testBit h = true ∧ Plk J A p ∧ Dvn J n (sdf S A) := by
  intro n
  induction n with
  | zero =>
    rintro S hS hh ⟨A, p, a1, a2, a3⟩
    refine ⟨A, p, a1, ?_, a2, a3⟩
    have a4 : sdf S A = 0 := a3
    have := sdf_bit (A := A) (j := h) hS
    rw [a4, hh, Nat.zero_testBit] at this
    simpa using this
  | succ n ih =>
    rintro S hS hh ⟨A, p, a1, a2, a3⟩
    by_cases c : A.testBit h = true
    · exact ⟨A, p, a1, c, a2, a3⟩
    · have hlt : sdf S A < 2 ^ 32 := Nat.lt_of_le_of_lt (sdf_le S A) hS
      have hh2 : (sdf S A).testBit h = true := by rw [sdf_bit hS, hh]; simpa using c
      obtain ⟨B, q, b1, b2, b3, b4⟩ := ih (sdf S A) hlt hh2 a3
      refine ⟨B, q, sbs_tr b1 (sbs_sdf hS), b2, b3, A, p, fun j hj => ?_, a2, ?_⟩
      · rw [sdf_bit hS, a1 j hj]
        cases z : B.testBit j with
        | false => rfl
        | true =>
          have := b1 j z
          rw [sdf_bit hS, hj] at this
          simp at this
      · have e : sdf (sdf S B) A = sdf (sdf S A) B := by
          apply Nat.eq_of_testBit_eq
          intro j
          rw [sdf_bit (Nat.lt_of_le_of_lt (sdf_le S B) hS), sdf_bit hlt, sdf_bit hS, sdf_bit hS, Bool.and_right_comm]
        rw [e]
        exact b4
theorem dv_bound {J : Nat → Nat → Bool} : ∀ n S, n ≤ 31 → S < 2 ^ n → ∃ m, m ≤ n ∧ Dvn J m S := by
  intro n
  induction n with
  | zero =>
    intro S _ hS
    have : S = 0 := by
      have : 2 ^ 0 = 1 := rfl
      omega
    exact ⟨0, by omega, this⟩
  | succ n ih =>
    intro S hn hS
    have hS32 : S < 2 ^ 32 := Nat.lt_of_lt_of_le hS (Nat.pow_le_pow_right (by decide) (by omega))
    by_cases c : S.testBit n = true
    · have hlt : sdf S (2 ^ n) < 2 ^ n := by
        apply Nat.lt_pow_two_of_testBit
        intro i hi
        rw [sdf_bit hS32, Nat.testBit_two_pow]
        by_cases q : n = i
        · simp [q]
        · rw [Nat.testBit_lt_two_pow (Nat.lt_of_lt_of_le hS (Nat.pow_le_pow_right (by decide) (by omega)))]; rfl
      obtain ⟨m, m1, m2⟩ := ih _ (by omega) hlt
      refine ⟨m + 1, by omega, 2 ^ n, n, fun j hj => ?_, plk_one (by omega), m2⟩
      rw [Nat.testBit_two_pow, decide_eq_true_eq] at hj
      subst hj
      exact c
    · have hlt : S < 2 ^ n := by
        apply Nat.lt_pow_two_of_testBit
        intro i hi
        by_cases q : i = n
        · rw [q]; simpa using c
        · exact Nat.testBit_lt_two_pow (Nat.lt_of_lt_of_le hS (Nat.pow_le_pow_right (by decide) (by omega)))
      obtain ⟨m, m1, m2⟩ := ih S (by omega) hlt
      exact ⟨m, by omega, m2⟩
def Mnm (J : Nat → Nat → Bool) (S f : Nat) : Prop := Dvn J f S ∧ ∀ m, m < f → ¬ Dvn J m S
theorem mn_uniq {J : Nat → Nat → Bool} {S f g : Nat} (h : Mnm J S f) (h2 : Mnm J S g) : f = g := by
  rcases Nat.lt_trichotomy f g with q | q | q
  · exact absurd h.1 (h2.2 f q)
  · exact q
  · exact absurd h2.1 (h.2 g q)
theorem mn_le {J : Nat → Nat → Bool} {S f m : Nat} (h : Mnm J S f) (h2 : Dvn J m S) : f ≤ m := by
  by_cases q : m < f
  · exact absurd h2 (h.2 m q)
  · omega
theorem mn_10 {J : Nat → Nat → Bool} {S f : Nat} (hS : S < 1024) (h : Mnm J S f) : f ≤ 10 := by
  obtain ⟨m, m1, m2⟩ := dv_bound (J := J) 10 S (by decide) hS
  exact Nat.le_trans (mn_le h m2) m1
def CLs (J : Nat → Nat → Bool) (S f l : Nat) : Prop := Mnm J S f ∧ l < 1024 ∧ ∀ p, l.testBit p = true ↔ ∃ A m, Sbs A S ∧ Plk J A p ∧ f = m + 1 ∧ Dvn J m (sdf S A)
theorem cl_0 (J : Nat → Nat → Bool) : CLs J 0 0 0 := by
  refine ⟨⟨rfl, fun m hm => absurd hm (by omega)⟩, by decide, fun p => ?_⟩
  rw [Nat.zero_testBit]
  constructor
  · intro h; exact absurd h (by decide)
  · rintro ⟨A, m, -, -, h, -⟩; exact absurd h (by omega)
theorem cl_zero {J : Nat → Nat → Bool} {f l : Nat} (h : CLs J 0 f l) : f = 0 ∧ l = 0 := by
  have hf : f = 0 := mn_uniq h.1 (cl_0 J).1
  refine ⟨hf, Nat.eq_of_testBit_eq fun p => ?_⟩
  rw [Nat.zero_testBit]
  cases q : l.testBit p with
  | false => rfl
  | true =>
    obtain ⟨A, m, -, -, h, -⟩ := (h.2.2 p).mp q
    omega
theorem cnt_le {J : Nat → Nat → Bool} {S p A m fR lR : Nat} (hS : S < 2 ^ 32) (hR : CLs J (dl S p) fR lR) (a1 : Sbs A S) (a2 : Plk J A p) (a3 : Dvn J m (sdf S A)) : fR ≤ m ∨ (fR = m + 1 ∧ ∃ q, lR.testBit q = true ∧ J q p = true) := by
  have hA : A < 2 ^ 32 := sbs_lt a1 hS
  obtain ⟨b1, b2⟩ := plk_iff.mp a2
  rcases b2 with b2 | ⟨q, b3, b4⟩
  · left
    have e : sdf S A = dl S p := by
      apply Nat.eq_of_testBit_eq
      intro j
      rw [sdf_bit hS, dl_bit hS]
      have := dl_bit (i := p) (j := j) hA
      rw [b2, Nat.zero_testBit] at this
      by_cases z : p = j
      · subst z; rw [b1]; simp
      · have hz : A.testBit j = false := by simpa [z] using this.symm
        rw [hz]; simp [z]
    rw [e] at a3
    exact mn_le hR.1 a3
  · have c1 : Sbs (dl A p) (dl S p) := fun j hj => by
      rw [dl_bit hA, Bool.and_eq_true] at hj
      rw [dl_bit hS, a1 j hj.1, hj.2]; rfl
    have e : sdf (dl S p) (dl A p) = sdf S A := by
      apply Nat.eq_of_testBit_eq
      intro j
      rw [sdf_bit (Nat.lt_of_le_of_lt (dl_le S p) hS), dl_bit hS, dl_bit hA, sdf_bit hS]
      by_cases z : p = j
      · subst z; rw [b1]; simp
      · simp [z]
    have d : Dvn J (m + 1) (dl S p) := ⟨dl A p, q, c1, b3, by rw [e]; exact a3⟩
    have := mn_le hR.1 d
    by_cases z : fR ≤ m
    · exact Or.inl z
    · have z2 : fR = m + 1 := by omega
      exact Or.inr ⟨z2, q, (hR.2.2 q).mpr ⟨dl A p, m, c1, b3, z2, by rw [e]; exact a3⟩, b4⟩
theorem cnt_ok1 {J : Nat → Nat → Bool} {S p fR lR q : Nat} (hS : S < 2 ^ 32) (hp : S.testBit p = true) (hR : CLs J (dl S p) fR lR) (h1 : lR.testBit q = true) (h2 : J q p = true) : ∃ A m, Sbs A S ∧ Plk J A p ∧ fR = m + 1 ∧ Dvn J m (sdf S A) := by
  obtain ⟨B, m, b1, b2, b3, b4⟩ := (hR.2.2 q).mp h1
  have hp32 : p < 32 := bit_lt hS hp
  have hB : B < 2 ^ 32 := sbs_lt (sbs_tr b1 (sbs_dl hS)) hS
  have hBp : B.testBit p = false := by
    cases z : B.testBit p with
    | false => rfl
    | true =>
      have := b1 p z
      rw [dl_bit hS] at this
      simp at this
  have hA : B ||| 2 ^ p < 2 ^ 32 := Nat.or_lt_two_pow hB (two_lt hp32)
  have e1 : dl (B ||| 2 ^ p) p = B := by
    apply Nat.eq_of_testBit_eq
    intro j
    rw [dl_bit hA, Nat.testBit_or, Nat.testBit_two_pow]
    by_cases z : p = j
    · subst z; rw [hBp]; simp
    · simp [z]
  have e2 : sdf S (B ||| 2 ^ p) = sdf (dl S p) B := by
    apply Nat.eq_of_testBit_eq
    intro j
    rw [sdf_bit hS, sdf_bit (Nat.lt_of_le_of_lt (dl_le S p) hS), dl_bit hS, Nat.testBit_or, Nat.testBit_two_pow]
    by_cases z : p = j
    · simp [z]
    · simp [z]
  refine ⟨B ||| 2 ^ p, m, fun j hj => ?_, plk_iff.mpr ⟨by rw [Nat.testBit_or, Nat.testBit_two_pow_self]; simp, Or.inr ⟨q, by rw [e1]; exact b2, h2⟩⟩, b3, by rw [e2]; exact b4⟩
  rw [Nat.testBit_or, Nat.testBit_two_pow] at hj
  by_cases z : p = j
  · subst z; exact hp
  · exact sbs_dl hS j (b1 j (by simpa [z] using hj))
theorem cnt_ok2 {J : Nat → Nat → Bool} {S p fR : Nat} (hS : S < 2 ^ 32) (hp : S.testBit p = true) (hR : Dvn J fR (dl S p)) : ∃ A, Sbs A S ∧ Plk J A p ∧ Dvn J fR (sdf S A) := by
  refine ⟨2 ^ p, fun j hj => ?_, plk_one (bit_lt hS hp), hR⟩
  rw [Nat.testBit_two_pow, decide_eq_true_eq] at hj
  subst hj
  exact hp
theorem cl_step {J : Nat → Nat → Bool} {S : Nat} (hS : S < 1024) (h0 : S ≠ 0) (fR lR c : Nat → Nat) (hR : ∀ p, S.testBit p = true → CLs J (dl S p) (fR p) (lR p))
    (hc : ∀ p, S.testBit p = true → (c p = fR p ∧ ∃ q, (lR p).testBit q = true ∧ J q p = true) ∨ (c p = fR p + 1 ∧ ¬ ∃ q, (lR p).testBit q = true ∧ J q p = true)) {x e : Nat} (he : e < 1024)
    (x1 : ∀ p, S.testBit p = true → x ≤ c p) (x2 : x = 11 ∨ ∃ p, S.testBit p = true ∧ c p = x) (e1 : ∀ p, e.testBit p = true ↔ (S.testBit p = true ∧ c p = x)) : CLs J S x e := by
  have hS32 : S < 2 ^ 32 := by omega
  have low : ∀ A p m, Sbs A S → Plk J A p → Dvn J m (sdf S A) → S.testBit p = true ∧ c p ≤ m + 1 := by
    intro A p m a1 a2 a3
    have hp := a1 p (plk_iff.mp a2).1
    refine ⟨hp, ?_⟩
    rcases cnt_le hS32 (hR p hp) a1 a2 a3 with q | ⟨q, r⟩
    · rcases hc p hp with ⟨z, -⟩ | ⟨z, -⟩ <;> omega
    · rcases hc p hp with ⟨z, -⟩ | ⟨z, z2⟩
      · omega
      · exact absurd r z2
  have ach : ∀ p, S.testBit p = true → ∃ A m, Sbs A S ∧ Plk J A p ∧ c p = m + 1 ∧ Dvn J m (sdf S A) := by
    intro p hp
    rcases hc p hp with ⟨z, q, z1, z2⟩ | ⟨z, -⟩
    · rw [z]
      exact cnt_ok1 hS32 hp (hR p hp) z1 z2
    · obtain ⟨A, a1, a2, a3⟩ := cnt_ok2 hS32 hp (hR p hp).1.1
      exact ⟨A, fR p, a1, a2, z, a3⟩
  have lowD : ∀ n, Dvn J n S → x ≤ n := by
    intro n hn
    cases n with
    | zero => exact absurd hn h0
    | succ m =>
      obtain ⟨A, p, a1, a2, a3⟩ := hn
      obtain ⟨q1, q2⟩ := low A p m a1 a2 a3
      have := x1 p q1
      omega
  obtain ⟨g, g1, g2⟩ := dv_bound (J := J) 10 S (by decide) hS
  have hx : ∃ p, S.testBit p = true ∧ c p = x := by
    rcases x2 with q | q
    · have := lowD g g2
      omega
    · exact q
  obtain ⟨p, p1, p2⟩ := hx
  obtain ⟨A, m, a1, a2, a3, a4⟩ := ach p p1
  refine ⟨⟨?_, fun k hk hD => ?_⟩, he, fun r => ?_⟩
  · rw [← p2, a3]
    exact ⟨A, p, a1, a2, a4⟩
  · have := lowD k hD
    omega
  · rw [e1]
    constructor
    · rintro ⟨r1, r2⟩
      rw [← r2]
      exact ach r r1
    · rintro ⟨B, k, b1, b2, b3, b4⟩
      obtain ⟨q1, q2⟩ := low B r k b1 b2 b4
      have := x1 r q1
      exact ⟨q1, by omega⟩
theorem mn_one {J : Nat → Nat → Bool} {S f : Nat} (hS : S < 2 ^ 32) (h : Mnm J S f) : f = 1 ↔ ∃ p, Plk J S p := by
  constructor
  · rintro rfl
    obtain ⟨A, p, a1, a2, a3⟩ := h.1
    have a4 : sdf S A = 0 := a3
    have e : A = S := by
      apply Nat.eq_of_testBit_eq
      intro j
      have := sdf_bit (A := A) (j := j) hS
      rw [a4, Nat.zero_testBit] at this
      cases z : A.testBit j with
      | true => rw [a1 j z]
      | false =>
        rw [z] at this
        simpa using this
    exact ⟨p, by rw [← e]; exact a2⟩
  · rintro ⟨p, hp⟩
    have h1 : Dvn J 1 S := by
      refine ⟨S, p, fun j hj => hj, hp, ?_⟩
      show sdf S S = 0
      apply Nat.eq_of_testBit_eq
      intro j
      rw [sdf_bit hS, Nat.zero_testBit]
      simp
    have h2 : f ≤ 1 := mn_le h h1
    have h3 : f ≠ 0 := by
      rintro rfl
      have : S = 0 := h.1
      have := (plk_iff.mp hp).1
      rw [‹S = 0›, Nat.zero_testBit] at this
      exact absurd this (by decide)
    omega
/-- the next lesser part of a set -/
theorem sub_next : ∀ n S P A, P < 2 ^ n → Sbs A S → Sbs P S → A < P → A ≤ (P - 1) &&& S := by
  intro n
  induction n with
  | zero =>
    intro S P A hP _ _ hA
    have : 2 ^ 0 = 1 := rfl
    omega
  | succ n ih =>
    intro S P A hP h1 h2 hA
    have d1 : Sbs (A / 2) (S / 2) := fun j hj => by
      rw [← Nat.testBit_succ] at hj ⊢
      exact h1 _ hj
    have d2 : Sbs (P / 2) (S / 2) := fun j hj => by
      rw [← Nat.testBit_succ] at hj ⊢
      exact h2 _ hj
    rcases Nat.mod_two_eq_zero_or_one P with q | q
    · have hp : (P - 1) / 2 = P / 2 - 1 := by omega
      have hm : (P - 1) % 2 = 1 := by omega
      have i := ih (S / 2) (P / 2) (A / 2) (by rw [Nat.pow_succ] at hP; omega) d1 d2 (by omega)
      have e1 : ((P - 1) &&& S) / 2 = (P / 2 - 1) &&& (S / 2) := by rw [Nat.and_div_two, hp]
      have e2 : S % 2 = 1 → ((P - 1) &&& S) % 2 = 1 := fun z => Nat.and_mod_two_eq_one.mpr ⟨hm, z⟩
      have e3 : A % 2 = 1 → S % 2 = 1 := fun z => by
        have := h1 0 (by rw [Nat.testBit_zero]; simpa using z)
        rw [Nat.testBit_zero] at this
        simpa using this
      rcases Nat.mod_two_eq_zero_or_one A with z | z
      · omega
      · have := e2 (e3 z)
        omega
    · have e : (P - 1) &&& S = P - 1 := by
        apply Nat.eq_of_testBit_eq
        intro j
        rw [Nat.testBit_and]
        cases z : (P - 1).testBit j with
        | false => rfl
        | true =>
          have : P.testBit j = true := by
            cases j with
            | zero =>
              rw [Nat.testBit_zero]
              simpa using q
            | succ j =>
              rw [Nat.testBit_succ] at z ⊢
              rw [show P / 2 = (P - 1) / 2 by omega]
              exact z
          rw [h2 j this]; rfl
      rw [e]
      omega
