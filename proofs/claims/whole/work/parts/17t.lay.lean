/-! PLANKS: how the class lays them -/
theorem bits_run {f : Nat → Int32} {w : Int32} : ∀ m n k b, k + m = 10 → m < n → b < 1024 → (∀ j, j < k → b.testBit j = decide (f j = w)) → (∀ j, k ≤ j → b.testBit j = false) →
    ∃ b', b' < 1024 ∧ fX3_bitsAt_4 f w n (nI b) (nI k) = some (nI b') ∧ ∀ j, j < 10 → b'.testBit j = decide (f j = w) := by
  intro m
  induction m with
  | zero =>
    intro n k b hk hn hb1 hb2 hb3
    obtain ⟨n, rfl⟩ : ∃ q, n = q + 1 := ⟨n - 1, by omega⟩
    have : k = 10 := by omega
    subst this
    rw [fX3_bitsAt_4, if_pos (by decide)]
    exact ⟨b, hb1, rfl, hb2⟩
  | succ m ih =>
    intro n k b hk hn hb1 hb2 hb3
    obtain ⟨n, rfl⟩ : ∃ q, n = q + 1 := ⟨n - 1, by omega⟩
    have h1 : ¬ (10 : Int32) ≤ nI k := by rw [k10, nI_leI (by decide) (by omega)]; omega
    rw [fX3_bitsAt_4, if_neg h1, chk_nI (show k < 10 by omega) (by decide), rd_nI (by omega), nI_1, sh1 k (by omega), nx_or]
    by_cases c : f k = w
    · rw [if_pos c]
      refine ih n (k + 1) _ (by omega) (by omega) (Nat.or_lt_two_pow (n := 10) hb1 (Nat.pow_lt_pow_right (by decide) (by omega))) (fun j hj => ?_) (fun j hj => ?_)
      · rw [Nat.testBit_or, Nat.testBit_two_pow]
        by_cases q : k = j
        · subst q; simp [c]
        · rw [hb2 j (by omega)]; simp [q]
      · rw [Nat.testBit_or, Nat.testBit_two_pow, hb3 j (by omega)]
        simp; omega
    · rw [if_neg c]
      refine ih n (k + 1) _ (by omega) (by omega) hb1 (fun j hj => ?_) (fun j hj => hb3 j (by omega))
      by_cases q : k = j
      · subst q
        rw [hb3 k (Nat.le_refl k)]
        simpa using c
      · exact hb2 j (by omega)
theorem usable8 (place : Nat → Int32) : ∃ U, U < 1024 ∧ fX3_bitsNotBurnt place = some (nI U) ∧ ∀ p, p < 10 → U.testBit p = !decide (place p = 3) := by
  obtain ⟨b, b1, b2, b3⟩ := bits_run (f := place) (w := 3) 10 2000 0 0 (by omega) (by omega) (by omega) (fun j hj => absurd hj (by omega)) (fun j _ => Nat.zero_testBit j)
  rw [nI_0] at b2
  have hle := sdf_le 1023 b
  refine ⟨sdf 1023 b, by omega, ?_, fun p hp => ?_⟩
  · unfold fX3_bitsNotBurnt fX3_bitsAt
    rw [b2, Option.bind_some, km1, nx_xor, show (1023 : Int32) = nI 1023 by decide, nx_and]
    rfl
  · rw [sdf_bit (by decide), b3 p hp, show 1023 = 2 ^ 10 - 1 from rfl, Nat.testBit_two_pow_sub_one]
    simp [hp]
def JJ (of : Nat → Int32) (q p : Nat) : Bool := decide (q ≠ p ∧ of (10 + q) = of (10 + p) ∧ of (40 + q) = of (30 + p))
theorem joins8 {wood left right of : Nat → Int32} (e : ∀ p, p < 10 → wood p = of (10 + p) ∧ left p = of (30 + p) ∧ right p = of (40 + p)) {q p : Nat} (hq : q < 10) (hp : p < 10) :
    fX3_joins wood left right (nI q) (nI p) = some (if JJ of q p then 1 else 0) := by
  unfold fX3_joins JJ
  simp only [nI_eq (show q < 2 ^ 31 by omega) (show p < 2 ^ 31 by omega), at8 hq (by decide : 10 < 2 ^ 31), at8 hp (by decide : 10 < 2 ^ 31), Option.bind_some, (e q hq).1, (e p hp).1, (e q hq).2.2, (e p hp).2.1, decide_eq_true_eq]
  by_cases c1 : q = p
  · simp [c1]
  by_cases c2 : of (10 + q) = of (10 + p)
  · by_cases c3 : of (40 + q) = of (30 + p)
    · simp [c1, c2, c3]
    · simp [c1, c2, c3]
  · simp [c1, c2]
def RowOK (of bf : Nat → Int32) (p : Nat) : Prop := ∃ b, b < 1024 ∧ bf p = nI b ∧ ∀ q, q < 10 → b.testBit q = JJ of q p
theorem joined_run {wood left right of : Nat → Int32} (e : ∀ p, p < 10 → wood p = of (10 + p) ∧ left p = of (30 + p) ∧ right p = of (40 + p)) {p : Nat} (hp : p < 10) : ∀ m n k b, k + m = 10 → m < n → b < 1024 → (∀ j, j < k → b.testBit j = JJ of j p) → (∀ j, k ≤ j → b.testBit j = false) →
    ∃ b', b' < 1024 ∧ fX4_joinedBy_4 wood left right (nI p) n (nI b) (nI k) = some (nI b') ∧ ∀ j, j < 10 → b'.testBit j = JJ of j p := by
  intro m
  induction m with
  | zero =>
    intro n k b hk hn hb1 hb2 hb3
    obtain ⟨n, rfl⟩ : ∃ q, n = q + 1 := ⟨n - 1, by omega⟩
    have : k = 10 := by omega
    subst this
    rw [fX4_joinedBy_4, if_pos (by decide)]
    exact ⟨b, hb1, rfl, hb2⟩
  | succ m ih =>
    intro n k b hk hn hb1 hb2 hb3
    obtain ⟨n, rfl⟩ : ∃ q, n = q + 1 := ⟨n - 1, by omega⟩
    have h1 : ¬ (10 : Int32) ≤ nI k := by rw [k10, nI_leI (by decide) (by omega)]; omega
    rw [fX4_joinedBy_4, if_neg h1, joins8 e (show k < 10 by omega) hp, Option.bind_some, if10, nI_1, sh1 k (by omega), nx_or]
    by_cases c : JJ of k p = true
    · rw [if_pos c]
      refine ih n (k + 1) _ (by omega) (by omega) (Nat.or_lt_two_pow (n := 10) hb1 (Nat.pow_lt_pow_right (by decide) (by omega))) (fun j hj => ?_) (fun j hj => ?_)
      · rw [Nat.testBit_or, Nat.testBit_two_pow]
        by_cases q : k = j
        · subst q; simp [c]
        · rw [hb2 j (by omega)]; simp [q]
      · rw [Nat.testBit_or, Nat.testBit_two_pow, hb3 j (by omega)]
        simp; omega
    · rw [if_neg c]
      refine ih n (k + 1) _ (by omega) (by omega) hb1 (fun j hj => ?_) (fun j hj => hb3 j (by omega))
      by_cases q : k = j
      · subst q
        rw [hb3 k (Nat.le_refl k)]
        simpa using c
      · exact hb2 j (by omega)
theorem upd_self {f : Nat → Int32} {k : Nat} {x : Int32} (h : f k = x) : upd f k x = f := by
  funext i
  rw [upd_e]
  split
  · next q => rw [q, h]
  · rfl
theorem rows_run {wood left right of few las : Nat → Int32} {u : Int32} (e : ∀ p, p < 10 → wood p = of (10 + p) ∧ left p = of (30 + p) ∧ right p = of (40 + p)) : ∀ m n k (bf : Nat → Int32) (x : Int32), k + m = 10 → m < n → (∀ p, p < k → RowOK of bf p) →
    ∃ bf' x', fX4_lay_27 u few las wood left right n bf x (nI k) = fX4_lay_72 u bf' x' 2000 few las 1 ∧ (∀ p, p < 10 → RowOK of bf' p) ∧ ((x' = x ∧ bf' = bf) ∨ x' = 0) := by
  intro m
  induction m with
  | zero =>
    intro n k bf x hk hn h
    obtain ⟨n, rfl⟩ : ∃ q, n = q + 1 := ⟨n - 1, by omega⟩
    have : k = 10 := by omega
    subst this
    rw [fX4_lay_27, if_pos (by decide)]
    exact ⟨bf, x, rfl, h, Or.inl ⟨rfl, rfl⟩⟩
  | succ m ih =>
    intro n k bf x hk hn h
    obtain ⟨n, rfl⟩ : ∃ q, n = q + 1 := ⟨n - 1, by omega⟩
    have h1 : ¬ (10 : Int32) ≤ nI k := by rw [k10, nI_leI (by decide) (by omega)]; omega
    have hk10 : k < 10 := by omega
    obtain ⟨b, b1, b2, b3⟩ := joined_run e hk10 10 2000 0 0 (by omega) (by omega) (by omega) (fun j hj => absurd hj (by omega)) (fun j _ => Nat.zero_testBit j)
    rw [nI_0] at b2
    have hrow : ∀ p, p < k + 1 → RowOK of (upd bf k (nI b)) p := by
      intro p hp
      by_cases q : p = k
      · subst q; exact ⟨b, b1, pk_us, b3⟩
      · obtain ⟨c, c1, c2, c3⟩ := h p (by omega)
        exact ⟨c, c1, by rw [pk_un q]; exact c2, c3⟩
    rw [fX4_lay_27, if_neg h1]
    unfold fX4_joinedBy
    rw [b2, Option.bind_some, chk_nI hk10 (by decide), rd_nI (by omega), chk_nI hk10 (by decide), chk_nI hk10 (by decide), wr_nI (by omega), nI_1]
    by_cases c : bf k = nI b
    · rw [if_pos c]
      obtain ⟨bf', x', r1, r2, r3⟩ := ih n (k + 1) _ x (by omega) (by omega) hrow
      exact ⟨bf', x', r1, r2, by rw [upd_self c] at r3; exact r3⟩
    · rw [if_neg c]
      obtain ⟨bf', x', r1, r2, r3⟩ := ih n (k + 1) _ 0 (by omega) (by omega) hrow
      refine ⟨bf', x', r1, r2, Or.inr ?_⟩
      rcases r3 with ⟨q, -⟩ | q <;> exact q
def jb (bf : Nat → Int32) (q p : Nat) : Bool := (bf p).toNatClampNeg.testBit q
def PLt (U : Nat) (bf few las : Nat → Int32) (K : Nat) : Prop := ∀ S, S < K → Sbs S U → ∃ f l, few S = nI f ∧ las S = nI l ∧ CLs (jb bf) S f l
/-- the planks' rows: what is laid is right for the rows before and the pieces usable -/
def PL (usable : Int32) (bf few las : Nat → Int32) : Prop := ∃ U, U < 1024 ∧ usable = nI U ∧ PLt U bf few las 1024
theorem sbs_0 {S : Nat} (h : Sbs S 0) : S = 0 := by
  by_cases q : S = 0
  · exact q
  · obtain ⟨i, hi⟩ := Nat.exists_testBit_of_ne_zero q
    have := h i hi
    rw [Nat.zero_testBit] at this
    exact absurd this (by decide)
theorem PL_init : PL 0 (fun _ => 0) (fun _ => 0) (fun _ => 0) := by
  refine ⟨0, by decide, nI_0.symm, fun S _ h => ?_⟩
  rw [sbs_0 h]
  exact ⟨0, 0, nI_0.symm, nI_0.symm, cl_0 _⟩
theorem and0 (a b : Nat) : a &&& b = 0 ↔ ¬ ∃ q, a.testBit q = true ∧ b.testBit q = true := by
  constructor
  · rintro h ⟨q, h1, h2⟩
    have := Nat.testBit_and a b q
    rw [h, h1, h2, Nat.zero_testBit] at this
    exact absurd this (by decide)
  · intro h
    by_cases z : a &&& b = 0
    · exact z
    · obtain ⟨i, hi⟩ := Nat.exists_testBit_of_ne_zero z
      rw [Nat.testBit_and, Bool.and_eq_true] at hi
      exact absurd ⟨i, hi⟩ h
theorem sdf0 {S U : Nat} (hS : S < 2 ^ 32) : sdf S U = 0 ↔ Sbs S U := by
  constructor
  · intro h j hj
    have := sdf_bit (A := U) (j := j) hS
    rw [h, hj, Nat.zero_testBit] at this
    simpa using this
  · intro h
    apply Nat.eq_of_testBit_eq
    intro j
    rw [sdf_bit hS, Nat.zero_testBit]
    cases z : S.testBit j with
    | false => rfl
    | true => rw [h j z]; rfl
theorem last_run {bf few las : Nat → Int32} {S : Nat} {fR lR c : Nat → Nat} (hS : S < 1024) (hrow : ∀ p, p < 10 → ∃ b, b < 1024 ∧ bf p = nI b)
    (key : ∀ p, S.testBit p = true → few (dl S p) = nI (fR p) ∧ las (dl S p) = nI (lR p) ∧ fR p ≤ 10 ∧ lR p < 1024)
    (hc : ∀ p, c p = fR p + (if lR p &&& (bf p).toNatClampNeg = 0 then 1 else 0)) :
    ∀ m n k x e, k + m = 10 → m < n → x ≤ 11 → e < 1024 → (∀ j, k ≤ j → e.testBit j = false) → ∃ x' e', x' ≤ x ∧ e' < 1024 ∧ fX4_layLast_8 bf few las (nI S) n (nI x) (nI e) (nI k) = some (upd few S (nI x'), upd las S (nI e')) ∧
      (∀ p, k ≤ p → S.testBit p = true → x' ≤ c p) ∧ (x' = x ∨ ∃ p, S.testBit p = true ∧ c p = x') ∧ (∀ p, e'.testBit p = true ↔ ((k ≤ p ∧ S.testBit p = true ∧ c p = x') ∨ (e.testBit p = true ∧ x = x'))) := by
  intro m
  induction m with
  | zero =>
    intro n k x e hk hn hx he hz
    obtain ⟨n, rfl⟩ : ∃ q, n = q + 1 := ⟨n - 1, by omega⟩
    have : k = 10 := by omega
    subst this
    rw [fX4_layLast_8, if_pos (by decide), put8 hS (by decide), Option.bind_some, put8 hS (by decide), Option.bind_some]
    have nob : ∀ p, 10 ≤ p → S.testBit p = true → False := fun p h1 h2 => by
      have := bit_lt (n := 10) hS h2
      omega
    refine ⟨x, e, Nat.le_refl x, he, rfl, fun p h1 h2 => (nob p h1 h2).elim, Or.inl rfl, fun p => ⟨fun h => Or.inr ⟨h, rfl⟩, ?_⟩⟩
    rintro (⟨h1, h2, -⟩ | ⟨h1, -⟩)
    · exact (nob p h1 h2).elim
    · exact h1
  | succ m ih =>
    intro n k x e hk hn hx he hz
    obtain ⟨n, rfl⟩ : ∃ q, n = q + 1 := ⟨n - 1, by omega⟩
    have h1 : ¬ (10 : Int32) ≤ nI k := by rw [k10, nI_leI (by decide) (by omega)]; omega
    have hk10 : k < 10 := by omega
    have h2k : 2 ^ k < 1024 := Nat.pow_lt_pow_right (show 1 < 2 by decide) hk10
    rw [fX4_layLast_8, if_neg h1, has8 (by omega) (by omega), Option.bind_some, if10, nI_1]
    by_cases cS : S.testBit k = true
    · obtain ⟨y1, y2, y3, y4⟩ := key k cS
      obtain ⟨b, b1, b2⟩ := hrow k hk10
      have hlt := dl_lt (show S < 2 ^ 32 by omega) cS
      have hand : lR k &&& b ≤ lR k := Nat.and_le_left
      have hck := hc k
      rw [b2, nI_clamp (by omega)] at hck
      have z0 : (nI (lR k &&& b) = (0 : Int32)) ↔ lR k &&& b = 0 := by rw [← nI_0, nI_eq (by omega) (by decide)]
      have stp : (if nI (lR k &&& b) = (0 : Int32) then fX4_layLast_62 (fun y0 y1 y2 => fX4_layLast_8 bf few las (nI S) n y0 y1 y2) bf few las (nI S) (nI x) (nI e) (nI k) (nI (dl S k)) 0 else fX4_layLast_62 (fun y0 y1 y2 => fX4_layLast_8 bf few las (nI S) n y0 y1 y2) bf few las (nI S) (nI x) (nI e) (nI k) (nI (dl S k)) 1) =
          fX4_layLast_8 bf few las (nI S) n (nI (if x ≤ c k then x else c k)) (nI (if x ≤ c k then (if c k = x then e ||| 2 ^ k else e) else 2 ^ k)) (nI (k + 1)) := by
        unfold fX4_layLast_62
        rw [at8 (show dl S k < 1024 by omega) (by decide), Option.bind_some, y1]
        have fin : ∀ s : Nat, fR k + s = c k → fX4_layLast_83 (fun y0 y1 y2 => fX4_layLast_8 bf few las (nI S) n y0 y1 y2) bf few las (nI S) (nI x) (nI e) (nI k) (nI s) (nI (fR k)) =
            fX4_layLast_8 bf few las (nI S) n (nI (if x ≤ c k then x else c k)) (nI (if x ≤ c k then (if c k = x then e ||| 2 ^ k else e) else 2 ^ k)) (nI (k + 1)) := by
          intro s hs
          unfold fX4_layLast_83 fX4_layLast_97
          rw [l_add, hs, nI_1, sh1 k (by omega), nx_or, show (0 : Int32) ||| nI (2 ^ k) = nI (2 ^ k) from Int32.zero_or]
          have hc11 : c k ≤ 11 := by rw [hck]; split <;> omega
          by_cases c1 : x ≤ c k
          · rw [if_pos (nI_le c1 (by omega)), if_pos c1, if_pos c1]
            by_cases c2 : c k = x
            · rw [if_pos (show nI (c k) = nI x by rw [c2]), if_pos c2]
            · rw [if_neg (fun q => c2 ((nI_eq (by omega) (by omega)).mp q)), if_neg c2]
          · rw [if_neg (nI_ge (by omega) (by omega)), if_neg c1, if_neg c1, if_pos rfl]
        by_cases c0 : lR k &&& b = 0
        · rw [if_pos (z0.mpr c0), if_pos rfl, k1]
          exact fin 1 (by rw [hck, if_pos c0])
        · have f0 := fin 0 (by rw [hck, if_neg c0])
          rw [nI_0] at f0
          rw [if_neg (fun q => c0 (z0.mp q)), Option.bind_some, if_neg (show ¬ (1 : Int32) = 0 by decide)]
          exact f0
      rw [if_pos cS, sh1 k (by omega), nx_xor, xor_dl (by omega) cS, at8 (show dl S k < 1024 by omega) (by decide), Option.bind_some, at8 hk10 (by decide), Option.bind_some, y2, b2, nx_and, stp]
      by_cases c1 : x ≤ c k
      · rw [if_pos c1, if_pos c1]
        by_cases c2 : c k = x
        · rw [if_pos c2]
          obtain ⟨x', e', r1, r2, r3, r4, r5, r6⟩ := ih n (k + 1) x (e ||| 2 ^ k) (by omega) (by omega) hx (Nat.or_lt_two_pow (n := 10) he h2k) (fun j hj => by rw [Nat.testBit_or, Nat.testBit_two_pow, hz j (by omega)]; simp; omega)
          refine ⟨x', e', r1, r2, r3, fun p p1 p2 => ?_, r5, fun p => ?_⟩
          · by_cases q : p = k
            · subst q; omega
            · exact r4 p (by omega) p2
          · rw [r6, Nat.testBit_or, Nat.testBit_two_pow]
            by_cases q : p = k
            · subst q
              rw [hz p (Nat.le_refl p)]
              constructor
              · rintro (⟨q1, -, -⟩ | ⟨-, q2⟩)
                · omega
                · exact Or.inl ⟨Nat.le_refl p, cS, by omega⟩
              · rintro (⟨-, -, q1⟩ | ⟨q1, -⟩)
                · exact Or.inr ⟨by simp, by omega⟩
                · exact absurd q1 (by decide)
            · have q' : ¬ k = p := fun z => q z.symm
              simp only [q', decide_false, Bool.or_false]
              constructor
              · rintro (⟨q1, q2⟩ | q1)
                · exact Or.inl ⟨by omega, q2⟩
                · exact Or.inr q1
              · rintro (⟨q1, q2⟩ | q1)
                · exact Or.inl ⟨by omega, q2⟩
                · exact Or.inr q1
        · rw [if_neg c2]
          obtain ⟨x', e', r1, r2, r3, r4, r5, r6⟩ := ih n (k + 1) x e (by omega) (by omega) hx he (fun j hj => hz j (by omega))
          refine ⟨x', e', r1, r2, r3, fun p p1 p2 => ?_, r5, fun p => ?_⟩
          · by_cases q : p = k
            · subst q; omega
            · exact r4 p (by omega) p2
          · rw [r6]
            constructor
            · rintro (⟨q1, q2⟩ | q1)
              · exact Or.inl ⟨by omega, q2⟩
              · exact Or.inr q1
            · rintro (⟨q1, q2, q3⟩ | q1)
              · refine Or.inl ⟨?_, q2, q3⟩
                by_cases q : p = k
                · subst q; omega
                · omega
              · exact Or.inr q1
      · rw [if_neg c1, if_neg c1]
        have hc11 : c k ≤ 11 := by rw [hck]; split <;> omega
        obtain ⟨x', e', r1, r2, r3, r4, r5, r6⟩ := ih n (k + 1) (c k) (2 ^ k) (by omega) (by omega) hc11 h2k (fun j hj => by rw [Nat.testBit_two_pow]; simp; omega)
        refine ⟨x', e', by omega, r2, r3, fun p p1 p2 => ?_, ?_, fun p => ?_⟩
        · by_cases q : p = k
          · subst q; omega
          · exact r4 p (by omega) p2
        · rcases r5 with q | q
          · exact Or.inr ⟨k, cS, q.symm⟩
          · exact Or.inr q
        · rw [r6, Nat.testBit_two_pow]
          constructor
          · rintro (⟨q1, q2⟩ | ⟨q1, q2⟩)
            · exact Or.inl ⟨by omega, q2⟩
            · rw [decide_eq_true_eq] at q1
              subst q1
              exact Or.inl ⟨Nat.le_refl k, cS, q2⟩
          · rintro (⟨q1, q2, q3⟩ | ⟨-, q1⟩)
            · by_cases q : p = k
              · subst q; exact Or.inr ⟨by simp, q3⟩
              · exact Or.inl ⟨by omega, q2, q3⟩
            · omega
    · rw [if_neg cS]
      obtain ⟨x', e', r1, r2, r3, r4, r5, r6⟩ := ih n (k + 1) x e (by omega) (by omega) hx he (fun j hj => hz j (by omega))
      have ne : ∀ p, k ≤ p → S.testBit p = true → k + 1 ≤ p := fun p p1 p2 => by
        by_cases q : p = k
        · subst q; exact absurd p2 cS
        · omega
      refine ⟨x', e', r1, r2, r3, fun p p1 p2 => r4 p (ne p p1 p2) p2, r5, fun p => ?_⟩
      rw [r6]
      constructor
      · rintro (⟨q1, q2⟩ | q1)
        · exact Or.inl ⟨by omega, q2⟩
        · exact Or.inr q1
      · rintro (⟨q1, q2, q3⟩ | q1)
        · exact Or.inl ⟨ne p q1 q2, q2, q3⟩
        · exact Or.inr q1
theorem lay_one {U : Nat} {bf few las : Nat → Int32} {S : Nat} (hS : S < 1024) (h0 : S ≠ 0) (hU : Sbs S U) (hrow : ∀ p, p < 10 → ∃ b, b < 1024 ∧ bf p = nI b) (hT : PLt U bf few las S) :
    ∃ x e, fX4_layLast bf few las (nI S) = some (upd few S (nI x), upd las S (nI e)) ∧ CLs (jb bf) S x e := by
  have hS32 : S < 2 ^ 32 := by omega
  have hC : ∀ p, S.testBit p = true → few (dl S p) = nI (few (dl S p)).toNatClampNeg ∧ las (dl S p) = nI (las (dl S p)).toNatClampNeg ∧ CLs (jb bf) (dl S p) (few (dl S p)).toNatClampNeg (las (dl S p)).toNatClampNeg := by
    intro p hp
    have hlt := dl_lt hS32 hp
    obtain ⟨f, l, f1, f2, f3⟩ := hT (dl S p) hlt (sbs_tr (sbs_dl hS32) hU)
    have f10 := mn_10 (show dl S p < 1024 by omega) f3.1
    have l10 := f3.2.1
    rw [f1, f2, nI_clamp (by omega), nI_clamp (by omega)]
    exact ⟨rfl, rfl, f3⟩
  obtain ⟨x, e, r1, r2, r3, r4, r5, r6⟩ := last_run (fR := fun p => (few (dl S p)).toNatClampNeg) (lR := fun p => (las (dl S p)).toNatClampNeg) (c := fun p => (few (dl S p)).toNatClampNeg + (if (las (dl S p)).toNatClampNeg &&& (bf p).toNatClampNeg = 0 then 1 else 0)) hS hrow
    (fun p hp => ⟨(hC p hp).1, (hC p hp).2.1, mn_10 (Nat.lt_of_le_of_lt (dl_le S p) hS) (hC p hp).2.2.1, (hC p hp).2.2.2.1⟩) (fun p => rfl) 10 2000 0 11 0 (by omega) (by omega) (by omega) (by omega) (fun j _ => Nat.zero_testBit j)
  rw [nI_0, show nI 11 = (11 : Int32) by decide] at r3
  refine ⟨x, e, r3, cl_step hS h0 _ _ _ (fun p hp => (hC p hp).2.2) (fun p hp => ?_) r2 (fun p hp => r4 p (Nat.zero_le p) hp) r5 (fun p => ?_)⟩
  · have := and0 (las (dl S p)).toNatClampNeg (bf p).toNatClampNeg
    by_cases z : (las (dl S p)).toNatClampNeg &&& (bf p).toNatClampNeg = 0
    · right
      refine ⟨by simp only [z, if_true], this.mp z⟩
    · left
      refine ⟨by simp only [z, if_false, Nat.add_zero], ?_⟩
      by_cases w : ∃ q, (las (dl S p)).toNatClampNeg.testBit q = true ∧ (bf p).toNatClampNeg.testBit q = true
      · exact w
      · exact absurd (this.mpr w) z
  · rw [r6]
    constructor
    · rintro (⟨-, q⟩ | ⟨q, -⟩)
      · exact q
      · rw [Nat.zero_testBit] at q; exact absurd q (by decide)
    · intro q
      exact Or.inl ⟨Nat.zero_le p, q⟩
theorem lay_run {U : Nat} {bf : Nat → Int32} (hU : U < 1024) (hrow : ∀ p, p < 10 → ∃ b, b < 1024 ∧ bf p = nI b) : ∀ m n S (few las : Nat → Int32), S + m = 1024 → m < n → 0 < S → PLt U bf few las S →
    ∃ few' las', fX4_lay_72 (nI U) bf 0 n few las (nI S) = some (nI U, bf, few', las') ∧ PLt U bf few' las' 1024 := by
  intro m
  induction m with
  | zero =>
    intro n S few las hS hn h0 hT
    obtain ⟨n, rfl⟩ : ∃ q, n = q + 1 := ⟨n - 1, by omega⟩
    have : S = 1024 := by omega
    subst this
    rw [fX4_lay_72, if_pos (by decide)]
    exact ⟨few, las, rfl, hT⟩
  | succ m ih =>
    intro n S few las hS hn h0 hT
    obtain ⟨n, rfl⟩ : ∃ q, n = q + 1 := ⟨n - 1, by omega⟩
    have h1 : ¬ (1024 : Int32) ≤ nI S := by rw [show (1024 : Int32) = nI 1024 by decide, nI_leI (by decide) (by omega)]; omega
    have hle := sdf_le S U
    have e0 : nI S &&& (nI U ^^^ (-1)) = nI (sdf S U) := by rw [km1, nx_xor, nx_and]; rfl
    have z0 : (nI (sdf S U) = (0 : Int32)) ↔ Sbs S U := by rw [← nI_0, nI_eq (by omega) (by decide), sdf0 (by omega)]
    rw [fX4_lay_72, if_neg h1, if_pos rfl, e0, nI_1]
    by_cases c : Sbs S U
    · obtain ⟨x, e, r1, r2⟩ := lay_one (show S < 1024 by omega) (by omega) c hrow hT
      rw [if_pos (z0.mpr c), r1, Option.bind_some]
      refine ih n (S + 1) _ _ (by omega) (by omega) (by omega) (fun R hR hRU => ?_)
      by_cases q : R = S
      · subst q; exact ⟨x, e, pk_us, pk_us, r2⟩
      · show ∃ f l, upd few S (nI x) R = nI f ∧ upd las S (nI e) R = nI l ∧ CLs (jb bf) R f l
        rw [pk_un q, pk_un q]
        exact hT R (by omega) hRU
    · rw [if_neg (fun q => c (z0.mp q))]
      refine ih n (S + 1) _ _ (by omega) (by omega) (by omega) (fun R hR hRU => ?_)
      by_cases q : R = S
      · subst q; exact absurd hRU c
      · exact hT R (by omega) hRU
theorem lay_both {wood left right place of bf few las : Nat → Int32} {usable : Int32} (e : ∀ p, p < 10 → wood p = of (10 + p) ∧ left p = of (30 + p) ∧ right p = of (40 + p)) (hP : PL usable bf few las) :
    ∃ U bf' few' las', U < 1024 ∧ fX4_lay usable bf few las wood left right place = some (nI U, bf', few', las') ∧ fX3_bitsNotBurnt place = some (nI U) ∧ (∀ p, p < 10 → U.testBit p = !decide (place p = 3)) ∧ (∀ p, p < 10 → RowOK of bf' p) ∧ PLt U bf' few' las' 1024 := by
  obtain ⟨U, u1, u2, u3⟩ := usable8 place
  obtain ⟨V, v1, rfl, v3⟩ := hP
  unfold fX4_lay fX4_lay_16
  simp only [u2, Option.bind_some]
  have go : ∀ bf', (∀ p, p < 10 → RowOK of bf' p) → ∃ few' las', fX4_lay_72 (nI U) bf' 0 2000 few las 1 = some (nI U, bf', few', las') ∧ PLt U bf' few' las' 1024 := by
    intro bf' hb
    rw [k1]
    refine lay_run u1 (fun p hp => ?_) 1023 2000 1 few las (by omega) (by omega) (by omega) (fun S hS hSU => ?_)
    · obtain ⟨b, b1, b2, -⟩ := hb p hp
      exact ⟨b, b1, b2⟩
    · have : S = 0 := by omega
      subst this
      obtain ⟨f, l, f1, f2, f3⟩ := v3 0 (by decide) (fun j hj => by rw [Nat.zero_testBit] at hj; exact absurd hj (by decide))
      obtain ⟨rfl, rfl⟩ := cl_zero f3
      exact ⟨0, 0, f1, f2, cl_0 _⟩
  by_cases c : V = U
  · subst c
    rw [if_pos rfl]
    obtain ⟨bf', x', r1, r2, r3⟩ := rows_run (u := nI V) (few := few) (las := las) e 10 2000 0 bf 1 (by omega) (by omega) (fun p hp => absurd hp (by omega))
    rw [nI_0] at r1
    rw [r1]
    rcases r3 with ⟨rfl, rfl⟩ | rfl
    · refine ⟨V, bf', few, las, u1, ?_, rfl, u3, r2, v3⟩
      rw [fX4_lay_72, if_neg (by decide), if_neg (by decide)]
    · obtain ⟨few', las', g1, g2⟩ := go bf' r2
      exact ⟨V, bf', few', las', u1, g1, rfl, u3, r2, g2⟩
  · rw [if_neg (fun q => c ((nI_eq (by omega) (by omega)).mp q))]
    obtain ⟨bf', x', r1, r2, r3⟩ := rows_run (u := nI U) (few := few) (las := las) e 10 2000 0 bf 0 (by omega) (by omega) (fun p hp => absurd hp (by omega))
    rw [nI_0] at r1
    rw [r1]
    have hx : x' = 0 := by rcases r3 with ⟨q, -⟩ | q <;> exact q
    subst hx
    obtain ⟨few', las', g1, g2⟩ := go bf' r2
    exact ⟨U, bf', few', las', u1, g1, rfl, u3, r2, g2⟩
