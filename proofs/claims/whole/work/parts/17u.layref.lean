/-! PLANKS: how the reference lays them -/
theorem joins9 {of : Nat → Int32} {q p : Nat} (hq : q < 10) (hp : p < 10) (hn : q ≠ p) : fX9_joins of (nI q) (nI p) = some (if JJ of q p then 1 else 0) := by
  unfold fX9_joins JJ
  simp only [k10, k30, k40, l_add, chk_nI (show 10 + q < 60 by omega) (by decide : 60 < 2 ^ 31), chk_nI (show 10 + p < 60 by omega) (by decide : 60 < 2 ^ 31), chk_nI (show 40 + q < 60 by omega) (by decide : 60 < 2 ^ 31), chk_nI (show 30 + p < 60 by omega) (by decide : 60 < 2 ^ 31), rd, nI_clamp (show 10 + q < 2 ^ 31 by omega), nI_clamp (show 10 + p < 2 ^ 31 by omega), nI_clamp (show 40 + q < 2 ^ 31 by omega), nI_clamp (show 30 + p < 2 ^ 31 by omega), decide_eq_true_eq]
  by_cases c2 : of (10 + q) = of (10 + p)
  · by_cases c3 : of (40 + q) = of (30 + p)
    · simp [hn, c2, c3]
    · simp [hn, c2, c3]
  · simp [hn, c2]
theorem jb_row {of bf : Nat → Int32} {q p : Nat} (h : RowOK of bf p) (hq : q < 10) : jb bf q p = JJ of q p := by
  obtain ⟨b, b1, b2, b3⟩ := h
  unfold jb
  rw [b2, nI_clamp (by omega)]
  exact b3 q hq
theorem can_run {of bf book lasts : Nat → Int32} {K9 : (Nat → Int32) → Int32 → Option (Nat → Int32)} {K20 : Int32 → Int32 → Option (Nat → Int32)} {S e p R r : Nat} (hb : ∀ p, p < 10 → RowOK of bf p) (hp : p < 10) (hR : R < 1024) (hr : r < 1024) (hl : lasts R = nI r) (hrp : r.testBit p = false) :
    ∀ m n k (can : Bool), k + m = 10 → m < n → ∃ can' : Bool, (can' = true ↔ (can = true ∨ ∃ q, k ≤ q ∧ r.testBit q = true ∧ jb bf q p = true)) ∧
      fX9_layPlanks_68 K9 K20 book of lasts (nI S) (nI e) (nI p) (nI R) n (if can then 1 else 0) (nI k) = K20 (nI (if can' then e ||| 2 ^ p else e)) (nI (p + 1)) := by
  intro m
  induction m with
  | zero =>
    intro n k can hk hn
    obtain ⟨n, rfl⟩ : ∃ q, n = q + 1 := ⟨n - 1, by omega⟩
    have : k = 10 := by omega
    subst this
    refine ⟨can, ⟨fun h => Or.inl h, ?_⟩, ?_⟩
    · rintro (h | ⟨q, q1, q2, -⟩)
      · exact h
      · have := bit_lt (n := 10) hr q2
        omega
    · rw [fX9_layPlanks_68, if_pos (by decide), if10, nI_1, sh1 p (by omega), nx_or, Int32.or_zero]
      cases can <;> rfl
  | succ m ih =>
    intro n k can hk hn
    obtain ⟨n, rfl⟩ : ∃ q, n = q + 1 := ⟨n - 1, by omega⟩
    have h1 : ¬ (10 : Int32) ≤ nI k := by rw [k10, nI_leI (by decide) (by omega)]; omega
    rw [fX9_layPlanks_68, if_neg h1, if10, nI_1]
    cases can with
    | true =>
      rw [if_pos rfl]
      obtain ⟨can', c1, c2⟩ := ih n (k + 1) true (by omega) (by omega)
      exact ⟨can', ⟨fun _ => Or.inl rfl, fun _ => c1.mpr (Or.inl rfl)⟩, c2⟩
    | false =>
      rw [if_neg (by decide), chk_nI hR (by decide), rd_nI (by omega), hl, has9 (by omega) (by omega), Option.bind_some, if10]
      by_cases c : r.testBit k = true
      · have hkp : k ≠ p := by
          rintro rfl
          rw [hrp] at c
          exact absurd c (by decide)
        rw [if_pos c, joins9 (show k < 10 by omega) hp hkp, Option.bind_some, if10, ← jb_row (hb p hp) (show k < 10 by omega)]
        by_cases d : jb bf k p = true
        · rw [if_pos d]
          obtain ⟨can', c1, c2⟩ := ih n (k + 1) true (by omega) (by omega)
          exact ⟨can', ⟨fun _ => Or.inr ⟨k, Nat.le_refl k, c, d⟩, fun _ => c1.mpr (Or.inl rfl)⟩, c2⟩
        · rw [if_neg d]
          obtain ⟨can', c1, c2⟩ := ih n (k + 1) false (by omega) (by omega)
          refine ⟨can', c1.trans ⟨?_, ?_⟩, c2⟩
          · rintro (h | ⟨q, q1, q2⟩)
            · exact Or.inl h
            · exact Or.inr ⟨q, by omega, q2⟩
          · rintro (h | ⟨q, q1, q2, q3⟩)
            · exact Or.inl h
            · refine Or.inr ⟨q, ?_, q2, q3⟩
              by_cases z : q = k
              · subst z; exact absurd q3 d
              · omega
      · rw [if_neg c]
        obtain ⟨can', c1, c2⟩ := ih n (k + 1) false (by omega) (by omega)
        refine ⟨can', c1.trans ⟨?_, ?_⟩, c2⟩
        · rintro (h | ⟨q, q1, q2⟩)
          · exact Or.inl h
          · exact Or.inr ⟨q, by omega, q2⟩
        · rintro (h | ⟨q, q1, q2, q3⟩)
          · exact Or.inl h
          · refine Or.inr ⟨q, ?_, q2, q3⟩
            by_cases z : q = k
            · subst z; exact absurd q2 c
            · omega
/-- the reference's table below k: what can end a row that is just the set, of pieces that are not burnt -/
def L9t (U : Nat) (J : Nat → Nat → Bool) (k : Nat) (lasts : Nat → Int32) : Prop := ∀ S, S < k → ∃ r, r < 1024 ∧ lasts S = nI r ∧ ∀ p, r.testBit p = true ↔ (Sbs S U ∧ Plk J S p)
theorem ends_run {of bf book lasts : Nat → Int32} {K9 : (Nat → Int32) → Int32 → Option (Nat → Int32)} {S U : Nat} (hb : ∀ p, p < 10 → RowOK of bf p) (hS : S < 1024) (hU : ∀ p, p < 10 → U.testBit p = !decide (book p = 3)) (hT : L9t U (jb bf) S lasts) :
    ∀ m n k e, k + m = 10 → m < n → e < 1024 → (∀ j, k ≤ j → e.testBit j = false) → ∃ e', e' < 1024 ∧ fX9_layPlanks_20 K9 book of lasts (nI S) n (nI e) (nI k) = K9 (upd lasts S (nI e')) (nI (S + 1)) ∧
      ∀ p, e'.testBit p = true ↔ (e.testBit p = true ∨ (k ≤ p ∧ S.testBit p = true ∧ U.testBit p = true ∧ (dl S p = 0 ∨ ∃ q, (Sbs (dl S p) U ∧ Plk (jb bf) (dl S p) q) ∧ jb bf q p = true))) := by
  intro m
  induction m with
  | zero =>
    intro n k e hk hn he hz
    obtain ⟨n, rfl⟩ : ∃ q, n = q + 1 := ⟨n - 1, by omega⟩
    have : k = 10 := by omega
    subst this
    rw [fX9_layPlanks_20, if_pos (by decide), chk_nI hS (by decide), wr_nI (by omega), nI_1]
    refine ⟨e, he, rfl, fun p => ⟨fun h => Or.inl h, ?_⟩⟩
    rintro (h | ⟨h1, h2, -⟩)
    · exact h
    · have := bit_lt (n := 10) hS h2
      omega
  | succ m ih =>
    intro n k e hk hn he hz
    obtain ⟨n, rfl⟩ : ∃ q, n = q + 1 := ⟨n - 1, by omega⟩
    have h1 : ¬ (10 : Int32) ≤ nI k := by rw [k10, nI_leI (by decide) (by omega)]; omega
    have hk10 : k < 10 := by omega
    have h2k : 2 ^ k < 1024 := Nat.pow_lt_pow_right (show 1 < 2 by decide) hk10
    have skip : ¬ (S.testBit k = true ∧ U.testBit k = true) → ∀ e' : Nat, (∀ p, e'.testBit p = true ↔ (e.testBit p = true ∨ (k + 1 ≤ p ∧ S.testBit p = true ∧ U.testBit p = true ∧ (dl S p = 0 ∨ ∃ q, (Sbs (dl S p) U ∧ Plk (jb bf) (dl S p) q) ∧ jb bf q p = true)))) →
        ∀ p, e'.testBit p = true ↔ (e.testBit p = true ∨ (k ≤ p ∧ S.testBit p = true ∧ U.testBit p = true ∧ (dl S p = 0 ∨ ∃ q, (Sbs (dl S p) U ∧ Plk (jb bf) (dl S p) q) ∧ jb bf q p = true))) := by
      intro hno e' he' p
      rw [he']
      constructor
      · rintro (h | ⟨h, h2⟩)
        · exact Or.inl h
        · exact Or.inr ⟨by omega, h2⟩
      · rintro (h | ⟨h, h2, h3, h4⟩)
        · exact Or.inl h
        · refine Or.inr ⟨?_, h2, h3, h4⟩
          by_cases z : p = k
          · subst z; exact absurd ⟨h2, h3⟩ hno
          · omega
    rw [fX9_layPlanks_20, if_neg h1, has9 (by omega) (by omega), Option.bind_some, if10, chk_nI (show k < 35 by omega) (by decide), rd_nI (by omega), nI_1, dl_i S (by omega)]
    by_cases c : S.testBit k = true
    · rw [if_pos c]
      by_cases cb : book k = 3
      · rw [if_pos cb]
        obtain ⟨e', r1, r2, r3⟩ := ih n (k + 1) e (by omega) (by omega) he (fun j hj => hz j (by omega))
        exact ⟨e', r1, r2, skip (by rintro ⟨-, q⟩; rw [hU k hk10, cb] at q; exact absurd q (by decide)) e' r3⟩
      · have cU : U.testBit k = true := by rw [hU k hk10]; simp [cb]
        have hlt := dl_lt (show S < 2 ^ 32 by omega) c
        obtain ⟨r, r1, r2, r3⟩ := hT (dl S k) hlt
        have hrk : r.testBit k = false := by
          cases z : r.testBit k with
          | false => rfl
          | true =>
            have := (plk_iff.mp ((r3 k).mp z).2).1
            rw [dl_bit (by omega)] at this
            simp at this
        have z0 : (nI (dl S k) = (0 : Int32)) ↔ dl S k = 0 := by rw [← nI_0, nI_eq (by omega) (by decide)]
        obtain ⟨can', c1, c2⟩ := can_run (book := book) (K9 := K9) (K20 := fun y0 y1 => fX9_layPlanks_20 K9 book of lasts (nI S) n y0 y1) (S := S) (e := e) hb hk10 (show dl S k < 1024 by omega) r1 r2 hrk 10 2000 0 (decide (dl S k = 0)) (by omega) (by omega)
        have stp : (if nI (dl S k) = (0 : Int32) then fX9_layPlanks_68 K9 (fun y0 y1 => fX9_layPlanks_20 K9 book of lasts (nI S) n y0 y1) book of lasts (nI S) (nI e) (nI k) (nI (dl S k)) 2000 1 0 else fX9_layPlanks_68 K9 (fun y0 y1 => fX9_layPlanks_20 K9 book of lasts (nI S) n y0 y1) book of lasts (nI S) (nI e) (nI k) (nI (dl S k)) 2000 0 0) =
            fX9_layPlanks_20 K9 book of lasts (nI S) n (nI (if can' then e ||| 2 ^ k else e)) (nI (k + 1)) := by
          rw [nI_0] at c2
          by_cases z : dl S k = 0
          · rw [if_pos (z0.mpr z)]
            simp only [z, decide_true, if_true] at c2
            rw [z]
            exact c2
          · rw [if_neg (fun q => z (z0.mp q))]
            simp only [z, decide_false, if_false] at c2
            exact c2
        rw [if_neg cb, stp]
        have cc : can' = true ↔ (dl S k = 0 ∨ ∃ q, (Sbs (dl S k) U ∧ Plk (jb bf) (dl S k) q) ∧ jb bf q k = true) := by
          rw [c1, decide_eq_true_eq]
          constructor
          · rintro (h | ⟨q, -, q2, q3⟩)
            · exact Or.inl h
            · exact Or.inr ⟨q, (r3 q).mp q2, q3⟩
          · rintro (h | ⟨q, q2, q3⟩)
            · exact Or.inl h
            · exact Or.inr ⟨q, Nat.zero_le q, (r3 q).mpr q2, q3⟩
        cases can' with
        | true =>
          rw [if_pos rfl]
          obtain ⟨e', s1, s2, s3⟩ := ih n (k + 1) (e ||| 2 ^ k) (by omega) (by omega) (Nat.or_lt_two_pow (n := 10) he h2k) (fun j hj => by rw [Nat.testBit_or, Nat.testBit_two_pow, hz j (by omega)]; simp; omega)
          refine ⟨e', s1, s2, fun p => ?_⟩
          rw [s3, Nat.testBit_or, Nat.testBit_two_pow]
          by_cases z : p = k
          · subst z
            exact ⟨fun _ => Or.inr ⟨Nat.le_refl p, c, cU, cc.mp rfl⟩, fun _ => Or.inl (by simp)⟩
          · have z' : ¬ k = p := fun q => z q.symm
            simp only [z', decide_false, Bool.or_false]
            constructor
            · rintro (h | ⟨h, h2⟩)
              · exact Or.inl h
              · exact Or.inr ⟨by omega, h2⟩
            · rintro (h | ⟨h, h2⟩)
              · exact Or.inl h
              · exact Or.inr ⟨by omega, h2⟩
        | false =>
          rw [if_neg (by decide)]
          obtain ⟨e', s1, s2, s3⟩ := ih n (k + 1) e (by omega) (by omega) he (fun j hj => hz j (by omega))
          refine ⟨e', s1, s2, fun p => ?_⟩
          rw [s3]
          constructor
          · rintro (h | ⟨h, h2⟩)
            · exact Or.inl h
            · exact Or.inr ⟨by omega, h2⟩
          · rintro (h | ⟨h, h2, h3, h4⟩)
            · exact Or.inl h
            · refine Or.inr ⟨?_, h2, h3, h4⟩
              by_cases z : p = k
              · subst z; exact absurd (cc.mpr h4) (by decide)
              · omega
    · rw [if_neg c]
      obtain ⟨e', r1, r2, r3⟩ := ih n (k + 1) e (by omega) (by omega) he (fun j hj => hz j (by omega))
      exact ⟨e', r1, r2, skip (fun q => c q.1) e' r3⟩
theorem ref_run {of bf book : Nat → Int32} {U : Nat} (hb : ∀ p, p < 10 → RowOK of bf p) (hU : ∀ p, p < 10 → U.testBit p = !decide (book p = 3)) :
    ∀ m n S (lasts : Nat → Int32), S + m = 1024 → m < n → 0 < S → L9t U (jb bf) S lasts → ∃ lasts', fX9_layPlanks_9 book of n lasts (nI S) = some lasts' ∧ L9t U (jb bf) 1024 lasts' := by
  intro m
  induction m with
  | zero =>
    intro n S lasts hS hn h0 hT
    obtain ⟨n, rfl⟩ : ∃ q, n = q + 1 := ⟨n - 1, by omega⟩
    have : S = 1024 := by omega
    subst this
    rw [fX9_layPlanks_9, if_pos (by decide)]
    exact ⟨lasts, rfl, hT⟩
  | succ m ih =>
    intro n S lasts hS hn h0 hT
    obtain ⟨n, rfl⟩ : ∃ q, n = q + 1 := ⟨n - 1, by omega⟩
    have h1 : ¬ (1024 : Int32) ≤ nI S := by rw [show (1024 : Int32) = nI 1024 by decide, nI_leI (by decide) (by omega)]; omega
    have hS32 : S < 2 ^ 32 := by omega
    obtain ⟨e, e1, e2, e3⟩ := ends_run (K9 := fun y0 y1 => fX9_layPlanks_9 book of n y0 y1) hb (show S < 1024 by omega) hU hT 10 2000 0 0 (by omega) (by omega) (by omega) (fun j _ => Nat.zero_testBit j)
    rw [nI_0] at e2
    rw [fX9_layPlanks_9, if_neg h1, e2]
    refine ih n (S + 1) _ (by omega) (by omega) (by omega) (fun R hR => ?_)
    by_cases q : R = S
    · subst q
      refine ⟨e, e1, pk_us, fun p => ?_⟩
      rw [e3, Nat.zero_testBit]
      constructor
      · rintro (h | ⟨-, h2, h3, h4⟩)
        · exact absurd h (by decide)
        · rcases h4 with h4 | ⟨q, ⟨h5, h6⟩, h7⟩
          · refine ⟨fun j hj => ?_, plk_iff.mpr ⟨h2, Or.inl h4⟩⟩
            by_cases z : p = j
            · subst z; exact h3
            · have := dl_bit (i := p) (j := j) hS32
              rw [h4, Nat.zero_testBit, hj] at this
              simp [z] at this
          · refine ⟨fun j hj => ?_, plk_iff.mpr ⟨h2, Or.inr ⟨q, h6, h7⟩⟩⟩
            by_cases z : p = j
            · subst z; exact h3
            · exact h5 j (by rw [dl_bit hS32, hj]; simp [z])
      · rintro ⟨h1, h2⟩
        obtain ⟨h3, h4⟩ := plk_iff.mp h2
        refine Or.inr ⟨Nat.zero_le p, h3, h1 p h3, ?_⟩
        rcases h4 with h4 | ⟨q, h5, h6⟩
        · exact Or.inl h4
        · exact Or.inr ⟨q, ⟨sbs_tr (sbs_dl hS32) h1, h5⟩, h6⟩
    · obtain ⟨r, r1, r2, r3⟩ := hT R (by omega)
      exact ⟨r, r1, by rw [pk_un q]; exact r2, r3⟩
theorem ref_both {of bf book : Nat → Int32} {U : Nat} (lasts : Nat → Int32) (hb : ∀ p, p < 10 → RowOK of bf p) (hU : ∀ p, p < 10 → U.testBit p = !decide (book p = 3)) : ∃ lasts', fX9_layPlanks book of lasts = some lasts' ∧ L9t U (jb bf) 1024 lasts' := by
  obtain ⟨l, l1, l2⟩ := ref_run hb hU 1023 2000 1 (upd lasts 0 0) (by omega) (by omega) (by omega) (fun R hR => by
    have : R = 0 := by omega
    subst this
    refine ⟨0, by omega, by rw [pk_us, nI_0], fun p => ?_⟩
    rw [Nat.zero_testBit]
    constructor
    · intro h; exact absurd h (by decide)
    · rintro ⟨-, h⟩
      have := (plk_iff.mp h).1
      rw [Nat.zero_testBit] at this
      exact this)
  refine ⟨l, ?_, l2⟩
  unfold fX9_layPlanks
  rw [← nI_0, chk_nI (by decide) (by decide), wr_nI (by decide), nI_0]
  rw [← k1] at l1
  exact l1
