/-! SETS AS BITS -/
theorem shs : ∀ i, i < 31 → (((nI i) &&& 31).toBitVec.smod 32).toNat = i := by decide +kernel
theorem hasN {S i : Nat} (hS : S < 2 ^ 31) (hi : i < 31) : jshr (nI S) (nI i) &&& 1 = if S.testBit i then 1 else 0 := by
  have e : jshr (nI S) (nI i) = nI (S / 2 ^ i) := pk_shrN hS _ i (shs i hi)
  have hd : S / 2 ^ i ≤ S := Nat.div_le_self _ _
  rw [e, pk_andN (show S / 2 ^ i < 2 ^ 32 by omega) 1 rfl, Nat.testBit_eq_decide_div_mod_eq]
  have h2 : S / 2 ^ i % 2 ^ 1 = 0 ∨ S / 2 ^ i % 2 ^ 1 = 1 := by omega
  have e2 : S / 2 ^ i % 2 = S / 2 ^ i % 2 ^ 1 := rfl
  rw [e2]
  rcases h2 with q | q
  · rw [q]; rfl
  · rw [q]; rfl
theorem has8 {S i : Nat} (hS : S < 2 ^ 31) (hi : i < 31) : fX8_has (nI S) (nI i) = some (if S.testBit i then 1 else 0) := by
  unfold fX8_has
  rw [hasN hS hi]
  cases S.testBit i <;> rfl
theorem has9 {S i : Nat} (hS : S < 2 ^ 31) (hi : i < 31) : fX9_has (nI S) (nI i) = some (if S.testBit i then 1 else 0) := by
  unfold fX9_has
  rw [hasN hS hi]
  cases S.testBit i <;> rfl
def dl (S i : Nat) : Nat := S &&& (2 ^ i ^^^ 4294967295)
theorem dl_i (S : Nat) {i : Nat} (hi : i < 31) : nI S &&& (jshl 1 (nI i) ^^^ (-1)) = nI (dl S i) := by
  rw [sh1 i hi, km1, nx_xor, nx_and]; rfl
theorem dl_bit {S i j : Nat} (hS : S < 2 ^ 32) : (dl S i).testBit j = (S.testBit j && !decide (i = j)) := by
  unfold dl
  rw [Nat.testBit_and, Nat.testBit_xor, Nat.testBit_two_pow, show 4294967295 = 2 ^ 32 - 1 from rfl, Nat.testBit_two_pow_sub_one]
  by_cases hj : j < 32
  · simp [hj]
  · have : S.testBit j = false := Nat.testBit_lt_two_pow (Nat.lt_of_lt_of_le hS (Nat.pow_le_pow_right (by decide) (by omega)))
    rw [this]; simp
theorem dl_le (S i : Nat) : dl S i ≤ S := Nat.and_le_left
theorem dl_lt {S i : Nat} (hS : S < 2 ^ 32) (h : S.testBit i = true) : dl S i < S := by
  rcases Nat.lt_or_eq_of_le (dl_le S i) with q | q
  · exact q
  · have := dl_bit (i := i) (j := i) hS
    rw [q, h] at this
    simp at this
theorem xor_dl {S i : Nat} (hS : S < 2 ^ 32) (h : S.testBit i = true) : S ^^^ 2 ^ i = dl S i := by
  apply Nat.eq_of_testBit_eq
  intro j
  rw [Nat.testBit_xor, Nat.testBit_two_pow, dl_bit hS]
  by_cases q : i = j
  · subst q; simp [h]
  · simp [q]
theorem bit_lt {S n i : Nat} (hS : S < 2 ^ n) (h : S.testBit i = true) : i < n := by
  by_cases q : i < n
  · exact q
  · have := Nat.testBit_lt_two_pow (Nat.lt_of_lt_of_le hS (Nat.pow_le_pow_right (by decide) (show n ≤ i by omega)))
    rw [this] at h
    exact absurd h (by decide)
theorem low_ex {S n : Nat} (hS : S < 2 ^ n) (h0 : S ≠ 0) : ∃ h, h < n ∧ S.testBit h = true ∧ ∀ j, j < h → S.testBit j = false := by
  obtain ⟨h, h1, h2⟩ := pk_least (fun i => S.testBit i = true) (Nat.exists_testBit_of_ne_zero h0)
  exact ⟨h, bit_lt hS h1, h1, fun j hj => by simpa using h2 j hj⟩
theorem fill_run {n : Nat} {x : Int32} (hn : n < 2 ^ 31) : ∀ (m k fuel : Nat) (to : Nat → Int32), k + m = n → m < fuel → (∀ i, i < k → to i = x) → ∃ r, fX8_fill_2 n x fuel to (nI k) = some r ∧ ∀ i, i < n → r i = x := by
  intro m
  induction m with
  | zero =>
    intro k fuel to hk hf he
    obtain ⟨fuel, rfl⟩ : ∃ q, fuel = q + 1 := ⟨fuel - 1, by omega⟩
    have : k = n := by omega
    subst this
    rw [fX8_fill_2, show Int32.ofNat k = nI k from rfl, if_pos (nI_le (Nat.le_refl k) hn)]
    exact ⟨to, rfl, he⟩
  | succ m ih =>
    intro k fuel to hk hf he
    obtain ⟨fuel, rfl⟩ : ∃ q, fuel = q + 1 := ⟨fuel - 1, by omega⟩
    rw [fX8_fill_2, show Int32.ofNat n = nI n from rfl, if_neg (nI_ge (by omega) hn), chk_nI (by omega) hn, wr_nI (by omega), nI_1]
    refine ih (k + 1) fuel _ (by omega) (by omega) (fun i hi => ?_)
    by_cases q : i = k
    · subst q; exact pk_us
    · rw [pk_un q]; exact he i (by omega)
theorem fill8 {n : Nat} (to : Nat → Int32) (x : Int32) (hn : n < 2000) : ∃ r, fX8_fill n to x = some r ∧ ∀ i, i < n → r i = x := by
  have := fill_run (x := x) (show n < 2 ^ 31 by omega) n 0 2000 to (by omega) (by omega) (fun i hi => absurd hi (by omega))
  rw [nI_0] at this
  exact this
theorem fo_skip (f : Nat → Option Int32) : ∀ a b p, (∀ i, p ≤ i → i < p + a → f i = none) → fo f (a + b) p = fo f b (p + a) := by
  intro a
  induction a with
  | zero => intro b p _; rw [Nat.zero_add, Nat.add_zero]
  | succ a ih =>
    intro b p h
    rw [show a + 1 + b = (a + b) + 1 by omega, fo, h p (Nat.le_refl p) (by omega), show p + (a + 1) = p + 1 + a by omega]
    exact ih b (p + 1) (fun i hi hi2 => h i (by omega) (by omega))
