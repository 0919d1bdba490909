/-! THE WHEEL -/
theorem nx_and (a b : Nat) : nI a &&& nI b = nI (a &&& b) := by
  apply Int32.toBitVec_inj.1
  show BitVec.ofNat 32 a &&& BitVec.ofNat 32 b = BitVec.ofNat 32 (a &&& b)
  apply BitVec.eq_of_getLsbD_eq
  intro i hi
  simp [hi]
theorem nx_or (a b : Nat) : nI a ||| nI b = nI (a ||| b) := by
  apply Int32.toBitVec_inj.1
  show BitVec.ofNat 32 a ||| BitVec.ofNat 32 b = BitVec.ofNat 32 (a ||| b)
  apply BitVec.eq_of_getLsbD_eq
  intro i hi
  simp [hi]
theorem nx_xor (a b : Nat) : nI a ^^^ nI b = nI (a ^^^ b) := by
  apply Int32.toBitVec_inj.1
  show BitVec.ofNat 32 a ^^^ BitVec.ofNat 32 b = BitVec.ofNat 32 (a ^^^ b)
  apply BitVec.eq_of_getLsbD_eq
  intro i hi
  simp [hi]
theorem km1 : (-1 : Int32) = nI 4294967295 := by decide
theorem sh1 : ∀ w, w < 31 → jshl (1 : Int32) (nI w) = nI (2 ^ w) := by decide +kernel
def nr (h d w : Nat) : Bool := decide (w ≤ h + d) && decide (h ≤ w + d)
def bn (h d : Nat) : Nat := (List.range 8).foldl (fun b w => if nr h d w then b ||| 2 ^ w else b) 0
theorem near8 : ∀ h, h < 8 → ∀ d, d < 8 → fX8_bitsNear (nI h) (nI d) = some (nI (bn h d)) := by decide +kernel
theorem bn_lt : ∀ h, h < 8 → ∀ d, d < 8 → bn h d < 256 := by decide +kernel
theorem bn_bit : ∀ h, h < 8 → ∀ d, d < 8 → ∀ w, w < 8 → (bn h d).testBit w = nr h d w := by decide +kernel
theorem in_nr : ∀ h, h < 8 → ∀ d, d < 8 → ∀ w, w < 8 → fX9_in (nI w - nI h) (-(nI d)) (nI d) = some (if nr h d w then 1 else 0) := by decide +kernel
/-- a sight fits the house w -/
def f1 (sight : Nat → Int32) (k w : Nat) : Bool := nr (sight (3 * k)).toNatClampNeg (sight (3 * k + 1)).toNatClampNeg w == decide (sight (3 * k + 2) = 1)
def ft (sight : Nat → Int32) : Nat → Nat → Nat → Bool
  | 0, _, _ => true
  | m + 1, k, w => f1 sight k w && ft sight m (k + 1) w
theorem left_run {c : Nat} {house reach sounded sight : Nat → Int32} (hc : c ≤ 8) (e5 : ∀ i, i < 8 → house i = sight (3 * i) ∧ reach i = sight (3 * i + 1) ∧ sounded i = sight (3 * i + 2)) (v5 : ∀ i, i < 8 → Rg (sight (3 * i)) 0 7 ∧ Rg (sight (3 * i + 1)) 0 7 ∧ Rg (sight (3 * i + 2)) 0 1) :
    ∀ (m n k b : Nat), k + m = c → m < n → b < 256 → ∃ b', b' < 256 ∧ fX6_bitsLeft_6 (nI c) house reach sounded n (nI b) (nI k) = some (nI b') ∧ ∀ w, w < 8 → b'.testBit w = (b.testBit w && ft sight m k w) := by
  intro m
  induction m with
  | zero =>
    intro n k b hk hn hb
    obtain ⟨n, rfl⟩ : ∃ k, n = k + 1 := ⟨n - 1, by omega⟩
    rw [fX6_bitsLeft_6, if_pos (by rw [nI_leI (by omega) (by omega)]; omega)]
    exact ⟨b, hb, rfl, fun w _ => by rw [ft, Bool.and_true]⟩
  | succ m ih =>
    intro n k b hk hn hb
    obtain ⟨n, rfl⟩ : ∃ k, n = k + 1 := ⟨n - 1, by omega⟩
    obtain ⟨⟨h, -, hh, eh⟩, ⟨d, -, hd, ed⟩, ⟨s, -, hs, es⟩⟩ := v5 k (by omega)
    obtain ⟨g1, g2, g3⟩ := e5 k (by omega)
    rw [fX6_bitsLeft_6, if_neg (by rw [nI_leI (by omega) (by omega)]; omega)]
    simp only [km1]
    simp only [at8 (show k < 8 by omega) (by decide : 8 < 2 ^ 31), Option.bind_some, g1, g2, g3, eh, ed, es, near8 h (by omega) d (by omega), k1, l_add]
    have hbn := bn_lt h (by omega) d (by omega)
    by_cases q : nI s = nI 1
    · simp only [q, if_true, nx_and]
      obtain ⟨b', h1, h2, h3⟩ := ih n (k + 1) (b &&& bn h d) (by omega) (by omega) (Nat.lt_of_le_of_lt Nat.and_le_left hb)
      refine ⟨b', h1, h2, fun w hw => ?_⟩
      rw [h3 w hw, Nat.testBit_and, bn_bit h (by omega) d (by omega) w hw, ft, f1, eh, ed, es, q, nI_clamp (by omega), nI_clamp (by omega), ← k1]
      simp [Bool.and_assoc]
    · simp only [q, if_false, nx_xor, nx_and]
      obtain ⟨b', h1, h2, h3⟩ := ih n (k + 1) (b &&& (bn h d ^^^ 4294967295)) (by omega) (by omega) (Nat.lt_of_le_of_lt Nat.and_le_left hb)
      refine ⟨b', h1, h2, fun w hw => ?_⟩
      have hm : Nat.testBit 4294967295 w = true := by
        have : ∀ w, w < 8 → Nat.testBit 4294967295 w = true := by decide
        exact this w hw
      have q' : ¬ nI s = (1 : Int32) := by rw [k1]; exact q
      rw [h3 w hw, Nat.testBit_and, Nat.testBit_xor, hm, bn_bit h (by omega) d (by omega) w hw, ft, f1, eh, ed, es, nI_clamp (by omega), nI_clamp (by omega)]
      simp [q', Bool.and_assoc]
theorem set_in {c w : Nat} {sight : Nat → Int32} {K : Int32 → Int32 → Option Int32} {x1 : Int32} (hc : c ≤ 8) (hw : w < 8) (v5 : ∀ i, i < 8 → Rg (sight (3 * i)) 0 7 ∧ Rg (sight (3 * i + 1)) 0 7 ∧ Rg (sight (3 * i + 2)) 0 1) :
    ∀ (m n k f : Nat), k + m = c → m < n → f < 2 → fX9_wheelSet_15 K (nI c) sight x1 (nI w) n (nI f) (nI k) = if (f == 1 && ft sight m k w) = true then K (x1 ||| nI (2 ^ w)) (nI (w + 1)) else K (x1 ||| nI 0) (nI (w + 1)) := by
  intro m
  induction m with
  | zero =>
    intro n k f hk hn hf
    obtain ⟨n, rfl⟩ : ∃ k, n = k + 1 := ⟨n - 1, by omega⟩
    rw [fX9_wheelSet_15, if_pos (by rw [nI_leI (by omega) (by omega)]; omega)]
    have h0 : (nI f = (0 : Int32)) ↔ f = 0 := by rw [← nI_0, nI_eq (by omega) (by decide)]
    simp only [h0, ft, Bool.and_true, sh1 w (by omega)]
    simp only [k1, l_add, nI_0]
    rcases (show f = 0 ∨ f = 1 by omega) with rfl | rfl
    · rfl
    · rfl
  | succ m ih =>
    intro n k f hk hn hf
    obtain ⟨n, rfl⟩ : ∃ k, n = k + 1 := ⟨n - 1, by omega⟩
    obtain ⟨⟨h, -, hh, eh⟩, ⟨d, -, hd, ed⟩, ⟨s, -, hs, es⟩⟩ := v5 k (by omega)
    rw [fX9_wheelSet_15, if_neg (by rw [nI_leI (by omega) (by omega)]; omega)]
    have h0 : (nI f = (0 : Int32)) ↔ f = 0 := by rw [← nI_0, nI_eq (by omega) (by decide)]
    have i0 := ih n (k + 1) 0 (by omega) (by omega) (by omega)
    have i1 := ih n (k + 1) 1 (by omega) (by omega) (by omega)
    have hs1 : (nI s = nI 1) ↔ s = 1 := by rw [nI_eq (by omega) (by decide)]
    have hf1 : f1 sight k w = (nr h d w == decide (s = 1)) := by
      rw [f1, eh, ed, es, nI_clamp (by omega), nI_clamp (by omega)]
      simp only [k1, hs1]
    simp only [k3, k1, k2, pk_mul, l_add, chk_nI (show 3 * k < 24 by omega) (by decide : 24 < 2 ^ 31), chk_nI (show 3 * k + 1 < 24 by omega) (by decide : 24 < 2 ^ 31), chk_nI (show 3 * k + 2 < 24 by omega) (by decide : 24 < 2 ^ 31), rd, nI_clamp (show 3 * k < 2 ^ 31 by omega), nI_clamp (show 3 * k + 1 < 2 ^ 31 by omega), nI_clamp (show 3 * k + 2 < 2 ^ 31 by omega), eh, ed, es, in_nr h (by omega) d (by omega) w hw, Option.bind_some, fX9_wheelSet_80, h0, hs1]
    rw [nI_0] at i0
    rcases (show f = 0 ∨ f = 1 by omega) with rfl | rfl
    · simp only [if_true]
      rw [i0]
      rfl
    · simp only [ft, hf1, Nat.one_ne_zero, if_false, i0, i1]
      rcases (show s = 0 ∨ s = 1 by omega) with rfl | rfl <;> cases hq : nr h d w <;> simp [nI_0] <;> (try (intro q; exact absurd q (by decide)))
theorem set_run {c : Nat} {sight : Nat → Int32} (hc : c ≤ 8) (v5 : ∀ i, i < 8 → Rg (sight (3 * i)) 0 7 ∧ Rg (sight (3 * i + 1)) 0 7 ∧ Rg (sight (3 * i + 2)) 0 1) :
    ∀ (m n w b : Nat), w + m = 8 → m < n → b < 2 ^ w → ∃ b', b' < 256 ∧ fX9_wheelSet_4 (nI c) sight n (nI b) (nI w) = some (nI b') ∧ ∀ v, v < 8 → b'.testBit v = if v < w then b.testBit v else ft sight c 0 v := by
  intro m
  induction m with
  | zero =>
    intro n w b hw hn hb
    obtain ⟨n, rfl⟩ : ∃ k, n = k + 1 := ⟨n - 1, by omega⟩
    have : w = 8 := by omega
    subst this
    rw [fX9_wheelSet_4, if_pos (by decide)]
    exact ⟨b, hb, rfl, fun v hv => by rw [if_pos hv]⟩
  | succ m ih =>
    intro n w b hw hn hb
    obtain ⟨n, rfl⟩ : ∃ k, n = k + 1 := ⟨n - 1, by omega⟩
    rw [fX9_wheelSet_4, if_neg (by rw [k8, nI_leI (by omega) (by omega)]; omega)]
    have q := set_in (w := w) (x1 := nI b) (K := fun y0 y1 => fX9_wheelSet_4 (nI c) sight n y0 y1) hc (by omega) v5 c 2000 0 1 (by omega) (by omega) (by omega)
    rw [nI_0, ← k1] at q
    rw [q]
    have hp : (2 : Nat) ^ (w + 1) = 2 ^ w + 2 ^ w := by rw [Nat.pow_succ]; omega
    cases hft : ft sight c 0 w
    · simp only [beq_self_eq_true, Bool.true_and, Bool.false_eq_true, if_false, ← nI_0, nx_or, Nat.or_zero]
      obtain ⟨b', h1, h2, h3⟩ := ih n (w + 1) b (by omega) (by omega) (by omega)
      refine ⟨b', h1, h2, fun v hv => ?_⟩
      rw [h3 v hv]
      by_cases e : v = w
      · subst e
        rw [if_pos (by omega), if_neg (by omega), hft, Nat.testBit_lt_two_pow hb]
      · by_cases e2 : v < w
        · rw [if_pos (by omega), if_pos e2]
        · rw [if_neg (by omega), if_neg e2]
    · simp only [beq_self_eq_true, Bool.true_and, if_true, nx_or]
      have hlt : b ||| 2 ^ w < 2 ^ (w + 1) := Nat.or_lt_two_pow (by omega) (by rw [hp]; have := Nat.two_pow_pos w; omega)
      obtain ⟨b', h1, h2, h3⟩ := ih n (w + 1) (b ||| 2 ^ w) (by omega) (by omega) hlt
      refine ⟨b', h1, h2, fun v hv => ?_⟩
      rw [h3 v hv]
      by_cases e : v = w
      · subst e
        rw [if_pos (by omega), if_neg (by omega), hft, Nat.testBit_or, Nat.testBit_two_pow_self, Bool.or_true]
      · by_cases e2 : v < w
        · rw [if_pos (by omega), if_pos e2, Nat.testBit_or, Nat.testBit_two_pow_of_ne (by omega), Bool.or_false]
        · rw [if_neg (by omega), if_neg e2]
theorem wheel_both {year : Int32} {wreck wood length left right place rings hpiece partner children : Nat → Int32} {count : Int32} {house reach sounded : Nat → Int32} {book of sight : Nat → Int32} {sights : Int32}
    (h : RS year wreck wood length left right place rings hpiece partner children count house reach sounded book of sight sights) :
    ∃ b, b < 256 ∧ fX6_bitsLeft count house reach sounded = some (nI b) ∧ fX9_wheelSet sights sight = some (nI b) := by
  obtain ⟨⟨e1, e2, e3, e4, e5⟩, v1, v2, v3, ⟨c, -, hc, ec⟩, v5⟩ := h
  subst e4; subst ec
  obtain ⟨b1, p1, p2, p3⟩ := left_run hc e5 v5 c 2000 0 255 (by omega) (by omega) (by omega)
  obtain ⟨b2, r1, r2, r3⟩ := set_run hc v5 8 2000 0 0 (by omega) (by omega) (by decide)
  have e : b1 = b2 := by
    refine Nat.eq_of_testBit_eq (fun i => ?_)
    by_cases hi : i < 8
    · have : ∀ w, w < 8 → Nat.testBit 255 w = true := by decide
      rw [p3 i hi, r3 i hi, this i hi, if_neg (by omega), Bool.true_and]
    · have hp : 256 ≤ 2 ^ i := by
        have := Nat.pow_le_pow_right (show 0 < 2 by decide) (show 8 ≤ i by omega)
        exact this
      rw [Nat.testBit_lt_two_pow (by omega), Nat.testBit_lt_two_pow (by omega)]
  subst e
  rw [nI_0] at p2 r2
  exact ⟨b1, p1, p2, r2⟩
theorem core_wheel {year : Int32} {wreck wood length left right place rings hpiece partner children : Nat → Int32} {count : Int32} {house reach sounded : Nat → Int32} {book of sight : Nat → Int32} {sights : Int32}
    (h : RS year wreck wood length left right place rings hpiece partner children count house reach sounded book of sight sights) :
    ∃ zx zm, fX8_wheel count house reach sounded = some zx ∧ fX9_wheel sights sight = some zm ∧ zx = zm := by
  obtain ⟨b, -, h1, h2⟩ := wheel_both h
  exact ⟨nI b, nI b, by unfold fX8_wheel; rw [h1]; rfl, by unfold fX9_wheel; rw [h2]; rfl, rfl⟩
