/-! THE FAULT: both automata are one -/
def isL (t : Nat) : Bool := decide (65 ≤ t) && decide (t ≤ 72)
def isD (t : Nat) : Bool := decide (48 ≤ t) && decide (t ≤ 57)
def du (d t : Nat) : Nat :=
  if d = 0 then (if isL t then 1 else if isD t || t == 46 then 0 else 3)
  else if d = 1 then (if t == 43 then 2 else if isD t || t == 45 || t == 42 then 0 else 3)
  else (if isL t then 0 else 3)
set_option maxRecDepth 100000 in
theorem due8 : ∀ d, d < 3 → ∀ t, t < 127 → fX2_dueAfter (nI d) (nI t) = some (nI (du d t)) := by decide +kernel
set_option maxRecDepth 100000 in
theorem let9 : ∀ t, t < 127 → fX9_isLetter (nI t) = some (if isL t then 1 else 0) := by decide +kernel
set_option maxRecDepth 100000 in
theorem dig9 : ∀ t, t < 127 → fX9_isDigit (nI t) = some (if isD t then 1 else 0) := by decide +kernel
theorem nI_lit {t k : Nat} {K : Int32} (ht : t < 2 ^ 31) (hK : K = nI k) (hk : k < 2 ^ 31) : (nI t = K) ↔ t = k := by rw [hK, nI_eq ht hk]
/-- one step of the reference's automaton -/
theorem step9 {c d t i n : Nat} {pad : Nat → Int32} (hd : d < 3) (hic : i < c) (hc : c ≤ 60) (ht : t < 127) (hp : pad i = nI t) :
    fX9_faultOf_4 (nI c) pad (n + 1) (nI d) (nI i) = if du d t = 3 then some (nI i) else fX9_faultOf_4 (nI c) pad n (nI (du d t)) (nI (i + 1)) := by
  rw [fX9_faultOf_4]
  have h1 : ¬ nI c ≤ nI i := by rw [nI_leI (by omega) (by omega)]; omega
  have h2 : rd pad (nI i) = nI t := by rw [rd_nI (by omega), hp]
  have h43 := nI_lit (t := t) (k := 43) (K := 43) (by omega) (by decide) (by decide)
  have h45 := nI_lit (t := t) (k := 45) (K := 45) (by omega) (by decide) (by decide)
  have h42 := nI_lit (t := t) (k := 42) (K := 42) (by omega) (by decide) (by decide)
  have h46 := nI_lit (t := t) (k := 46) (K := 46) (by omega) (by decide) (by decide)
  simp only [h1, if_false, chk_nI (show i < 60 by omega) (by decide : 60 < 2 ^ 31), h2, let9 t ht, dig9 t ht, Option.bind_some, h43, h45, h42, h46]
  rcases (show d = 0 ∨ d = 1 ∨ d = 2 by omega) with rfl | rfl | rfl
  · simp only [fX9_faultOf_93, h2, let9 t ht, dig9 t ht, Option.bind_some, k1, l_add, du, nI_0]
    by_cases a : isL t = true <;> by_cases b : isD t = true <;> by_cases e : t = 46 <;> simp [a, b, e] <;> (try subst e) <;> first | rfl | (exact absurd a (by decide)) | (exact absurd b (by decide)) | skip
  · have q0 : ¬ nI 1 = (0 : Int32) := by decide
    have q2 : ¬ nI 1 = (2 : Int32) := by decide
    simp only [fX9_faultOf_93, h2, let9 t ht, dig9 t ht, Option.bind_some, k1, l_add, du, q0, q2, h43, h45, h42]
    by_cases b : isD t = true <;> by_cases e : t = 43 <;> by_cases e2 : t = 45 <;> by_cases e3 : t = 42 <;> simp [b, e, e2, e3, nI_0, q0] <;> (try subst e) <;> (try subst e2) <;> (try subst e3) <;> first | rfl | (exact absurd b (by decide)) | omega | skip
  · have q0 : ¬ nI 2 = (0 : Int32) := by decide
    have q1 : ¬ nI 2 = nI 1 := by decide
    have q2 : nI 2 = (2 : Int32) := by decide
    simp only [fX9_faultOf_93, h2, let9 t ht, dig9 t ht, Option.bind_some, k1, l_add, du, q0, q1, q2, nI_0]
    by_cases a : isL t = true <;> simp [a, nI_0, show ¬ nI 1 = (0 : Int32) by decide, show ¬ (2 : Int32) = nI 1 by decide]
theorem step8 {c d t i n : Nat} {signs : Nat → Int32} (hd : d < 3) (hic : i < c) (hc : c ≤ 60) (ht : t < 127) (hp : signs i = nI t) :
    fX2_firstWrong_4 (nI c) signs (n + 1) (nI d) (nI i) = if du d t = 3 then some (nI i) else fX2_firstWrong_4 (nI c) signs n (nI (du d t)) (nI (i + 1)) := by
  rw [fX2_firstWrong_4]
  have h1 : ¬ nI c ≤ nI i := by rw [nI_leI (by omega) (by omega)]; omega
  have hdu : du d t ≤ 3 := by unfold du; grind
  have h3 : (nI (du d t) = (3 : Int32)) ↔ du d t = 3 := by rw [k3, nI_eq (by omega) (by decide)]
  simp only [h1, if_false, at8 (show i < 60 by omega) (by decide : 60 < 2 ^ 31), hp, Option.bind_some, due8 d hd t ht, h3, k1, l_add]
/-- the automaton comes through, from the state d, over m signs from i on -/
def okr (pad : Nat → Int32) : Nat → Nat → Nat → Prop
  | 0, d, _ => d = 0
  | m + 1, d, i => du d (pad i).toNatClampNeg ≠ 3 ∧ okr pad m (du d (pad i).toNatClampNeg) (i + 1)
theorem fault_run {c : Nat} {signs pad : Nat → Int32} (hc : c ≤ 60) (e1 : ∀ i, i < 60 → signs i = pad i) (e2 : ∀ i, i < c → Rg (pad i) 33 126) :
    ∀ (m n d i : Nat), d < 3 → i + m = c → m < n → ∃ r, fX2_firstWrong_4 (nI c) signs n (nI d) (nI i) = some r ∧ fX9_faultOf_4 (nI c) pad n (nI d) (nI i) = some r ∧ ((r = -6 ∧ okr pad m d i) ∨ (¬ okr pad m d i ∧ ∃ j, j ≤ c ∧ r = nI j)) := by
  intro m
  induction m with
  | zero =>
    intro n d i hd hi hn
    obtain ⟨n, rfl⟩ : ∃ k, n = k + 1 := ⟨n - 1, by omega⟩
    have hi : i = c := by omega
    subst hi
    rw [fX2_firstWrong_4, fX9_faultOf_4]
    have h1 : nI i ≤ nI i := by rw [nI_leI (by omega) (by omega)]; omega
    have h0 : (nI d = (0 : Int32)) ↔ d = 0 := by rw [← nI_0, nI_eq (by omega) (by decide)]
    simp only [h1, if_true, h0]
    by_cases q : d = 0
    · simp only [q, if_true]
      exact ⟨_, rfl, rfl, Or.inl ⟨rfl, rfl⟩⟩
    · simp only [q, if_false]
      exact ⟨_, rfl, rfl, Or.inr ⟨q, i, by omega, rfl⟩⟩
  | succ m ih =>
    intro n d i hd hi hn
    obtain ⟨n, rfl⟩ : ∃ k, n = k + 1 := ⟨n - 1, by omega⟩
    obtain ⟨t, ht1, ht2, ht⟩ := e2 i (by omega)
    rw [step8 hd (by omega) hc (by omega) ((e1 i (by omega)).trans ht), step9 hd (by omega) hc (by omega) ht]
    have hcl : (pad i).toNatClampNeg = t := by rw [ht, nI_clamp (by omega)]
    by_cases q : du d t = 3
    · simp only [q, if_true]
      refine ⟨_, rfl, rfl, Or.inr ⟨?_, i, by omega, rfl⟩⟩
      rintro ⟨h, -⟩
      rw [hcl] at h
      exact h q
    · simp only [q, if_false]
      have hdu : du d t ≤ 3 := by unfold du; grind
      obtain ⟨r, r1, r2, r3⟩ := ih n (du d t) (i + 1) (by omega) (by omega) (by omega)
      refine ⟨r, r1, r2, ?_⟩
      rcases r3 with ⟨a, b⟩ | ⟨a, b⟩
      · exact Or.inl ⟨a, by rw [hcl]; exact q, by rw [hcl]; exact b⟩
      · refine Or.inr ⟨?_, b⟩
        rintro ⟨-, h⟩
        rw [hcl] at h
        exact a h
theorem fault_both {count : Int32} {signs : Nat → Int32} {msigns : Int32} {pad : Nat → Int32} (h : RP count signs msigns pad) :
    ∃ r c, c ≤ 60 ∧ count = nI c ∧ msigns = nI c ∧ fX2_firstWrong count signs = some r ∧ fX9_faultOf msigns pad = some r ∧ ((r = -6 ∧ okr pad c 0 0) ∨ (¬ okr pad c 0 0 ∧ ∃ j, j ≤ c ∧ r = nI j)) := by
  obtain ⟨c, hc, rfl, rfl, e1, e2⟩ := h
  obtain ⟨r, r1, r2, r3⟩ := fault_run hc e1 e2 c 2000 0 0 (by decide) (by omega) (by omega)
  rw [nI_0] at r1 r2
  exact ⟨r, c, hc, rfl, rfl, r1, r2, r3⟩
theorem core_fault {count : Int32} {signs : Nat → Int32} {msigns : Int32} {pad : Nat → Int32} (h : RP count signs msigns pad) :
    ∃ zx zm, fX8_fault count signs = some zx ∧ fX9_fault msigns pad = some zm ∧ zx = zm := by
  obtain ⟨r, c, -, -, -, r1, r2, -⟩ := fault_both h
  exact ⟨r, r, by unfold fX8_fault; rw [r1]; rfl, by unfold fX9_fault; rw [r2]; rfl, rfl⟩
