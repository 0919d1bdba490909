/-! THE START -/
def initOk : Bool := match fX8_init, fX9_init with
  | some zx, some zm => ((List.range 10).all fun p => decide (zx.1 p = nI p) && decide (zm.2 p = nI p) && decide (zx.2.1 p = nI 1) && decide (zm.2 (20 + p) = nI 1) && decide (zm.2 (10 + p) = nI 0) && decide (zm.2 (30 + p) = nI 0) && decide (zm.2 (40 + p) = nI 0) && decide (zm.2 (50 + p) = nI 0) && decide (zm.1 p = nI 0)) &&
     ((List.range 8).all fun h => decide (zx.2.2.1 h = -6) && decide (zx.2.2.2.1 h = -6) && decide (zm.1 (10 + h) = -6) && decide (zm.1 (18 + h) = -6) && decide (zm.1 (26 + h) = nI 0)) && decide (zm.1 34 = nI 0)
  | _, _ => false
set_option maxRecDepth 1000000 in
theorem initOk_t : initOk = true := by decide +kernel
theorem init_both : ∃ zx zm, fX8_init = some zx ∧ fX9_init = some zm ∧ RS 0 zx.1 (fun _ => 0) zx.2.1 (fun _ => 0) (fun _ => 0) (fun _ => 0) (fun _ => 0) zx.2.2.1 zx.2.2.2.1 (fun _ => 0) 0 (fun _ => 0) (fun _ => 0) (fun _ => 0) zm.1 zm.2 (fun _ => 0) 0 := by
  have h := initOk_t
  unfold initOk at h
  cases e1 : fX8_init with
  | none => rw [e1] at h; cases h
  | some zx =>
    cases e2 : fX9_init with
    | none => rw [e1, e2] at h; cases h
    | some zm =>
      rw [e1, e2] at h
      simp only [Bool.and_eq_true, List.all_eq_true, List.mem_range, decide_eq_true_eq] at h
      obtain ⟨⟨hp, hh⟩, hy⟩ := h
      have r0 : ∀ b : Nat, Rg (nI 0) 0 b := fun b => ⟨0, Nat.le_refl 0, Nat.zero_le b, rfl⟩
      refine ⟨zx, zm, rfl, rfl, ⟨fun p q => ?_, fun k q => ?_, ?_, rfl, fun i q => ⟨rfl, rfl, rfl⟩⟩, fun p q => ?_, fun k q => ?_, ?_, ?_, fun i q => ?_⟩
      · obtain ⟨⟨⟨⟨⟨⟨⟨⟨a1, a2⟩, a3⟩, a4⟩, a5⟩, a6⟩, a7⟩, a8⟩, a9⟩ := hp p q
        exact ⟨by rw [a1, a2], by rw [a5, nI_0], by rw [a3, a4], by rw [a6, nI_0], by rw [a7, nI_0], by rw [a8, nI_0], by rw [a9, nI_0]⟩
      · obtain ⟨⟨⟨⟨b1, b2⟩, b3⟩, b4⟩, b5⟩ := hh k q
        exact ⟨by rw [b1, b3], by rw [b2, b4], by rw [b5, nI_0]⟩
      · rw [hy, nI_0]
      · obtain ⟨⟨⟨⟨⟨⟨⟨⟨a1, a2⟩, a3⟩, a4⟩, a5⟩, a6⟩, a7⟩, a8⟩, a9⟩ := hp p q
        rw [a2, a4, a5, a6, a7, a8, a9]
        exact ⟨⟨p, by omega, by omega, rfl⟩, r0 _, ⟨1, by omega, by omega, rfl⟩, r0 _, r0 _, r0 _, r0 _⟩
      · obtain ⟨⟨⟨⟨b1, b2⟩, b3⟩, b4⟩, b5⟩ := hh k q
        rw [b5]
        exact ⟨Or.inl b3, Or.inl b4, r0 _⟩
      · rw [hy]; exact r0 _
      · rw [← nI_0]; exact r0 _
      · have z : ∀ b : Nat, Rg (0 : Int32) 0 b := fun b => by rw [← nI_0]; exact r0 b
        exact ⟨z _, z _, z _⟩
