/-! how it begins -/
def A0 : aPl := ((0, 0, 20, 0, 0), (fun _ => 0), (fun _ => 0), (fun _ => 0), [], [])
theorem okPl_0 : okPl A0 := ⟨Nat.zero_le _, Nat.zero_le _, ⟨by decide, by decide⟩, Nat.zero_le _, Nat.zero_le _, fun j hj => absurd hj (Nat.not_lt_zero _), fun j hj => absurd hj (Nat.not_lt_zero _), Nat.zero_le _, Nat.zero_le _, Or.inl rfl, Or.inl rfl⟩
theorem live_0 {j : Nat} (h : live A0 j) : j = 0 := by
  have h1 : pR A0 = 0 := rfl
  have h2 : pC A0 = 0 := rfl
  unfold live at h
  omega
theorem okR_0 : okR A0 999 (fun _ => 0) := ⟨⟨0, rfl, by omega⟩, fun r hr => absurd hr (Nat.not_lt_zero _), fun r q hr => absurd hr (Nat.not_lt_zero _)⟩
theorem cRu_0 {I : mIT} {q : Nat} (h : I q 5 = 0) : cRu I q [] := ⟨h, Nat.zero_le _, fun i hi => absurd hi (Nat.not_lt_zero _), Or.inl rfl⟩
theorem pP_0 : pP iI0 iR0 iL0 := by
  refine ⟨22, 0, A0, fun _ => 0, 0, fun _ _ => 0, [], wB_ok (by decide +kernel), ⟨3, by decide +kernel, Or.inl rfl, by decide⟩, okPl_0, okR_0, ⟨Nat.zero_le _, fun i hi => absurd hi (Nat.not_lt_zero _)⟩, ⟨Nat.zero_le _, fun i hi => absurd hi (Nat.not_lt_zero _)⟩, ⟨by decide +kernel, Or.inr rfl, ?_, ?_, ?_⟩, Or.inl rfl, ?_, ?_, ?_, ?_⟩
  · exact ⟨rfl, rfl, rfl, rfl, rfl, rfl, fun r hr => absurd hr (Nat.not_lt_zero _), fun r hr => absurd hr (Nat.not_lt_zero _), fun r hr => absurd hr (Nat.not_lt_zero _), cRu_0 rfl, cRu_0 rfl⟩
  · intro j hj
    rw [live_0 hj]
    rfl
  · exact ⟨rfl, by omega, fun q => absurd q (by omega), fun k hk => absurd hk (by omega)⟩
  · refine ⟨⟨rfl, rfl, rfl, rfl, rfl, fun r hr => absurd hr (Nat.not_lt_zero _), fun r hr => absurd hr (Nat.not_lt_zero _), fun r hr => absurd hr (Nat.not_lt_zero _), Or.inl ⟨rfl, rfl⟩, Or.inl ⟨rfl, rfl⟩⟩, ?_, rfl⟩
    intro j hj
    rw [live_0 hj]
    rfl
  · exact ⟨⟨0, by omega, rfl, rfl, fun i hi => absurd hi (Nat.not_lt_zero _)⟩, ⟨rfl, fun i hi => absurd hi (Nat.not_lt_zero _)⟩, ⟨rfl, fun i hi => absurd hi (Nat.not_lt_zero _)⟩, ⟨rfl, fun i hi => absurd hi (Nat.not_lt_zero _)⟩⟩
  · exact Or.inl ⟨rfl, rfl⟩
  · refine ⟨⟨0, by omega, rfl, rfl, fun j hj => absurd hj (Nat.not_lt_zero _)⟩, rfl, fun j hj => ?_⟩
    rcases (by omega : j = 0 ∨ j = 1 ∨ j = 2) with rfl | rfl | rfl <;> rfl
