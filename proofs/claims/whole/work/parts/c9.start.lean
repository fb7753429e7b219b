/-! the start -/
section
def zc0 (_ : Nat) : Nat := 0
def zp0 (k : Nat) : Nat := if k = 0 then 10 else if k = 1 then 5 else if k = 2 then 0 else 1
theorem zVT0 : zVT 1 zc0 zc0 zc0 := ⟨by decide, by decide, fun i h1 h2 => by omega, rfl⟩
theorem zIQ0 : zIQ zR0 zM0 zp0 := by
  refine ⟨by unfold zVQ zp0; decide, fun k hk => ?_, fun k hk => ?_, by decide, by decide, by decide, by decide⟩
  · have : k = 0 ∨ k = 1 ∨ k = 2 ∨ k = 3 := by omega
    rcases this with rfl | rfl | rfl | rfl <;> decide
  · have : k = 0 ∨ k = 1 ∨ k = 2 ∨ k = 3 := by omega
    rcases this with rfl | rfl | rfl | rfl <;> decide
theorem zIP0 : zIP zR0 zP0 zM0 0 zc0 zc0 zc0 zc0 zc0 zc0 := ⟨⟨by decide, fun p hp => absurd hp (Nat.not_lt_zero p)⟩, by decide, fun p hp => absurd hp (Nat.not_lt_zero p), by decide, fun p hp => absurd hp (Nat.not_lt_zero p)⟩
theorem zIF0 : zIF zF0 zM0 0 zc0 := ⟨by decide, fun p hp => absurd hp (Nat.not_lt_zero p), by decide, fun p hp => absurd hp (Nat.not_lt_zero p), by decide, fun p hp => absurd hp (Nat.not_lt_zero p)⟩
theorem zIX0 : zIX zX0 zM0 0 zc0 := ⟨by decide, ⟨by decide, fun p hp => absurd hp (Nat.not_lt_zero p)⟩, by decide, ⟨by decide, fun p hp => absurd hp (Nat.not_lt_zero p)⟩⟩
theorem zIB0 : zIB zB0 zM0 0 zc0 := by
  refine ⟨by decide, fun p hp => absurd hp (Nat.not_lt_zero p), by decide, fun p hp => absurd hp (Nat.not_lt_zero p), by decide, fun p hp => absurd hp (Nat.not_lt_zero p), fun k hk => ?_⟩
  have : k = 0 ∨ k = 1 ∨ k = 2 ∨ k = 3 ∨ k = 4 ∨ k = 5 ∨ k = 6 := by omega
  rcases this with rfl | rfl | rfl | rfl | rfl | rfl | rfl <;> decide
theorem zImg0 : zImg 1 0 0 zc0 zc0 zc0 zc0 zc0 zc0 zc0 zc0 zB0 zM0 := Or.inl ⟨by decide, by decide⟩
theorem zRT0 : zRT zM0 1 zc0 zc0 zc0 := ⟨by decide, fun i hi => by obtain rfl : i = 0 := (by omega); decide⟩
theorem zRL0 : zRL zM0 1 zc0 := fun i hi => by obtain rfl : i = 0 := (by omega); decide
theorem zWh0 : ¬ zWh 1 zc0 zc0 := fun h => h 0 (by decide) rfl rfl
theorem zCS0 : zCS zT0 1 zc0 zc0 zc0 := by
  refine ⟨⟨by decide, fun i hi => by obtain rfl : i = 0 := (by omega); decide⟩, fun w hw => ?_, fun w hw => ?_, by decide, Or.inr ⟨by decide, zWh0⟩⟩
  · obtain rfl : w = 0 := by omega
    refine ⟨by decide, by decide, by decide, by decide +kernel, fun a h1 h2 => ?_, fun c h1 h2 => by omega⟩
    have : a = 1 ∨ a = 2 ∨ a = 3 ∨ a = 4 ∨ a = 5 ∨ a = 6 ∨ a = 7 ∨ a = 8 ∨ a = 9 := by omega
    rcases this with rfl | rfl | rfl | rfl | rfl | rfl | rfl | rfl | rfl <;> decide +kernel
  · obtain rfl : w = 0 := by omega
    exact ⟨by decide +kernel, by decide +kernel, by decide +kernel⟩
theorem zInv0 : zInv zT0 zR0 zX0 zF0 zB0 zP0 zM0 := ⟨1, 0, 0, 0, 0, zc0, zc0, zc0, zc0, zc0, zc0, zc0, zc0, zc0, zp0, zc0, zc0, zc0, ⟨zVT0, zCS0, zRT0, zRL0⟩, zIP0, zIQ0, zIF0, zIX0, zIB0, zImg0⟩
end
