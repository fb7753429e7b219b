/-! a quiz: the first pass -/
section
variable {nt a z : Nat} {tp : Nat → Nat} {M X : zM}
theorem zwd_adv (h : (zwd nt tp a).1 = true) : a + 3 ≤ (zwd nt tp a).2 ∧ (zwd nt tp a).2 ≤ nt := by
  have w1 : zw1 nt tp a = a + zcn nt tp a 2 := rfl
  have w2 : zw2 nt tp a = zw1 nt tp a + 1 + zcn nt tp (zw1 nt tp a + 1) 1 := rfl
  have w3 : zw3 nt tp a = zw2 nt tp a + 1 + zcn nt tp (zw2 nt tp a + 1) 1 := rfl
  unfold zwd at h ⊢
  by_cases g0 : zcn nt tp a 2 = 0
  · rw [if_pos g0] at h; cases h
  rw [if_neg g0] at h ⊢
  by_cases k0 : ¬ (zw1 nt tp a < nt ∧ tp (zw1 nt tp a) = 44)
  · rw [if_pos k0] at h; cases h
  rw [if_neg k0] at h ⊢
  by_cases g1 : zcn nt tp (zw1 nt tp a + 1) 1 = 0
  · rw [if_pos g1] at h; cases h
  rw [if_neg g1] at h ⊢
  by_cases k1 : ¬ (zw2 nt tp a < nt ∧ tp (zw2 nt tp a) = 44)
  · rw [if_pos k1] at h; cases h
  rw [if_neg k1] at h ⊢
  by_cases g2 : zcn nt tp (zw2 nt tp a + 1) 1 = 0
  · rw [if_pos g2] at h; cases h
  rw [if_neg g2] at h ⊢
  by_cases k2 : ¬ (zw3 nt tp a < nt ∧ tp (zw3 nt tp a) = 59)
  · rw [if_pos k2] at h; cases h
  rw [if_neg k2] at h ⊢
  have k3 := Classical.not_not.mp k2
  exact ⟨by show a + 3 ≤ zw3 nt tp a + 1; omega, by show zw3 nt tp a + 1 ≤ nt; omega⟩
theorem zpd_adv (h : (zpd nt tp a).1 = true) : a + 3 ≤ (zpd nt tp a).2 ∧ (zpd nt tp a).2 ≤ nt := by
  have w1 : zq1 nt tp a = a + 1 + zcn nt tp (a + 1) 1 := rfl
  have w2 : zq2 nt tp a = zq1 nt tp a + zcn nt tp (zq1 nt tp a) 3 := rfl
  have w3 : zq3 nt tp a = zq2 nt tp a + 1 + zkn nt tp (zq2 nt tp a + 1) 9 := rfl
  unfold zpd at h ⊢
  by_cases g0 : zks nt tp a < 0
  · rw [if_pos g0] at h; cases h
  rw [if_neg g0] at h ⊢
  by_cases g1 : zcn nt tp (a + 1) 1 = 0
  · rw [if_pos g1] at h; cases h
  rw [if_neg g1] at h ⊢
  by_cases g2 : zcn nt tp (zq1 nt tp a) 3 = 0
  · rw [if_pos g2] at h; cases h
  rw [if_neg g2] at h ⊢
  by_cases k0 : ¬ (zq2 nt tp a < nt ∧ tp (zq2 nt tp a) = 58)
  · rw [if_pos k0] at h; cases h
  rw [if_neg k0] at h ⊢
  by_cases g3 : zkn nt tp (zq2 nt tp a + 1) 9 = 0
  · rw [if_pos g3] at h; cases h
  rw [if_neg g3] at h ⊢
  by_cases k2 : ¬ (zq3 nt tp a < nt ∧ tp (zq3 nt tp a) = 59)
  · rw [if_pos k2] at h; cases h
  rw [if_neg k2] at h ⊢
  have k3 := Classical.not_not.mp k2
  exact ⟨by show a + 3 ≤ zq3 nt tp a + 1; omega, by show zq3 nt tp a + 1 ≤ nt; omega⟩
theorem zst9_adv (h : (zst9 nt tp a).1 = true) : a + 3 ≤ (zst9 nt tp a).2 ∧ (zst9 nt tp a).2 ≤ nt := by
  unfold zst9 at h ⊢
  by_cases g : a < nt ∧ tp a = 119
  · rw [if_pos g] at h ⊢
    have := zwd_adv h
    omega
  · rw [if_neg g] at h ⊢
    by_cases g2 : a < nt ∧ tp a = 112
    · rw [if_pos g2] at h ⊢
      have := zpd_adv h
      omega
    · rw [if_neg g2] at h
      cases h
/-- where statement i stands -/
def zpos (nt : Nat) (tp : Nat → Nat) : Nat → Nat
  | 0 => 0
  | i + 1 => (zst9 nt tp (zpos nt tp i)).2
/-- the first i statements are right -/
def zgds (nt : Nat) (tp : Nat → Nat) (i : Nat) : Prop := ∀ j, j < i → (zst9 nt tp (zpos nt tp j)).1 = true
theorem zpos_adv : ∀ i, zgds nt tp i → 3 * i ≤ zpos nt tp i ∧ (i = 0 ∨ zpos nt tp i ≤ nt)
  | 0, _ => ⟨Nat.zero_le _, Or.inl rfl⟩
  | i + 1, h => by
    have ih := zpos_adv i (fun j hj => h j (by omega))
    have := zst9_adv (h i (by omega))
    show 3 * (i + 1) ≤ (zst9 nt tp (zpos nt tp i)).2 ∧ (_ ∨ (zst9 nt tp (zpos nt tp i)).2 ≤ nt)
    omega
theorem zgds_s {i : Nat} (h : zgds nt tp i) (h2 : (zst9 nt tp (zpos nt tp i)).1 = true) : zgds nt tp (i + 1) := fun j hj => by
  by_cases g : j = i
  · rw [g]; exact h2
  · exact h j (by omega)
/-- the frame of the reference's reading -/
def zfQ (M A : zM) : Prop := (∀ j k, ¬ (j = 0 ∧ (k = 22 ∨ k = 23)) → ¬ (14 ≤ j ∧ j ≤ 19) → A.1 j k = M.1 j k) ∧ A.2 = M.2
end
