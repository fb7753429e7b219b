/-! which words are behind which -/
def zbeF (par : Nat → Nat) : Nat → Nat → Nat → Bool
  | 0, e, w => e == w
  | k + 1, e, w => e == w || (!(e == 0) && zbeF par k (par e) w)
/-- e is w or behind it -/
def zbe (par : Nat → Nat) (e w : Nat) : Bool := zbeF par e e w
theorem zbeF_0 {par : Nat → Nat} {w : Nat} : ∀ k : Nat, zbeF par k 0 w = (0 == w)
  | 0 => rfl
  | k + 1 => by
    show ((0 == w) || (!(0 == 0) && zbeF par k (par 0) w)) = (0 == w)
    simp
theorem zbeF_eq {n : Nat} {par : Nat → Nat} {w : Nat} (h : ∀ i, 0 < i → i < n → par i < i) : ∀ (k e : Nat), e ≤ k → e < n → zbeF par k e w = zbeF par e e w
  | 0, e, h1, _ => by
    obtain rfl : e = 0 := by omega
    rfl
  | k + 1, e, h1, h2 => by
    rcases Nat.eq_zero_or_pos e with rfl | g
    · rw [zbeF_0, zbeF_0]
    · obtain ⟨v, rfl⟩ : ∃ v, e = v + 1 := ⟨e - 1, by omega⟩
      have hp := h (v + 1) g h2
      show ((v + 1 == w) || (!(v + 1 == 0) && zbeF par k (par (v + 1)) w)) = ((v + 1 == w) || (!(v + 1 == 0) && zbeF par v (par (v + 1)) w))
      rw [zbeF_eq h k (par (v + 1)) (by omega) (by omega), zbeF_eq h v (par (v + 1)) (by omega) (by omega)]
theorem zbe_0 {par : Nat → Nat} {w : Nat} : zbe par 0 w = (0 == w) := rfl
theorem zbe_s {n : Nat} {par wt ans : Nat → Nat} (hV : zVT n par wt ans) {e w : Nat} (h0 : 0 < e) (he : e < n) : zbe par e w = (e == w || zbe par (par e) w) := by
  obtain ⟨v, rfl⟩ : ∃ v, e = v + 1 := ⟨e - 1, by omega⟩
  have hp := (hV.2.2.1 (v + 1) h0 he).1
  show ((v + 1 == w) || (!(v + 1 == 0) && zbeF par v (par (v + 1)) w)) = _
  rw [zbeF_eq (fun i a b => (hV.2.2.1 i a b).1) v (par (v + 1)) (by omega) (by omega)]
  simp [zbe]
theorem zbe_self {par : Nat → Nat} {e : Nat} : zbe par e e = true := by
  unfold zbe
  cases e <;> simp [zbeF]
theorem zbe_le {n : Nat} {par wt ans : Nat → Nat} (hV : zVT n par wt ans) : ∀ (k e w : Nat), e ≤ k → e < n → zbe par e w = true → w ≤ e
  | 0, e, w, h1, h2, h => by
    obtain rfl : e = 0 := by omega
    rw [zbe_0] at h
    have := eq_of_beq h
    omega
  | k + 1, e, w, h1, h2, h => by
    rcases Nat.eq_zero_or_pos e with rfl | g
    · rw [zbe_0] at h
      have := eq_of_beq h
      omega
    · rw [zbe_s hV g h2] at h
      have hp := (hV.2.2.1 e g h2).1
      rcases Bool.or_eq_true _ _ ▸ h with q | q
      · have := eq_of_beq q
        omega
      · have := zbe_le hV k (par e) w (by omega) (by omega) q
        omega
theorem zbe_up {n : Nat} {par wt ans : Nat → Nat} (hV : zVT n par wt ans) : ∀ (k e u : Nat), e ≤ k → e < n → 0 < u → zbe par e u = true → zbe par e (par u) = true
  | 0, e, u, h1, h2, h0, h => by
    obtain rfl : e = 0 := by omega
    rw [zbe_0] at h
    have := eq_of_beq h
    omega
  | k + 1, e, u, h1, h2, h0, h => by
    rcases Nat.eq_zero_or_pos e with rfl | g
    · rw [zbe_0] at h
      have := eq_of_beq h
      omega
    · have hp := (hV.2.2.1 e g h2).1
      rw [zbe_s hV g h2] at h ⊢
      rcases Bool.or_eq_true _ _ ▸ h with q | q
      · obtain rfl := eq_of_beq q
        rw [zbe_self, Bool.or_true]
      · rw [zbe_up hV k (par e) u (by omega) (by omega) h0 q, Bool.or_true]
