/-! long numbers that are naturals under 2^63; the common divisor -/
theorem jN_toInt {n : Nat} (h : n < 2 ^ 63) : (lN n).toInt = (n : Int) := Int64.toInt_ofNat_of_lt h
theorem jN_inj {a b : Nat} (ha : a < 2 ^ 63) (hb : b < 2 ^ 63) (h : lN a = lN b) : a = b := by
  have := congrArg Int64.toInt h
  rw [jN_toInt ha, jN_toInt hb] at this
  omega
theorem jN_eq {a b : Nat} (ha : a < 2 ^ 63) (hb : b < 2 ^ 63) : (lN a = lN b) = (a = b) := propext ⟨jN_inj ha hb, fun h => by rw [h]⟩
theorem jN_eq0 {a : Nat} (ha : a < 2 ^ 63) : (lN a = 0) = (a = 0) := jN_eq (b := 0) ha (by decide)
theorem jN_lt {a b : Nat} (ha : a < 2 ^ 63) (hb : b < 2 ^ 63) : (lN a < lN b) = (a < b) := by
  rw [Int64.lt_iff_toInt_lt, jN_toInt ha, jN_toInt hb]
  exact propext (by omega)
theorem jN_le {a b : Nat} (ha : a < 2 ^ 63) (hb : b < 2 ^ 63) : (lN a ≤ lN b) = (a ≤ b) := by
  rw [Int64.le_iff_toInt_le, jN_toInt ha, jN_toInt hb]
  exact propext (by omega)
theorem jN_div {a b : Nat} (ha : a < 2 ^ 63) (hb : b < 2 ^ 63) : lN a / lN b = lN (a / b) := by
  have h1 : a / b < 2 ^ 63 := Nat.lt_of_le_of_lt (Nat.div_le_self a b) ha
  refine Int64.toInt_inj.mp ?_
  rw [Int64.toInt_div, jN_toInt ha, jN_toInt hb, jN_toInt h1]
  rw [show ((a : Int).tdiv (b : Int)) = ((a / b : Nat) : Int) from rfl]
  generalize a / b = k at h1 ⊢
  exact Int.bmod_eq_of_le (by omega) (by omega)
theorem jN_mod {a b : Nat} (ha : a < 2 ^ 63) (hb : b < 2 ^ 63) : lN a - lN a / lN b * lN b = lN (a % b) := by
  rw [jN_div ha hb, lN_mul, lN_sub (Nat.div_mul_le_self a b), Nat.mod_eq_sub_div_mul]
theorem zcmp0 {x y : Int64} : (lg_cmp x y = 0) = (x = y) := by
  refine propext ⟨fun h => ?_, fun h => ?_⟩
  · unfold lg_cmp at h
    split at h
    · exact absurd h (by decide)
    · split at h
      · assumption
      · exact absurd h (by decide)
  · subst h
    unfold lg_cmp
    rw [if_neg (by rw [gt_iff_lt, Int64.lt_iff_toInt_lt]; omega), if_pos rfl]
theorem mod_half {a b : Nat} (h0 : 0 < b) (h : b ≤ a) : 2 * (a % b) ≤ a := by
  have h1 := Nat.mod_lt a h0
  have h2 := Nat.div_add_mod a b
  have h3 : 1 ≤ a / b := Nat.div_pos h h0
  have h4 : b * 1 ≤ b * (a / b) := Nat.mul_le_mul_left b h3
  omega
theorem zx_divisor {a b : Nat} (ha : a < 2 ^ 63) (hb : b < 2 ^ 63) : xX12_divisor (lN a) (lN b) = some (lN (Nat.gcd a b)) := by
  refine zok.eq ?_
  unfold xX12_divisor
  refine zok_bind ?_
  refine zok_it (fun k z => ∃ x y : Nat, z = (lN x, lN y) ∧ x < 2 ^ 63 ∧ y < 2 ^ 63 ∧ Nat.gcd x y = Nat.gcd a b ∧ ((y ≤ x ∧ x * y < 2 ^ k) ∨ k = 127)) 127 ⟨a, b, rfl, ha, hb, rfl, Or.inr rfl⟩ (by decide) ?_
  rintro k z ⟨x, y, rfl, hx, hy, hg, hm⟩
  rcases Nat.eq_zero_or_pos y with rfl | hy0
  · refine ⟨.inr (lN x), ?_, Or.inr ⟨_, rfl, zok_some ?_⟩⟩
    · unfold xX12_divisor_L6
      rw [if_pos (by rw [zcmp0]; rfl)]
    · rw [← hg, Nat.gcd_zero_right]
  · have hne : ¬ lN y = 0 := by rw [jN_eq0 hy]; omega
    have hr : x % y < y := Nat.mod_lt _ hy0
    have hstep : ∃ k', k' < k ∧ (x % y ≤ y ∧ y * (x % y) < 2 ^ k') := by
      rcases hm with ⟨h1, h2⟩ | rfl
      · have hh := mod_half hy0 h1
        have hk : k ≠ 0 := by
          rintro rfl
          have : 1 * 1 ≤ x * y := Nat.mul_le_mul (by omega) hy0
          omega
        refine ⟨k - 1, by omega, Nat.le_of_lt hr, ?_⟩
        have e : 2 ^ k = 2 * 2 ^ (k - 1) := by
          conv => lhs; rw [show k = (k - 1) + 1 by omega, Nat.pow_succ, Nat.mul_comm]
        have h5 : 2 * (y * (x % y)) ≤ x * y := by
          rw [Nat.mul_left_comm, Nat.mul_comm x y]
          exact Nat.mul_le_mul_left y hh
        omega
      · refine ⟨126, by decide, Nat.le_of_lt hr, ?_⟩
        have h5 : y * (x % y) < 2 ^ 63 * 2 ^ 63 := Nat.mul_lt_mul'' hy (by omega)
        rw [← Nat.pow_add] at h5
        exact h5
    obtain ⟨k', hk', hm'⟩ := hstep
    refine ⟨.inl (lN y, lN (x % y)), ?_, Or.inl ⟨_, k', rfl, hk', y, x % y, rfl, hy, by omega, ?_, Or.inl hm'⟩⟩
    · unfold xX12_divisor_L6
      rw [if_neg (by rw [zcmp0]; exact hne), if_neg hne]
      unfold zlet
      rw [jN_mod hx hy]
    · rw [← hg, Nat.gcd_comm x y, Nat.gcd_comm y (x % y), ← Nat.gcd_rec]
