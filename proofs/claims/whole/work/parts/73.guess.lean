/-! the guess, of both -/
/-- what the best so far is worth -/
def zgv (X : Nat → Nat) (b : Nat) : Nat := if b = 0 then 0 else X b
def zgsF (X : Nat → Nat) (s : Nat) : Nat → Nat
  | 0 => 0
  | a + 1 => if 0 < a ∧ s.testBit a = true ∧ zgv X (zgsF X s a) < X a then a else zgsF X s a
def zgs (X : Nat → Nat) (s : Nat) : Nat := zgsF X s 10
theorem zgsF_le {X : Nat → Nat} {s : Nat} : ∀ a : Nat, zgsF X s a ≤ a - 1
  | 0 => Nat.le_refl _
  | a + 1 => by
    have h := zgsF_le (X := X) (s := s) a
    show (if 0 < a ∧ s.testBit a = true ∧ zgv X (zgsF X s a) < X a then a else zgsF X s a) ≤ a + 1 - 1
    split <;> omega
theorem zgs_lt {X : Nat → Nat} {s : Nat} : zgs X s < 10 := by
  have := zgsF_le (X := X) (s := s) 10
  unfold zgs
  omega
theorem zgsF_spec {X : Nat → Nat} {s : Nat} : ∀ a : Nat, (zgsF X s a ≠ 0 → s.testBit (zgsF X s a) = true ∧ 0 < X (zgsF X s a)) ∧ ∀ b, 0 < b → b < a → s.testBit b = true → 0 < X b → zgsF X s a ≠ 0
  | 0 => ⟨fun h => absurd rfl h, fun b _ h => absurd h (Nat.not_lt_zero _)⟩
  | a + 1 => by
    obtain ⟨i1, i2⟩ := zgsF_spec (X := X) (s := s) a
    have e : zgsF X s (a + 1) = if 0 < a ∧ s.testBit a = true ∧ zgv X (zgsF X s a) < X a then a else zgsF X s a := rfl
    by_cases h : 0 < a ∧ s.testBit a = true ∧ zgv X (zgsF X s a) < X a
    · rw [e, if_pos h]
      exact ⟨fun _ => ⟨h.2.1, by have := h.2.2; omega⟩, fun _ _ _ _ _ => by have := h.1; omega⟩
    · rw [e, if_neg h]
      refine ⟨i1, fun b h1 h2 h3 h4 => ?_⟩
      rcases Nat.lt_or_ge b a with g | g
      · exact i2 b h1 g h3 h4
      · obtain rfl : b = a := by omega
        intro q
        exact h ⟨h1, h3, by rw [q]; exact h4⟩
theorem zgs_spec {X : Nat → Nat} {s : Nat} (h : zgs X s ≠ 0) : s.testBit (zgs X s) = true ∧ 0 < X (zgs X s) := (zgsF_spec 10).1 h
theorem zgs_ne {X : Nat → Nat} {s b : Nat} (h1 : 0 < b) (h2 : b < 10) (h3 : s.testBit b = true) (h4 : 0 < X b) : zgs X s ≠ 0 := (zgsF_spec 10).2 b h1 h2 h3 h4
theorem zgsF_scale {X Y : Nat → Nat} {s p q : Nat} (hp : 0 < p) (hq : 0 < q) (h : ∀ a, 0 < a → a < 10 → X a * p = Y a * q) : ∀ a : Nat, a ≤ 10 → zgsF X s a = zgsF Y s a
  | 0, _ => rfl
  | a + 1, ha => by
    have ih := zgsF_scale (s := s) hp hq h a (by omega)
    have hle := zgsF_le (X := Y) (s := s) a
    have e1 : zgsF X s (a + 1) = if 0 < a ∧ s.testBit a = true ∧ zgv X (zgsF X s a) < X a then a else zgsF X s a := rfl
    have e2 : zgsF Y s (a + 1) = if 0 < a ∧ s.testBit a = true ∧ zgv Y (zgsF Y s a) < Y a then a else zgsF Y s a := rfl
    rw [e1, e2, ih]
    by_cases h0 : 0 < a
    · have c : (zgv X (zgsF Y s a) < X a) = (zgv Y (zgsF Y s a) < Y a) := by
        have h1 := h a h0 (by omega)
        have h2 : zgv X (zgsF Y s a) * p = zgv Y (zgsF Y s a) * q := by
          unfold zgv
          by_cases g : zgsF Y s a = 0
          · rw [if_pos g, if_pos g, Nat.zero_mul, Nat.zero_mul]
          · rw [if_neg g, if_neg g]
            exact h _ (by omega) (by omega)
        refine propext ?_
        rw [← Nat.mul_lt_mul_right hp, h1, h2, Nat.mul_lt_mul_right hq]
      simp only [c]
    · rw [if_neg (fun z => h0 z.1), if_neg (fun z => h0 z.1)]
theorem zgs_scale {X Y : Nat → Nat} {s p q : Nat} (hp : 0 < p) (hq : 0 < q) (h : ∀ a, 0 < a → a < 10 → X a * p = Y a * q) : zgs X s = zgs Y s := zgsF_scale hp hq h 10 (Nat.le_refl _)
theorem zx_guessOf {M : zM} {X : Nat → Nat} {s w : Nat} (hw : w < 24) (hs : s < 2 ^ 31) (hX : ∀ a, a < 10 → M.2 21 (10 * w + a) = lN (X a)) (hB : ∀ a, a < 10 → X a < 2 ^ 63) : xX12_guessOf M (nI s) (nI w) = some (nI (zgs X s)) := by
  unfold xX12_guessOf
  rw [zfor (r := nI (zgs X s)) (fun c => (nI (zgsF X s c), nI c)) 1 10 (by decide) (by decide) ?_ ?_ ?_]
  · rfl
  · have := zgsF_le (X := X) (s := s) 1
    rw [show zgsF X s 1 = 0 by omega]
    rfl
  · intro c h1 h2
    have hb := zgsF_le (X := X) (s := s) c
    have e : zgsF X s (c + 1) = if 0 < c ∧ s.testBit c = true ∧ zgv X (zgsF X s c) < X c then c else zgsF X s c := rfl
    rw [e]
    generalize zgsF X s c = b at hb ⊢
    have x1 := hX c h2
    have x2 := hX b (by omega)
    have y1 := hB c h2
    have y2 := hB b (by omega)
    by_cases t : s.testBit c = true
    · by_cases g : zgv X b < X c
      · rw [if_pos ⟨h1, t, g⟩]
        by_cases q : b = 0
        · rw [zgv, if_pos q] at g
          simp (disch := first | assumption | omega) only [zlet, nI_leI, nI_ltI, nI_eq, nI_eq0, nI_clamp, nI_neg0, nI_add, nI_1, false_or, or_false, if_pos, if_neg, Int32.add_zero, Nat.add_zero, Option.bind_some, if_true, if_false, and_true, true_and, and_false, false_and, nI_10, nI_mul, zl2, zl3, zl4, zl5, zl6, zl8, zl9, zl20, zl24, zor0, zsi_g, zsj_g, zsi_2, zsj_1, xX12_guessOf_L5, zbit, x1, lg_cmp_le, zL0, jN_le]
        · rw [zgv, if_neg q] at g
          simp (disch := first | assumption | omega) only [zlet, nI_leI, nI_ltI, nI_eq, nI_eq0, nI_clamp, nI_neg0, nI_add, nI_1, false_or, or_false, if_pos, if_neg, Int32.add_zero, Nat.add_zero, Option.bind_some, if_true, if_false, and_true, true_and, and_false, false_and, nI_10, nI_mul, zl2, zl3, zl4, zl5, zl6, zl8, zl9, zl20, zl24, zor0, zsi_g, zsj_g, zsi_2, zsj_1, xX12_guessOf_L5, zbit, x1, x2, lg_cmp_le, jN_le]
      · rw [if_neg (fun z => g z.2.2)]
        by_cases q : b = 0
        · rw [zgv, if_pos q] at g
          simp (disch := first | assumption | omega) only [zlet, nI_leI, nI_ltI, nI_eq, nI_eq0, nI_clamp, nI_neg0, nI_add, nI_1, false_or, or_false, if_pos, if_neg, Int32.add_zero, Nat.add_zero, Option.bind_some, if_true, if_false, and_true, true_and, and_false, false_and, nI_10, nI_mul, zl2, zl3, zl4, zl5, zl6, zl8, zl9, zl20, zl24, zor0, zsi_g, zsj_g, zsi_2, zsj_1, xX12_guessOf_L5, zbit, x1, lg_cmp_le, zL0, jN_le]
        · rw [zgv, if_neg q] at g
          simp (disch := first | assumption | omega) only [zlet, nI_leI, nI_ltI, nI_eq, nI_eq0, nI_clamp, nI_neg0, nI_add, nI_1, false_or, or_false, if_pos, if_neg, Int32.add_zero, Nat.add_zero, Option.bind_some, if_true, if_false, and_true, true_and, and_false, false_and, nI_10, nI_mul, zl2, zl3, zl4, zl5, zl6, zl8, zl9, zl20, zl24, zor0, zsi_g, zsj_g, zsi_2, zsj_1, xX12_guessOf_L5, zbit, x1, x2, lg_cmp_le, jN_le]
    · rw [if_neg (fun z => t z.2.1)]
      simp (disch := first | assumption | omega) only [zlet, nI_leI, nI_ltI, nI_eq, nI_eq0, nI_clamp, nI_neg0, nI_add, nI_1, false_or, or_false, if_pos, if_neg, Int32.add_zero, Nat.add_zero, Option.bind_some, if_true, if_false, and_true, true_and, and_false, false_and, nI_10, nI_mul, zl2, zl3, zl4, zl5, zl6, zl8, zl9, zl20, zl24, zor0, zsi_g, zsj_g, zsi_2, zsj_1, xX12_guessOf_L5, zbit]
  · simp (disch := first | assumption | omega) only [zlet, nI_leI, nI_ltI, nI_eq, nI_eq0, nI_clamp, nI_neg0, nI_add, nI_1, false_or, or_false, if_pos, if_neg, Int32.add_zero, Nat.add_zero, Option.bind_some, if_true, if_false, and_true, true_and, and_false, false_and, nI_10, nI_mul, zl2, zl3, zl4, zl5, zl6, zl8, zl9, zl20, zl24, zor0, zsi_g, zsj_g, zsi_2, zsj_1, xX12_guessOf_L5, zgs]
/-- the class has the tree -/
def zTC (T : zM) (n : Nat) (par wt ans : Nat → Nat) : Prop := T.1 0 13 = nI n ∧ ∀ i, i < n → T.1 1 i = nI (par i) ∧ T.1 2 i = nI (wt i) ∧ T.1 3 i = nI (ans i)
theorem zx_has {T : zM} {n : Nat} (hn : n ≤ 24) (h : T.1 0 13 = nI n) {w : Nat} (hw : w < n) : xX10_has T (nI w) = some 1 := by
  simp (disch := first | assumption | omega) only [zlet, nI_leI, nI_ltI, nI_eq, nI_eq0, nI_clamp, nI_neg0, nI_add, nI_1, false_or, or_false, if_pos, if_neg, Int32.add_zero, Nat.add_zero, Option.bind_some, if_true, if_false, and_true, true_and, and_false, false_and, nI_10, nI_mul, zl2, zl3, zl4, zl5, zl6, zl8, zl9, zl20, zl24, zor0, zsi_g, zsj_g, zsi_2, zsj_1, xX10_has, h]
theorem zx_hasnt {T : zM} {n : Nat} (hn : n ≤ 24) (h : T.1 0 13 = nI n) {v : Int32} (hv : v < 0 ∨ nI n ≤ v) : xX10_has T v = some 0 := by
  unfold xX10_has
  by_cases g : v < 0
  · rw [if_pos g]
  · rw [if_neg g, h]
    by_cases g2 : (24 : Int32) ≤ v
    · rw [if_pos g2]
    · rw [if_neg g2, if_pos (hv.resolve_left g)]
/-- a number is that of a word, or not -/
theorem zvc (v : Int32) (n : Nat) (hn : n < 2 ^ 31) : (∃ w, w < n ∧ v = nI w) ∨ (v < 0 ∨ nI n ≤ v) := by
  by_cases g : v < 0
  · exact .inr (.inl g)
  · obtain ⟨j, hj, rfl⟩ := nI_of g
    rcases Nat.lt_or_ge j n with q | q
    · exact .inl ⟨j, q, rfl⟩
    · exact .inr (.inr (nI_le q hj))
theorem zx_guessAt {T : zM} {n : Nat} {X : Nat → Nat} {s w : Nat} (hn : n ≤ 24) (hT : T.1 0 13 = nI n) (hw : w < n) (hs : s < 2 ^ 31) (hX : ∀ a, 0 < a → a < 10 → T.2 (14 + w) a = lN (X a)) (hB : ∀ a, a < 10 → X a < 2 ^ 63) : xX10_guessAt T (nI w) (nI s) = some (nI (zgs X s)) := by
  unfold xX10_guessAt
  rw [zx_has hn hT hw, Option.bind_some, if_neg (by decide)]
  rw [zfor (r := nI (zgs X s)) (fun c => (nI (zgsF X s c), lN (zgv X (zgsF X s c)), nI c)) 1 10 (by decide) (by decide) ?_ ?_ ?_]
  · rfl
  · have := zgsF_le (X := X) (s := s) 1
    rw [show zgsF X s 1 = 0 by omega]
    rfl
  · intro c h1 h2
    have hb := zgsF_le (X := X) (s := s) c
    have e : zgsF X s (c + 1) = if 0 < c ∧ s.testBit c = true ∧ zgv X (zgsF X s c) < X c then c else zgsF X s c := rfl
    rw [e]
    generalize zgsF X s c = b at hb ⊢
    have x1 := hX c (by omega) h2
    have y1 := hB c h2
    have y2 := hB b (by omega)
    have y3 : zgv X b < 2 ^ 63 := by
      unfold zgv
      split <;> omega
    have e5 : zgv X c = X c := if_neg (by omega)
    by_cases t : s.testBit c = true
    · by_cases g : zgv X b < X c
      · rw [if_pos ⟨h1, t, g⟩, e5]
        simp (disch := first | assumption | omega) only [zlet, nI_leI, nI_ltI, nI_eq, nI_eq0, nI_clamp, nI_neg0, nI_add, nI_1, false_or, or_false, if_pos, if_neg, Int32.add_zero, Nat.add_zero, Option.bind_some, if_true, if_false, and_true, true_and, and_false, false_and, nI_10, nI_mul, zl2, zl3, zl4, zl5, zl6, zl8, zl9, zl20, zl24, zor0, zsi_g, zsj_g, zsi_2, zsj_1, xX10_guessAt_L18, zbit, x1, lg_cmp_le, jN_le]
      · rw [if_neg (fun z => g z.2.2)]
        simp (disch := first | assumption | omega) only [zlet, nI_leI, nI_ltI, nI_eq, nI_eq0, nI_clamp, nI_neg0, nI_add, nI_1, false_or, or_false, if_pos, if_neg, Int32.add_zero, Nat.add_zero, Option.bind_some, if_true, if_false, and_true, true_and, and_false, false_and, nI_10, nI_mul, zl2, zl3, zl4, zl5, zl6, zl8, zl9, zl20, zl24, zor0, zsi_g, zsj_g, zsi_2, zsj_1, xX10_guessAt_L18, zbit, x1, lg_cmp_le, jN_le]
    · rw [if_neg (fun z => t z.2.1)]
      simp (disch := first | assumption | omega) only [zlet, nI_leI, nI_ltI, nI_eq, nI_eq0, nI_clamp, nI_neg0, nI_add, nI_1, false_or, or_false, if_pos, if_neg, Int32.add_zero, Nat.add_zero, Option.bind_some, if_true, if_false, and_true, true_and, and_false, false_and, nI_10, nI_mul, zl2, zl3, zl4, zl5, zl6, zl8, zl9, zl20, zl24, zor0, zsi_g, zsj_g, zsi_2, zsj_1, xX10_guessAt_L18, zbit]
  · simp (disch := first | assumption | omega) only [zlet, nI_leI, nI_ltI, nI_eq, nI_eq0, nI_clamp, nI_neg0, nI_add, nI_1, false_or, or_false, if_pos, if_neg, Int32.add_zero, Nat.add_zero, Option.bind_some, if_true, if_false, and_true, true_and, and_false, false_and, nI_10, nI_mul, zl2, zl3, zl4, zl5, zl6, zl8, zl9, zl20, zl24, zor0, zsi_g, zsj_g, zsi_2, zsj_1, xX10_guessAt_L18, zgs]
