/-! where players press, by the class -/
section
variable {n : Nat} {par wt ans : Nat → Nat}
theorem zor_test {f : Nat → Nat} {a : Nat} : ∀ {n : Nat}, (zop (· ||| ·) 0 f n).testBit a = true ↔ ∃ i, i < n ∧ (f i).testBit a = true
  | 0 => by
    show Nat.testBit 0 a = true ↔ _
    rw [Nat.zero_testBit]
    exact ⟨fun h => absurd h (by decide), fun ⟨i, h, _⟩ => absurd h (Nat.not_lt_zero _)⟩
  | n + 1 => by
    show (zop (· ||| ·) 0 f n ||| f n).testBit a = true ↔ _
    rw [Nat.testBit_or, Bool.or_eq_true, zor_test]
    refine ⟨fun h => ?_, fun ⟨i, h1, h2⟩ => ?_⟩
    · rcases h with ⟨i, h1, h2⟩ | h
      · exact ⟨i, by omega, h2⟩
      · exact ⟨n, by omega, h⟩
    · rcases Nat.lt_or_ge i n with g | g
      · exact Or.inl ⟨i, g, h2⟩
      · obtain rfl : i = n := by omega
        exact Or.inr h2
theorem zbh_test (hV : zVT n par wt ans) (hW : zWh n par ans) {w a : Nat} : (zbh n par ans w).testBit a = true ↔ (0 < a ∧ a < 10 ∧ 0 < zoA n par wt ans w a) := by
  refine zor_test.trans ⟨fun ⟨e, he, h⟩ => ?_, fun ⟨h1, h2, h3⟩ => ?_⟩
  · by_cases q : zbe par e w = true
    · rw [if_pos q] at h
      by_cases r : ans e = 0
      · rw [if_pos r, Nat.zero_testBit] at h
        cases h
      · rw [if_neg r, Nat.testBit_two_pow] at h
        have h' := of_decide_eq_true h
        have ha := zans_le hV he
        refine ⟨by omega, by omega, ?_⟩
        have h2 := zsum_ge (f := zoe n par wt ans w a) he
        have h3 : zoe n par wt ans w a e = zsh n par wt ans e := if_pos ⟨r, h'.symm, q⟩
        have h4 := zsh_posw hV hW he
        unfold zoA
        omega
    · rw [if_neg q, Nat.zero_testBit] at h
      cases h
  · obtain ⟨e, he, h⟩ := zsum_pos (f := zoe n par wt ans w a) (n := n) (by unfold zoA at h3; omega)
    unfold zoe at h
    by_cases q : ¬ ans e = 0 ∧ a = ans e ∧ zbe par e w = true
    · refine ⟨e, he, ?_⟩
      rw [if_pos q.2.2, if_neg q.1, Nat.testBit_two_pow, q.2.1]
      exact decide_eq_true rfl
    · rw [if_neg q] at h
      exact absurd rfl h
/-- it has a guess just where some end behind has an answer that it knows -/
theorem zbh_gu (hV : zVT n par wt ans) (hW : zWh n par ans) {w s : Nat} : (zbh n par ans w &&& s ≠ 0) ↔ zgu n par wt ans s w ≠ 0 := by
  refine ⟨fun h => ?_, fun h h0 => ?_⟩
  · obtain ⟨a, ha⟩ := Nat.exists_testBit_of_ne_zero h
    rw [Nat.testBit_and, Bool.and_eq_true] at ha
    obtain ⟨h1, h2, h3⟩ := (zbh_test hV hW).mp ha.1
    exact zgs_ne h1 h2 ha.2 h3
  · have h1 := zgs_spec h
    have h2 : (zbh n par ans w &&& s).testBit (zgu n par wt ans s w) = true := by
      rw [Nat.testBit_and, Bool.and_eq_true]
      exact ⟨(zbh_test hV hW).mpr ⟨by omega, zgu_lt, h1.2⟩, h1.1⟩
    rw [h0, Nat.zero_testBit] at h2
    cases h2
/-- words at which it has a guess -/
def zGB (n : Nat) (par wt ans : Nat → Nat) (s : Nat) : Nat := zbits (fun w => decide (0 < w) && decide (zgu n par wt ans s w ≠ 0)) n
theorem zx_guessBits (hV : zVT n par wt ans) (hW : zWh n par ans) {T : zM} (hT : zCS T n par wt ans) {s : Nat} (hs : s < 2 ^ 31) : xX10_guessBits T (nI s) = some (nI (zGB n par wt ans s)) := by
  have hn := hV.2.1
  unfold xX10_guessBits
  rw [zfor (r := nI (zGB n par wt ans s)) (fun c => (nI (zbits (fun w => decide (0 < w) && decide (zgu n par wt ans s w ≠ 0)) c), nI c)) 1 n hV.1 (by omega) ?_ ?_ ?_]
  · rfl
  · rw [zbits_1] <;> rfl
  · intro c h1 h2
    obtain ⟨k1, k2, k3, k4, k5, k6⟩ := hT.2.1 c h2
    have hb := zbh_gu hV hW (w := c) (s := s)
    have hl : zbh n par ans c &&& s < 2 ^ 31 := Nat.lt_of_le_of_lt Nat.and_le_right hs
    by_cases q : zgu n par wt ans s c = 0
    · have e : zbh n par ans c &&& s = 0 := by
        rcases Nat.eq_zero_or_pos (zbh n par ans c &&& s) with z | z
        · exact z
        · exact absurd q (hb.mp (by omega))
      rw [zbits_n (by rw [decide_eq_false (p := zgu n par wt ans s c ≠ 0) (fun z => z q), Bool.and_false])]
      simp (disch := first | assumption | omega) only [zlet, nI_leI, nI_ltI, nI_eq, nI_eq0, nI_clamp, nI_neg0, nI_add, nI_1, false_or, or_false, if_pos, if_neg, Int32.add_zero, Nat.add_zero, Option.bind_some, if_true, if_false, and_true, true_and, and_false, false_and, nI_10, nI_mul, zl2, zl3, zl4, zl5, zl6, zl8, zl9, zl20, zl24, zor0, zsi_g, zsj_g, zsi_2, zsj_1, xX10_guessBits_L4, hT.1.1, k3, zand, e]
    · have e : ¬ zbh n par ans c &&& s = 0 := hb.mpr q
      rw [zbits_y (by rw [decide_eq_true q, decide_eq_true (show 0 < c from h1)]; rfl)]
      simp (disch := first | assumption | omega) only [zlet, nI_leI, nI_ltI, nI_eq, nI_eq0, nI_clamp, nI_neg0, nI_add, nI_1, false_or, or_false, if_pos, if_neg, Int32.add_zero, Nat.add_zero, Option.bind_some, if_true, if_false, and_true, true_and, and_false, false_and, nI_10, nI_mul, zl2, zl3, zl4, zl5, zl6, zl8, zl9, zl20, zl24, zor0, zsi_g, zsj_g, zsi_2, zsj_1, xX10_guessBits_L4, hT.1.1, k3, zand, zshl, zor]
  · by_cases hh : n = 24
    · subst hh
      simp (disch := first | assumption | omega) only [zlet, nI_leI, nI_ltI, nI_eq, nI_eq0, nI_clamp, nI_neg0, nI_add, nI_1, false_or, or_false, if_pos, if_neg, Int32.add_zero, Nat.add_zero, Option.bind_some, if_true, if_false, and_true, true_and, and_false, false_and, nI_10, nI_mul, zl2, zl3, zl4, zl5, zl6, zl8, zl9, zl20, zl24, zor0, zsi_g, zsj_g, zsi_2, zsj_1, xX10_guessBits_L4, zGB]
    · simp (disch := first | assumption | omega) only [zlet, nI_leI, nI_ltI, nI_eq, nI_eq0, nI_clamp, nI_neg0, nI_add, nI_1, false_or, or_false, if_pos, if_neg, Int32.add_zero, Nat.add_zero, Option.bind_some, if_true, if_false, and_true, true_and, and_false, false_and, nI_10, nI_mul, zl2, zl3, zl4, zl5, zl6, zl8, zl9, zl20, zl24, zor0, zsi_g, zsj_g, zsi_2, zsj_1, xX10_guessBits_L4, zGB, hT.1.1]
def zEB (n : Nat) (ans : Nat → Nat) : Nat := zbits (fun w => decide (0 < w) && decide (¬ ans w = 0)) n
theorem zx_endBits (hV : zVT n par wt ans) {T : zM} (hT : zCS T n par wt ans) : xX10_endBits T = some (nI (zEB n ans)) := by
  have hn := hV.2.1
  unfold xX10_endBits
  rw [zfor (r := nI (zEB n ans)) (fun c => (nI (zbits (fun w => decide (0 < w) && decide (¬ ans w = 0)) c), nI c)) 1 n hV.1 (by omega) ?_ ?_ ?_]
  · rfl
  · rw [zbits_1] <;> rfl
  · intro c h1 h2
    obtain ⟨t1, t2, t3⟩ := hT.1.2 c h2
    have ha := zans_le hV h2
    by_cases q : ans c = 0
    · rw [zbits_n (by rw [decide_eq_false (p := ¬ ans c = 0) (fun z => z q), Bool.and_false])]
      simp (disch := first | assumption | omega) only [zlet, nI_leI, nI_ltI, nI_eq, nI_eq0, nI_clamp, nI_neg0, nI_add, nI_1, false_or, or_false, if_pos, if_neg, Int32.add_zero, Nat.add_zero, Option.bind_some, if_true, if_false, and_true, true_and, and_false, false_and, nI_10, nI_mul, zl2, zl3, zl4, zl5, zl6, zl8, zl9, zl20, zl24, zor0, zsi_g, zsj_g, zsi_2, zsj_1, xX10_endBits_L4, hT.1.1, t3, nI_le0]
    · rw [zbits_y (by rw [decide_eq_true q, decide_eq_true (show 0 < c from h1)]; rfl)]
      simp (disch := first | assumption | omega) only [zlet, nI_leI, nI_ltI, nI_eq, nI_eq0, nI_clamp, nI_neg0, nI_add, nI_1, false_or, or_false, if_pos, if_neg, Int32.add_zero, Nat.add_zero, Option.bind_some, if_true, if_false, and_true, true_and, and_false, false_and, nI_10, nI_mul, zl2, zl3, zl4, zl5, zl6, zl8, zl9, zl20, zl24, zor0, zsi_g, zsj_g, zsi_2, zsj_1, xX10_endBits_L4, hT.1.1, t3, nI_le0, zshl, zor]
  · by_cases hh : n = 24
    · subst hh
      simp (disch := first | assumption | omega) only [zlet, nI_leI, nI_ltI, nI_eq, nI_eq0, nI_clamp, nI_neg0, nI_add, nI_1, false_or, or_false, if_pos, if_neg, Int32.add_zero, Nat.add_zero, Option.bind_some, if_true, if_false, and_true, true_and, and_false, false_and, nI_10, nI_mul, zl2, zl3, zl4, zl5, zl6, zl8, zl9, zl20, zl24, zor0, zsi_g, zsj_g, zsi_2, zsj_1, xX10_endBits_L4, zEB]
    · simp (disch := first | assumption | omega) only [zlet, nI_leI, nI_ltI, nI_eq, nI_eq0, nI_clamp, nI_neg0, nI_add, nI_1, false_or, or_false, if_pos, if_neg, Int32.add_zero, Nat.add_zero, Option.bind_some, if_true, if_false, and_true, true_and, and_false, false_and, nI_10, nI_mul, zl2, zl3, zl4, zl5, zl6, zl8, zl9, zl20, zl24, zor0, zsi_g, zsj_g, zsi_2, zsj_1, xX10_endBits_L4, zEB, hT.1.1]
/-- sure enough, by the reference's shares -/
def zSB (n : Nat) (par wt ans : Nat → Nat) (s h : Nat) : Nat := zbits (fun w => decide (0 < w) && (decide (zgu n par wt ans s w ≠ 0) && decide (h * zsh n par wt ans w ≤ 100 * zoA n par wt ans w (zgu n par wt ans s w)))) n
theorem zx_shareOf {T : zM} (hn : n ≤ 24) (h0 : T.1 0 13 = nI n) {w a : Nat} (hw : w < n) (ha : 0 < a) (ha2 : a < 10) : xX10_shareOf T (nI w) (nI a) = some (T.2 (14 + w) a) := by
  have h10 : ¬ (1 : Int32) = 0 := by decide
  have h1 := zx_has hn h0 hw
  simp (disch := first | assumption | omega) only [zlet, nI_leI, nI_ltI, nI_eq, nI_eq0, nI_clamp, nI_neg0, nI_add, nI_1, false_or, or_false, if_pos, if_neg, Int32.add_zero, Nat.add_zero, Option.bind_some, if_true, if_false, and_true, true_and, and_false, false_and, nI_10, nI_mul, zl2, zl3, zl4, zl5, zl6, zl8, zl9, zl20, zl24, zor0, zsi_g, zsj_g, zsi_2, zsj_1, xX10_shareOf, h1, h10, nI_le0]
theorem zx_sureBits (hV : zVT n par wt ans) (hW : zWh n par ans) {T : zM} (hT : zCS T n par wt ans) {s h : Nat} (hs : s < 2 ^ 31) (hh : h ≤ 100) : xX10_sureBits T (nI s) (nI h) = some (nI (zSB n par wt ans s h)) := by
  have hn := hV.2.1
  unfold xX10_sureBits
  rw [zfor (r := nI (zSB n par wt ans s h)) (fun c => (nI (zbits (fun w => decide (0 < w) && (decide (zgu n par wt ans s w ≠ 0) && decide (h * zsh n par wt ans w ≤ 100 * zoA n par wt ans w (zgu n par wt ans s w)))) c), nI c)) 1 n hV.1 (by omega) ?_ ?_ ?_]
  · rfl
  · rw [zbits_1] <;> rfl
  · intro c h1 h2
    have hga := zx_guessAt (X := zsc n par wt ans c) hn hT.1.1 h2 hs (fun a g1 g2 => ((hT.2.1 c h2).2.2.2.2.1 a g1 g2).1) (fun a _ => by have := zsc_le hV (a := a) c h2; have := zbl_lt hV h2; omega)
    rw [← zgs_cross hV hW h2] at hga
    have hga : xX10_guessAt T (nI c) (nI s) = some (nI (zgu n par wt ans s c)) := hga
    have hgl := zgu_lt (n := n) (par := par) (wt := wt) (ans := ans) (s := s) (w := c)
    obtain ⟨k1, k2, k3, k4, k5, k6⟩ := hT.2.1 c h2
    by_cases q : zgu n par wt ans s c = 0
    · rw [zbits_n (by rw [decide_eq_false (p := zgu n par wt ans s c ≠ 0) (fun z => z q), Bool.false_and, Bool.and_false])]
      simp (disch := first | assumption | omega) only [zlet, nI_leI, nI_ltI, nI_eq, nI_eq0, nI_clamp, nI_neg0, nI_add, nI_1, false_or, or_false, if_pos, if_neg, Int32.add_zero, Nat.add_zero, Option.bind_some, if_true, if_false, and_true, true_and, and_false, false_and, nI_10, nI_mul, zl2, zl3, zl4, zl5, zl6, zl8, zl9, zl20, zl24, zor0, zsi_g, zsj_g, zsi_2, zsj_1, xX10_sureBits_L5, hT.1.1, hga, nI_le0]
    · have s1 := zx_shareOf hn hT.1.1 h2 (a := zgu n par wt ans s c) (by omega) hgl
      have s2 := (k5 (zgu n par wt ans s c) (by omega) hgl).1
      rw [s2] at s1
      have hcr := zcr1 hV hW (a := zgu n par wt ans s c) (by omega) c h2
      have bl := zbl_lt hV h2
      have blp := zbl_pos hV c h2
      have shp := zsh_posw hV hW h2
      have scl := zsc_le hV (a := zgu n par wt ans s c) c h2
      have hm : h * zbl n par wt c ≤ 100 * zbl n par wt c := Nat.mul_le_mul_right _ hh
      have key : (h * zbl n par wt c ≤ zsc n par wt ans c (zgu n par wt ans s c) * 100) ↔ (h * zsh n par wt ans c ≤ 100 * zoA n par wt ans c (zgu n par wt ans s c)) := by
        rw [← Nat.mul_le_mul_right_iff shp, ← Nat.mul_le_mul_right_iff blp (n := h * zsh n par wt ans c)]
        have e1 : zsc n par wt ans c (zgu n par wt ans s c) * 100 * zsh n par wt ans c = 100 * zoA n par wt ans c (zgu n par wt ans s c) * zbl n par wt c := by
          rw [Nat.mul_assoc 100, hcr]
          simp only [Nat.mul_assoc, Nat.mul_comm, Nat.mul_left_comm]
        have e2 : h * zbl n par wt c * zsh n par wt ans c = h * zsh n par wt ans c * zbl n par wt c := Nat.mul_right_comm _ _ _
        rw [e1, e2]
      by_cases r : h * zbl n par wt c ≤ zsc n par wt ans c (zgu n par wt ans s c) * 100
      · rw [zbits_y (by rw [decide_eq_true q, decide_eq_true (show 0 < c from h1), decide_eq_true (key.mp r)]; rfl)]
        simp (disch := first | assumption | omega) only [zlet, nI_leI, nI_ltI, nI_eq, nI_eq0, nI_clamp, nI_neg0, nI_add, nI_1, false_or, or_false, if_pos, if_neg, Int32.add_zero, Nat.add_zero, Option.bind_some, if_true, if_false, and_true, true_and, and_false, false_and, nI_10, nI_mul, zl2, zl3, zl4, zl5, zl6, zl8, zl9, zl20, zl24, zor0, zsi_g, zsj_g, zsi_2, zsj_1, xX10_sureBits_L5, hT.1.1, hga, nI_le0, s1, k4, zL100, lN_mul, nI_l, lg_cmp_lt, jN_lt, zshl, zor]
      · rw [zbits_n (by rw [decide_eq_false (fun z => r (key.mpr z)), Bool.and_false, Bool.and_false])]
        simp (disch := first | assumption | omega) only [zlet, nI_leI, nI_ltI, nI_eq, nI_eq0, nI_clamp, nI_neg0, nI_add, nI_1, false_or, or_false, if_pos, if_neg, Int32.add_zero, Nat.add_zero, Option.bind_some, if_true, if_false, and_true, true_and, and_false, false_and, nI_10, nI_mul, zl2, zl3, zl4, zl5, zl6, zl8, zl9, zl20, zl24, zor0, zsi_g, zsj_g, zsi_2, zsj_1, xX10_sureBits_L5, hT.1.1, hga, nI_le0, s1, k4, zL100, lN_mul, nI_l, lg_cmp_lt, jN_lt]
  · by_cases hh : n = 24
    · subst hh
      simp (disch := first | assumption | omega) only [zlet, nI_leI, nI_ltI, nI_eq, nI_eq0, nI_clamp, nI_neg0, nI_add, nI_1, false_or, or_false, if_pos, if_neg, Int32.add_zero, Nat.add_zero, Option.bind_some, if_true, if_false, and_true, true_and, and_false, false_and, nI_10, nI_mul, zl2, zl3, zl4, zl5, zl6, zl8, zl9, zl20, zl24, zor0, zsi_g, zsj_g, zsi_2, zsj_1, xX10_sureBits_L5, zSB]
    · simp (disch := first | assumption | omega) only [zlet, nI_leI, nI_ltI, nI_eq, nI_eq0, nI_clamp, nI_neg0, nI_add, nI_1, false_or, or_false, if_pos, if_neg, Int32.add_zero, Nat.add_zero, Option.bind_some, if_true, if_false, and_true, true_and, and_false, false_and, nI_10, nI_mul, zl2, zl3, zl4, zl5, zl6, zl8, zl9, zl20, zl24, zor0, zsi_g, zsj_g, zsi_2, zsj_1, xX10_sureBits_L5, zSB, hT.1.1]
/-- the sets come together -/
theorem zset_ends {s k t h : Nat} (hk : k = 0) : zEB n ans &&& zGB n par wt ans s = zbits (zpb n par wt ans k t s h) n := by
  refine Nat.eq_of_testBit_eq fun i => ?_
  unfold zEB zGB
  rw [Nat.testBit_and, zbits_test, zbits_test, zbits_test]
  unfold zpb zmy
  rw [if_pos hk]
  cases decide (i < n) <;> cases decide (0 < i) <;> cases decide (¬ ans i = 0) <;> cases decide (zgu n par wt ans s i ≠ 0) <;> rfl
theorem zset_sure {s k t h : Nat} (hk0 : k ≠ 0) (hk4 : k ≠ 4) : (zSB n par wt ans s h ||| zEB n ans) &&& zGB n par wt ans s = zbits (zpb n par wt ans k t s h) n := by
  refine Nat.eq_of_testBit_eq fun i => ?_
  unfold zEB zGB zSB
  rw [Nat.testBit_and, Nat.testBit_or, zbits_test, zbits_test, zbits_test, zbits_test]
  unfold zpb zmy zsu
  rw [if_neg hk0, if_neg hk4, Bool.decide_or]
  cases decide (i < n) <;> cases decide (0 < i) <;> cases decide (¬ ans i = 0) <;> cases decide (zgu n par wt ans s i ≠ 0) <;> cases decide (h * zsh n par wt ans i ≤ 100 * zoA n par wt ans i (zgu n par wt ans s i)) <;> rfl
theorem zset_told {s k t h : Nat} (hk : k = 4) : t &&& zGB n par wt ans s = zbits (zpb n par wt ans k t s h) n := by
  refine Nat.eq_of_testBit_eq fun i => ?_
  unfold zGB
  rw [Nat.testBit_and, zbits_test, zbits_test]
  unfold zpb zmy
  rw [if_neg (show ¬ k = 0 by omega), if_pos hk]
  cases decide (i < n) <;> cases decide (0 < i) <;> cases t.testBit i <;> cases decide (zgu n par wt ans s i ≠ 0) <;> rfl
theorem zset_alone (hV : zVT n par wt ans) (hW : zWh n par ans) {s : Nat} {pt : Nat → Nat} : zbits (zPc n par wt ans pt (zgu n par wt ans s)) n &&& zGB n par wt ans s = zal n par wt ans pt s := by
  rw [zal, (zalone hV hW).2]
  refine Nat.eq_of_testBit_eq fun i => ?_
  unfold zGB
  rw [Nat.testBit_and, zbits_test, zbits_test]
  by_cases q : zPc n par wt ans pt (zgu n par wt ans s) i = true
  · have q2 := q
    unfold zPc zPa at q2
    have q3 := of_decide_eq_true q2
    rw [q, decide_eq_true q3.1, decide_eq_true q3.2.1]
    cases decide (i < n) <;> rfl
  · have q2 : zPc n par wt ans pt (zgu n par wt ans s) i = false := by simpa using q
    rw [q2]
    cases decide (i < n) <;> rfl
theorem zx_pressBits (hV : zVT n par wt ans) (hW : zWh n par ans) {T R : zM} {P : zP} (hT : zCS T n par wt ans) {pt : Nat → Nat} (hQ : zVQ pt) (hP : zCQ R pt) {a k su t s : Nat} {v : Int32} (hv : v = 0 ∨ v = 1) (ha : a < P.2.2.2) (hk : P.2.1 a = k) (hk5 : k ≤ 5) (h1 : P.2.2.1 a 1 = nI su) (hsu : su ≤ 100) (h3 : k = 4 → P.2.2.1 a 3 = nI t) (hs : s < 1024) : zok (xX6_pressBits T R P (some a) (nI s) v) (fun r => r.1 = nI (zPS n par wt ans pt k t s (if v = 0 then zh0 k su else zh1 k su)) ∧ r.2.1 = R.1 ∧ ∀ j i, j ≠ 69 → r.2.2 j i = R.2 j i) := by
  have hn := hV.2.1
  have hg := zx_guessBits hV hW hT (s := s) (by omega)
  have he := zx_endBits hV hT
  unfold xX6_pressBits
  show zok (if P.2.2.2 ≤ a then none else _) _
  refine zok_g (by omega) ?_
  have hsure : ∀ (h : Nat), h ≤ 100 → k ≠ 0 → k ≠ 4 → k ≠ 5 → h = (if v = 0 then zh0 k su else zh1 k su) → (∀ y : Int32, (xX10_sureBits T (nI s) y).bind (fun q2 => (xX10_endBits T).bind fun q3 => some (q2 ||| q3)) = (xX10_sureBits T (nI s) y).bind (fun q2 => (xX10_endBits T).bind fun q3 => some (q2 ||| q3))) → zok (((((xX10_sureBits T (nI s) (nI h)).bind fun q2 => (xX10_endBits T).bind fun q3 => some (q2 ||| q3)).bind fun q => some (q, R)) : Option (Int32 × zM)).bind fun q4 => (xX10_guessBits T (nI s)).bind fun q5 => some ((q4.1 &&& q5), q4.2)) (fun r => r.1 = nI (zPS n par wt ans pt k t s (if v = 0 then zh0 k su else zh1 k su)) ∧ r.2.1 = R.1 ∧ ∀ j i, j ≠ 69 → r.2.2 j i = R.2 j i) := by
    intro h hh k0 k4 k5 hx _
    rw [zx_sureBits hV hW hT (by omega) hh, he, hg]
    refine zok_some ⟨?_, rfl, fun _ _ _ => rfl⟩
    show (nI _ ||| nI _) &&& nI _ = _
    rw [zor, zand, zset_sure k0 k4 (t := t), ← hx]
    unfold zPS
    rw [if_neg k5]
  have hz1 : zh1 k su ≤ 100 ∧ zh0 k su ≤ 100 := by
    unfold zh1 zh0
    constructor
    · split
      · omega
      · split <;> omega
    · split <;> omega
  unfold xv_wishes
  rw [hk]
  by_cases q0 : k = 0
  · rw [if_pos q0]
    unfold xX2_wishes_k0
    rw [he, hg]
    refine zok_some ⟨?_, rfl, fun _ _ _ => rfl⟩
    show nI _ &&& nI _ = _
    rw [zand, zset_ends (par := par) (wt := wt) (k := k) (t := t) (h := if v = 0 then zh0 k su else zh1 k su) q0]
    unfold zPS
    rw [if_neg (show ¬ k = 5 by omega)]
  rw [if_neg q0]
  by_cases q1 : k = 1
  · rw [if_pos q1]
    have := hsure su hsu (by omega) (by omega) (by omega) (by unfold zh1 zh0; subst q1; split <;> rfl) (fun _ => rfl)
    unfold xX7_wishes_k1 xX7_hundredths_k1
    rw [h1]
    exact this
  rw [if_neg q1]
  by_cases q2 : k = 2
  · rw [if_pos q2]
    have := hsure (su - 20) (by omega) (by omega) (by omega) (by omega) (by unfold zh1 zh0; subst q2; split <;> rfl) (fun _ => rfl)
    unfold xX7_wishes_k2 xX1_hundredths_k2
    rw [h1]
    have e : (if (0 : Int32) < nI su - (20 : Int32) then nI su - (20 : Int32) else (0 : Int32)) = nI (su - 20) := by
      rw [zl20]
      rcases Nat.lt_or_ge 20 su with g | g
      · rw [nI_sub (by omega), if_pos (by rw [← nI_0, nI_ltI (by decide) (by omega)]; omega)]
      · have e5 : nI su - nI 20 = iI ((su : Int) - 20) := by rw [nI_iI, nI_iI, iI_sub]; rfl
        rw [e5, if_neg, show su - 20 = 0 by omega]
        · rfl
        · rw [← iI_0, Int32.lt_iff_toInt_lt, iI_toInt (by decide), iI_toInt (by omega)]
          omega
    rw [e]
    exact this
  rw [if_neg q2]
  by_cases q3 : k = 3
  · rw [if_pos q3]
    unfold xX7_wishes_k3 xX4_hundredths_k3
    rw [h1]
    rcases hv with rfl | rfl
    · rw [if_pos rfl]
      exact hsure su hsu (by omega) (by omega) (by omega) (by unfold zh0; subst q3; rfl) (fun _ => rfl)
    · rw [if_neg (by decide), zl2, nI_div (by omega) (by decide)]
      exact hsure (su / 2) (by omega) (by omega) (by omega) (by omega) (by unfold zh1; subst q3; rfl) (fun _ => rfl)
  rw [if_neg q3]
  by_cases q4 : k = 4
  · rw [if_pos q4]
    unfold xX9_wishes_k4
    rw [hg, h3 q4]
    refine zok_some ⟨?_, rfl, fun _ _ _ => rfl⟩
    show nI _ &&& nI _ = _
    rw [zand, zset_told (par := par) (wt := wt) (ans := ans) (n := n) (h := if v = 0 then zh0 k su else zh1 k su) q4]
    unfold zPS
    rw [if_neg (show ¬ k = 5 by omega)]
  rw [if_neg q4]
  unfold xX0_wishes_k5
  obtain ⟨B, hB, b1, b2, b3, b4⟩ := zx_aloneSet hV hT hQ hP (s := s) (by omega) (gu := zgu n par wt ans s) (fun w hw => zgs_cross hV hW hw)
  rw [hB, hg]
  refine zok_some ⟨?_, b3, b4⟩
  show B.1 &&& nI _ = _
  rw [b1, zand, zset_alone hV hW]
  unfold zPS
  rw [if_pos (show k = 5 by omega)]
/-- the class has the players -/
def zCP (P : zP) (ad : Nat → Nat) (np : Nat) (kd kn hd su td : Nat → Nat) : Prop := ∀ p, p < np → P.1 p = some (ad p) ∧ ad p < P.2.2.2 ∧ P.2.1 (ad p) = kd p ∧ P.2.2.1 (ad p) 0 = nI (hd p) ∧ P.2.2.1 (ad p) 1 = nI (su p) ∧ P.2.2.1 (ad p) 2 = nI (kn p) ∧ (4 ≤ kd p → P.2.2.1 (ad p) 3 = nI (td p)) ∧ ∀ q, q < np → ad p = ad q → p = q
/-- all is prepared -/
def zCF (R : zM) (n : Nat) (par wt ans pt : Nat → Nat) (np : Nat) (kd kn su td : Nat → Nat) : Prop := ∀ p, p < np → R.1 65 p = nI (zGB n par wt ans (kn p)) ∧ R.1 66 p = nI (zPS n par wt ans pt (kd p) (td p) (kn p) (zh0 (kd p) (su p))) ∧ R.1 67 p = nI (zPS n par wt ans pt (kd p) (td p) (kn p) (zh1 (kd p) (su p)))
theorem zx_prepare (hV : zVT n par wt ans) (hW : zWh n par ans) {np : Nat} {ad kd kn hd su td pt : Nat → Nat} (hVP : zVP np kd kn hd su td) (hQ : zVQ pt) {T R : zM} {P : zP} (hT : zCS T n par wt ans) (hCQ : zCQ R pt) (hR2 : R.1 62 2 = nI np) (hCP : zCP P ad np kd kn hd su td) : zok (xX6_prepare T R P) (fun r => zCF r n par wt ans pt np kd kn su td ∧ (∀ j k, j ≠ 65 → j ≠ 66 → j ≠ 67 → r.1 j k = R.1 j k) ∧ ∀ j k, j ≠ 69 → r.2 j k = R.2 j k) := by
  have hn := hV.2.1
  have hnp := hVP.1
  unfold xX6_prepare
  refine zok_bind ?_
  refine zok_for (fun c (z : zM × Int32) => z.2 = nI c ∧ zCF z.1 n par wt ans pt c kd kn su td ∧ (∀ j k, j ≠ 65 → j ≠ 66 → j ≠ 67 → z.1.1 j k = R.1 j k) ∧ ∀ j k, j ≠ 69 → z.1.2 j k = R.2 j k) 0 np (Nat.zero_le _) (by omega) ⟨rfl, fun p h => absurd h (Nat.not_lt_zero _), fun _ _ _ _ _ => rfl, fun _ _ _ => rfl⟩ ?_ ?_
  · rintro p ⟨A, i⟩ h1 h2 ⟨e0, e1, e2, e3⟩
    try dsimp only at e0 e1 e2 e3
    subst e0
    obtain ⟨v1, v2, v3, v4, v5, v6⟩ := hVP.2 p h2
    obtain ⟨c1, c2, c3, c4, c5, c6, c7, c8⟩ := hCP p h2
    have f2 : A.1 62 2 = nI np := (e2 62 2 (by decide) (by decide) (by decide)).trans hR2
    have hg := zx_guessBits hV hW hT (s := kn p) (by omega)
    have qq : ∀ B : zM, (∀ j k, j ≠ 65 → j ≠ 66 → j ≠ 67 → B.1 j k = A.1 j k) → zCQ B pt := fun B b k hk => (b 64 k (by decide) (by decide) (by decide)).trans ((e2 64 k (by decide) (by decide) (by decide)).trans (hCQ k hk))
    obtain ⟨B, hB, b1, b2, b3⟩ := zx_pressBits hV hW hT hQ (qq (zsi A 65 p (nI (zGB n par wt ans (kn p)))) (fun j k g1 _ _ => by rw [zsi_ne (fun z => g1 z.1)])) (v := 0) (Or.inl rfl) c2 c3 v1 c5 v4 (fun g => c7 (by omega)) v2
    rw [if_pos rfl] at b1
    have hB1 : ∀ j k, j ≠ 65 → j ≠ 66 → j ≠ 67 → (zsi B.2 66 p B.1).1 j k = A.1 j k := by
      intro j k g1 g2 g3
      rw [zsi_ne (fun z => g2 z.1), b2, zsi_ne (fun z => g1 z.1)]
    obtain ⟨C, hC, d1, d2, d3⟩ := zx_pressBits hV hW hT hQ (qq (zsi B.2 66 p B.1) hB1) (v := 1) (Or.inr rfl) c2 c3 v1 c5 v4 (fun g => c7 (by omega)) v2
    rw [if_neg (by decide)] at d1
    have cell : ∀ j k, (zsi C.2 67 p C.1).1 j k = if j = 67 ∧ k = p then C.1 else if j = 66 ∧ k = p then B.1 else if j = 65 ∧ k = p then nI (zGB n par wt ans (kn p)) else A.1 j k := by
      intro j k
      rw [zsi_g, d2, zsi_g, b2, zsi_g]
    refine ⟨.inl (zsi C.2 67 p C.1, nI (p + 1)), ?_, _, rfl, rfl, fun q hq => ?_, fun j k g1 g2 g3 => ?_, fun j k g => ?_⟩
    · simp only [xX6_prepare_L2, zlet]
      rw [if_neg (by rw [zl4, nI_leI (by decide) (by omega)]; omega), f2, if_neg (by rw [nI_leI (by omega) (by omega)]; omega), if_neg (nI_in (by omega) (by decide)), nI_clamp (by omega), c1]
      simp only [zon]
      rw [if_neg (by omega), c6, hg, Option.bind_some, hB, Option.bind_some, hC, Option.bind_some, nI_1]
    · try dsimp only
      rw [cell, cell, cell]
      by_cases g : q = p
      · subst g
        rw [if_neg (by omega), if_neg (by omega), if_pos ⟨rfl, rfl⟩, if_neg (by omega), if_pos ⟨rfl, rfl⟩, if_pos ⟨rfl, rfl⟩]
        exact ⟨rfl, b1, d1⟩
      · rw [if_neg (by omega), if_neg (by omega), if_neg (by omega), if_neg (by omega), if_neg (by omega), if_neg (by omega), if_neg (by omega), if_neg (by omega), if_neg (by omega)]
        exact e1 q (by omega)
    · try dsimp only
      rw [cell, if_neg (fun z => g3 z.1), if_neg (fun z => g2 z.1), if_neg (fun z => g1 z.1)]
      exact e2 j k g1 g2 g3
    · show (zsi C.2 67 p C.1).2 j k = R.2 j k
      rw [zsi_2, d3 j k g, zsi_2, b3 j k g]
      exact e3 j k g
  · rintro ⟨A, i⟩ ⟨e0, e1, e2, e3⟩
    try dsimp only at e0 e1 e2 e3
    subst e0
    have f2 : A.1 62 2 = nI np := (e2 62 2 (by decide) (by decide) (by decide)).trans hR2
    refine ⟨.inr A, ?_, A, rfl, zok_some ⟨e1, e2, e3⟩⟩
    by_cases hh : np = 4
    · subst hh
      simp (disch := first | assumption | omega) only [zlet, nI_leI, nI_ltI, nI_eq, nI_eq0, nI_clamp, nI_neg0, nI_add, nI_1, false_or, or_false, if_pos, if_neg, Int32.add_zero, Nat.add_zero, Option.bind_some, if_true, if_false, and_true, true_and, and_false, false_and, nI_10, nI_mul, zl2, zl3, zl4, zl5, zl6, zl8, zl9, zl20, zl24, zor0, zsi_g, zsj_g, zsi_2, zsj_1, xX6_prepare_L2]
    · simp (disch := first | assumption | omega) only [zlet, nI_leI, nI_ltI, nI_eq, nI_eq0, nI_clamp, nI_neg0, nI_add, nI_1, false_or, or_false, if_pos, if_neg, Int32.add_zero, Nat.add_zero, Option.bind_some, if_true, if_false, and_true, true_and, and_false, false_and, nI_10, nI_mul, zl2, zl3, zl4, zl5, zl6, zl8, zl9, zl20, zl24, zor0, zsi_g, zsj_g, zsi_2, zsj_1, xX6_prepare_L2, f2]
end
