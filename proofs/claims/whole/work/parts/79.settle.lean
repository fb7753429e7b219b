/-! the class reckons what is behind each word -/
section
variable {n : Nat} {par wt ans : Nat → Nat}
def zbh (n : Nat) (par ans : Nat → Nat) (w : Nat) : Nat := zop (· ||| ·) 0 (fun e => if zbe par e w = true then (if ans e = 0 then 0 else 2 ^ ans e) else 0) n
def zbn (n : Nat) (par ans : Nat → Nat) (w c : Nat) : Nat := if 0 < c ∧ par c = w then zbh n par ans c else 0
theorem zbh_s (hV : zVT n par wt ans) {w : Nat} (hw : w < n) : zbh n par ans w = (if ans w = 0 then 0 else 2 ^ ans w) ||| zop (· ||| ·) 0 (zbn n par ans w) n := zop_part (o := (· ||| ·)) Nat.or_assoc Nat.or_comm Nat.or_zero hV hw _
theorem zor_lt {f : Nat → Nat} {k : Nat} : ∀ {n : Nat}, (∀ i, i < n → f i < 2 ^ k) → zop (· ||| ·) 0 f n < 2 ^ k
  | 0, _ => Nat.two_pow_pos k
  | n + 1, h => Nat.or_lt_two_pow (zor_lt (fun i hi => h i (by omega))) (h n (by omega))
theorem zown_lt (hV : zVT n par wt ans) {e : Nat} (he : e < n) : (if ans e = 0 then 0 else 2 ^ ans e) < 2 ^ 10 := by
  have h := zans_le hV he
  split
  · decide
  · exact Nat.pow_lt_pow_right (by decide) (by omega)
theorem zbh_lt (hV : zVT n par wt ans) {w : Nat} : zbh n par ans w < 2 ^ 10 := by
  refine zor_lt (fun e he => ?_)
  try dsimp only
  split
  · exact zown_lt hV he
  · decide
/-- a word's row of the class is reckoned -/
def zTr (T : zM) (n : Nat) (par wt ans : Nat → Nat) (w : Nat) : Prop := T.1 5 w = nI (znx n par w) ∧ T.1 6 w = nI (zsw n par wt w) ∧ T.1 7 w = nI (zbh n par ans w) ∧ T.2 9 w = lN (zbl n par wt w) ∧ (∀ a, 0 < a → a < 10 → T.2 (14 + w) a = lN (zsc n par wt ans w a) ∧ T.2 (38 + w) a = lN (zfr n par wt ans w a)) ∧ ∀ c, 0 < c → c < n → par c = w → T.2 10 c = lN (zst n par wt c)
theorem zlcm_div {a b : Nat} : a / Nat.gcd a b * b = Nat.lcm a b := by
  rcases Nat.eq_zero_or_pos a with rfl | h
  · rw [Nat.zero_div, Nat.zero_mul, Nat.lcm_zero_left]
  · have g : 0 < Nat.gcd a b := Nat.gcd_pos_of_pos_left _ h
    obtain ⟨k, hk⟩ := Nat.gcd_dvd_left a b
    refine Nat.eq_of_mul_eq_mul_left g ?_
    rw [Nat.gcd_mul_lcm, ← Nat.mul_assoc, Nat.mul_div_cancel' (Nat.gcd_dvd_left a b)]
theorem zx_lB60 (hV : zVT n par wt ans) {T : zM} {w : Nat} (hw : w < n) (hT : zTC T n par wt ans) (h5 : T.1 5 w = nI 0) (h6 : T.1 6 w = nI 0) {own : Nat} (ho : own < 2 ^ 10) (h7 : T.1 7 w = nI own) (hr : ∀ c, w < c → c < n → zTr T n par wt ans c) : zok (x_it (fun a9 => xX10_lookBehind_L60_b54 (nI w) a9.1 a9.2.1 a9.2.2.1 a9.2.2.2) zFU (T, (0 : Int64), (1 : Int64), nI (w + 1))) (fun r => r.2.1 = lN (zgc n par wt w) ∧ r.2.2 = lN (zml n par wt w) ∧ r.1.1 5 w = nI (znx n par w) ∧ r.1.1 6 w = nI (zsw n par wt w) ∧ r.1.1 7 w = nI (own ||| zop (· ||| ·) 0 (zbn n par ans w) n) ∧ r.1.2 = T.2 ∧ ∀ j k, ¬ ((j = 5 ∨ j = 6 ∨ j = 7) ∧ k = w) → r.1.1 j k = T.1 j k) := by
  have hn := hV.2.1
  refine zok_for (fun c z => z.2.2.2 = nI c ∧ z.2.1 = lN (zgcs (zwc par wt w) c) ∧ z.2.2.1 = lN (zlcs (zmc n par wt w) c) ∧ z.1.1 5 w = nI (znx c par w) ∧ z.1.1 6 w = nI (zsum (zwc par wt w) c) ∧ z.1.1 7 w = nI (own ||| zop (· ||| ·) 0 (zbn n par ans w) c) ∧ z.1.2 = T.2 ∧ ∀ j k, ¬ ((j = 5 ∨ j = 6 ∨ j = 7) ∧ k = w) → z.1.1 j k = T.1 j k) (w + 1) n hw (by omega) ⟨rfl, ?_, ?_, ?_, ?_, ?_, rfl, fun _ _ _ => rfl⟩ ?_ ?_
  · rw [zgcs_zero (fun i hi => zwc_lo hV (by omega) (by omega))]
    rfl
  · rw [zlcs_one]
    · rfl
    · intro i hi
      refine if_neg (fun q => ?_)
      have := (hV.2.2.1 i q.1 (by omega)).1
      omega
  · rw [h5]
    congr 1
    refine (zsum_zero (fun i hi => if_neg (fun q => ?_))).symm
    have := (hV.2.2.1 i q.1 (by omega)).1
    omega
  · rw [h6, zsum_zero (fun i hi => zwc_lo hV (by omega) (by omega))]
  · try dsimp only
    rw [h7, zop_u Nat.or_zero, Nat.or_zero]
    intro i hi
    refine if_neg (fun q => ?_)
    have := (hV.2.2.1 i q.1 (by omega)).1
    omega
  · rintro c ⟨A, g, m, i⟩ h1 h2 ⟨e0, e1, e2, e3, e4, e5, e6, e7⟩
    try dsimp only at e0 e1 e2 e3 e4 e5 e6 e7
    subst e0 e1 e2
    have hp := hV.2.2.1 c (by omega) h2
    obtain ⟨t1, t2, t3⟩ := hT.2 c h2
    obtain ⟨r1, r2, r3, r4, -, -⟩ := hr c (by omega) h2
    have f0 : A.1 0 13 = nI n := (e7 0 13 (by omega)).trans hT.1
    have f1 : A.1 1 c = nI (par c) := (e7 1 c (by omega)).trans t1
    have f2 : A.1 2 c = nI (wt c) := (e7 2 c (by omega)).trans t2
    have f7 : A.1 7 c = nI (zbh n par ans c) := (e7 7 c (by omega)).trans r3
    have f9 : A.2 9 c = lN (zbl n par wt c) := (congrFun (congrFun e6 9) c).trans r4
    have hg9 : zgcs (zwc par wt w) c ≤ 9 := zgcs_le (fun _ hi => zwc_le hV (by omega))
    have hmp : 0 < zlcs (zmc n par wt w) c := zlcs_pos (fun _ hi => zmc_pos hV (by omega))
    have hml : zlcs (zmc n par wt w) c ≤ zml n par wt w := by
      obtain ⟨d, hd⟩ : ∃ d, n = c + d := ⟨n - c, by omega⟩
      have hd2 : ∀ d, c + d ≤ n → zlcs (zmc n par wt w) c ≤ zlcs (zmc n par wt w) (c + d) := by
        intro d
        induction d with
        | zero => intro _; exact Nat.le_refl _
        | succ d ih =>
          intro hh
          refine Nat.le_trans (ih (by omega)) (Nat.le_of_dvd (zlcs_pos (fun _ hi => zmc_pos hV (by omega))) ?_)
          exact Nat.dvd_lcm_left _ _
      have := hd2 d (by omega)
      rw [← hd] at this
      exact this
    have hml2 := zml_le hV hw
    have hbl := zbl_lt hV hw
    have hblc := zbl_lt hV h2
    by_cases q : par c = w
    · have q2 : 0 < c ∧ par c = w := ⟨by omega, q⟩
      have a1 : znx (c + 1) par w = znx c par w + 1 := by
        show znx c par w + (if 0 < c ∧ par c = w then 1 else 0) = _
        rw [if_pos q2]
      have a2 : zsum (zwc par wt w) (c + 1) = zsum (zwc par wt w) c + wt c := by
        show zsum (zwc par wt w) c + (if 0 < c ∧ par c = w then wt c else 0) = _
        rw [if_pos q2]
      have a3 : zop (· ||| ·) 0 (zbn n par ans w) (c + 1) = zop (· ||| ·) 0 (zbn n par ans w) c ||| zbh n par ans c := by
        show zop (· ||| ·) 0 (zbn n par ans w) c ||| (if 0 < c ∧ par c = w then zbh n par ans c else 0) = _
        rw [if_pos q2]
      have a4 : zgcs (zwc par wt w) (c + 1) = Nat.gcd (zgcs (zwc par wt w) c) (wt c) := by
        show Nat.gcd (if 0 < c ∧ par c = w then wt c else 0) _ = _
        rw [if_pos q2, Nat.gcd_comm]
      have a5 : zlcs (zmc n par wt w) (c + 1) = Nat.lcm (zlcs (zmc n par wt w) c) (zbl n par wt c) := by
        show Nat.lcm _ (if 0 < c ∧ par c = w then zbl n par wt c else 1) = _
        rw [if_pos q2]
      have c1 := zx_comdivN (a := zgcs (zwc par wt w) c) (b := wt c) (by omega) (by omega)
      have c2 := zx_comdivN (a := zlcs (zmc n par wt w) c) (b := zbl n par wt c) (by omega) hblc
      have hgl : Nat.gcd (zlcs (zmc n par wt w) c) (zbl n par wt c) ≤ zlcs (zmc n par wt w) c := Nat.gcd_le_left _ hmp
      have c3 := zx_parted (a := zlcs (zmc n par wt w) c) (b := Nat.gcd (zlcs (zmc n par wt w) c) (zbl n par wt c)) (by omega) (by omega)
      refine ⟨.inl (zsi (zsi (zsi A 5 w (nI (znx c par w + 1))) 6 w (nI (zsum (zwc par wt w) c + wt c))) 7 w (nI ((own ||| zop (· ||| ·) 0 (zbn n par ans w) c) ||| zbh n par ans c)), lN (Nat.gcd (zgcs (zwc par wt w) c) (wt c)), lN (Nat.lcm (zlcs (zmc n par wt w) c) (zbl n par wt c)), nI (c + 1)), ?_, _, rfl, rfl, by rw [a4], by rw [a5], ?_, ?_, ?_, e6, ?_⟩
      · simp (disch := first | assumption | omega) only [zlet, nI_leI, nI_ltI, nI_eq, nI_eq0, nI_clamp, nI_neg0, nI_add, nI_1, false_or, or_false, if_pos, if_neg, Int32.add_zero, Nat.add_zero, Option.bind_some, if_true, if_false, and_true, true_and, and_false, false_and, nI_10, nI_mul, zl2, zl3, zl4, zl5, zl6, zl8, zl9, zl20, zl24, zor0, zsi_g, zsj_g, zsi_2, zsj_1, xX10_lookBehind_L60_b54, f0, f1, f2, e3, e4, e5, f7, f9, zor, nI_l, c1, c2, c3, lN_mul, zlcm_div]
      · rw [a1]
        simp (disch := first | assumption | omega) only [zlet, nI_leI, nI_ltI, nI_eq, nI_eq0, nI_clamp, nI_neg0, nI_add, nI_1, false_or, or_false, if_pos, if_neg, Int32.add_zero, Nat.add_zero, Option.bind_some, if_true, if_false, and_true, true_and, and_false, false_and, nI_10, nI_mul, zl2, zl3, zl4, zl5, zl6, zl8, zl9, zl20, zl24, zor0, zsi_g, zsj_g, zsi_2, zsj_1]
      · rw [a2]
        simp (disch := first | assumption | omega) only [zlet, nI_leI, nI_ltI, nI_eq, nI_eq0, nI_clamp, nI_neg0, nI_add, nI_1, false_or, or_false, if_pos, if_neg, Int32.add_zero, Nat.add_zero, Option.bind_some, if_true, if_false, and_true, true_and, and_false, false_and, nI_10, nI_mul, zl2, zl3, zl4, zl5, zl6, zl8, zl9, zl20, zl24, zor0, zsi_g, zsj_g, zsi_2, zsj_1]
      · rw [a3, ← Nat.or_assoc]
        simp (disch := first | assumption | omega) only [zlet, nI_leI, nI_ltI, nI_eq, nI_eq0, nI_clamp, nI_neg0, nI_add, nI_1, false_or, or_false, if_pos, if_neg, Int32.add_zero, Nat.add_zero, Option.bind_some, if_true, if_false, and_true, true_and, and_false, false_and, nI_10, nI_mul, zl2, zl3, zl4, zl5, zl6, zl8, zl9, zl20, zl24, zor0, zsi_g, zsj_g, zsi_2, zsj_1]
      · intro j k hjk
        rw [zsi_ne (by omega), zsi_ne (by omega), zsi_ne (by omega)]
        exact e7 j k hjk
    · have q2 : ¬ (0 < c ∧ par c = w) := fun z => q z.2
      have a1 : znx (c + 1) par w = znx c par w := by
        show znx c par w + (if 0 < c ∧ par c = w then 1 else 0) = _
        rw [if_neg q2]
        rfl
      have a2 : zsum (zwc par wt w) (c + 1) = zsum (zwc par wt w) c := by
        show zsum (zwc par wt w) c + (if 0 < c ∧ par c = w then wt c else 0) = _
        rw [if_neg q2]
        rfl
      have a3 : zop (· ||| ·) 0 (zbn n par ans w) (c + 1) = zop (· ||| ·) 0 (zbn n par ans w) c := by
        show zop (· ||| ·) 0 (zbn n par ans w) c ||| (if 0 < c ∧ par c = w then zbh n par ans c else 0) = _
        rw [if_neg q2, Nat.or_zero]
      have a4 : zgcs (zwc par wt w) (c + 1) = zgcs (zwc par wt w) c := by
        show Nat.gcd (if 0 < c ∧ par c = w then wt c else 0) _ = _
        rw [if_neg q2, Nat.gcd_zero_left]
      have a5 : zlcs (zmc n par wt w) (c + 1) = zlcs (zmc n par wt w) c := by
        show Nat.lcm _ (if 0 < c ∧ par c = w then zbl n par wt c else 1) = _
        rw [if_neg q2, Nat.lcm_one_right]
      refine ⟨.inl (A, lN (zgcs (zwc par wt w) c), lN (zlcs (zmc n par wt w) c), nI (c + 1)), ?_, _, rfl, rfl, by rw [a4], by rw [a5], by rw [a1]; exact e3, by rw [a2]; exact e4, by rw [a3]; exact e5, e6, e7⟩
      simp (disch := first | assumption | omega) only [zlet, nI_leI, nI_ltI, nI_eq, nI_eq0, nI_clamp, nI_neg0, nI_add, nI_1, false_or, or_false, if_pos, if_neg, Int32.add_zero, Nat.add_zero, Option.bind_some, if_true, if_false, and_true, true_and, and_false, false_and, nI_10, nI_mul, zl2, zl3, zl4, zl5, zl6, zl8, zl9, zl20, zl24, zor0, zsi_g, zsj_g, zsi_2, zsj_1, xX10_lookBehind_L60_b54, f0, f1]
  · rintro ⟨A, g, m, i⟩ ⟨e0, e1, e2, e3, e4, e5, e6, e7⟩
    try dsimp only at e0 e1 e2 e3 e4 e5 e6 e7
    subst e0
    have f0 : A.1 0 13 = nI n := (e7 0 13 (by omega)).trans hT.1
    refine ⟨.inr (A, g, m), ?_, _, rfl, e1, e2, e3, e4, e5, e6, e7⟩
    by_cases hh : n = 24
    · subst hh
      simp (disch := first | assumption | omega) only [zlet, nI_leI, nI_ltI, nI_eq, nI_eq0, nI_clamp, nI_neg0, nI_add, nI_1, false_or, or_false, if_pos, if_neg, Int32.add_zero, Nat.add_zero, Option.bind_some, if_true, if_false, and_true, true_and, and_false, false_and, nI_10, nI_mul, zl2, zl3, zl4, zl5, zl6, zl8, zl9, zl20, zl24, zor0, zsi_g, zsj_g, zsi_2, zsj_1, xX10_lookBehind_L60_b54]
    · simp (disch := first | assumption | omega) only [zlet, nI_leI, nI_ltI, nI_eq, nI_eq0, nI_clamp, nI_neg0, nI_add, nI_1, false_or, or_false, if_pos, if_neg, Int32.add_zero, Nat.add_zero, Option.bind_some, if_true, if_false, and_true, true_and, and_false, false_and, nI_10, nI_mul, zl2, zl3, zl4, zl5, zl6, zl8, zl9, zl20, zl24, zor0, zsi_g, zsj_g, zsi_2, zsj_1, xX10_lookBehind_L60_b54, f0]
end
