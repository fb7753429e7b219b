/-! a word's shares out of the next ones' -/
section
variable {n : Nat} {par wt ans : Nat → Nat}
theorem zx_lB214 {T : zM} {w an : Nat} (hw : w < 24) (h3 : T.1 3 w = nI an) (ha : an ≤ 9) {v2 v4 : Int64} : zok (x_it (fun a9 => xX10_lookBehind_L214_b210 (nI w) v2 v4 a9.1 a9.2) zFU (T, (0 : Int32))) (fun r => r.1 = T.1 ∧ (∀ a, a < 10 → r.2 (14 + w) a = lN (if 0 < a ∧ a = an then 1 else 0) ∧ r.2 (38 + w) a = lN 0) ∧ ∀ j k, j ≠ 14 + w → j ≠ 38 + w → r.2 j k = T.2 j k) := by
  refine zok_for (fun c z => z.2 = nI c ∧ z.1.1 = T.1 ∧ (∀ a, a < c → z.1.2 (14 + w) a = lN (if 0 < a ∧ a = an then 1 else 0) ∧ z.1.2 (38 + w) a = lN 0) ∧ ∀ j k, j ≠ 14 + w → j ≠ 38 + w → z.1.2 j k = T.2 j k) 0 10 (by decide) (by decide) ⟨rfl, rfl, fun a h => absurd h (Nat.not_lt_zero _), fun _ _ _ _ => rfl⟩ ?_ ?_
  · rintro c ⟨A, i⟩ h1 h2 ⟨e0, e1, e2, e3⟩
    try dsimp only at e0 e1 e2 e3
    subst e0
    have f3 : A.1 3 w = nI an := by rw [e1]; exact h3
    have fin : ∀ x : Nat, x = (if 0 < c ∧ c = an then 1 else 0) → ∀ a, a < c + 1 → (zsj (zsj A (14 + w) c (lN x)) (38 + w) c (lN 0)).2 (14 + w) a = lN (if 0 < a ∧ a = an then 1 else 0) ∧ (zsj (zsj A (14 + w) c (lN x)) (38 + w) c (lN 0)).2 (38 + w) a = lN 0 := by
      intro x hx a h
      rcases Nat.lt_or_ge a c with g | g
      · obtain ⟨k1, k2⟩ := e2 a g
        rw [zsj_ne (by omega), zsj_ne (by omega), zsj_ne (by omega), zsj_ne (by omega)]
        exact ⟨k1, k2⟩
      · obtain rfl : a = c := by omega
        rw [zsj_ne (by omega), zsj_y ⟨rfl, rfl⟩, zsj_y ⟨rfl, rfl⟩, hx]
        exact ⟨rfl, rfl⟩
    have fr : ∀ x : Nat, ∀ j k, j ≠ 14 + w → j ≠ 38 + w → (zsj (zsj A (14 + w) c (lN x)) (38 + w) c (lN 0)).2 j k = T.2 j k := by
      intro x j k g1 g2
      rw [zsj_ne (by omega), zsj_ne (by omega)]
      exact e3 j k g1 g2
    by_cases q0 : c = 0
    · refine ⟨.inl (zsj (zsj A (14 + w) c (lN 0)) (38 + w) c (lN 0), nI (c + 1)), ?_, _, rfl, rfl, e1, fin 0 (by rw [if_neg (by omega)]), fr 0⟩
      simp (disch := first | assumption | omega) only [zlet, nI_leI, nI_ltI, nI_eq, nI_eq0, nI_clamp, nI_neg0, nI_add, nI_1, false_or, or_false, if_pos, if_neg, Int32.add_zero, Nat.add_zero, Option.bind_some, if_true, if_false, and_true, true_and, and_false, false_and, nI_10, nI_mul, zl2, zl3, zl4, zl5, zl6, zl8, zl9, zl20, zl24, zor0, zsi_g, zsj_g, zsi_2, zsj_1, xX10_lookBehind_L214_b210, nI_le0, zL0]
    · by_cases q1 : c = an
      · refine ⟨.inl (zsj (zsj A (14 + w) c (lN 1)) (38 + w) c (lN 0), nI (c + 1)), ?_, _, rfl, rfl, e1, fin 1 (by rw [if_pos ⟨by omega, q1⟩]), fr 1⟩
        simp (disch := first | assumption | omega) only [zlet, nI_leI, nI_ltI, nI_eq, nI_eq0, nI_clamp, nI_neg0, nI_add, nI_1, false_or, or_false, if_pos, if_neg, Int32.add_zero, Nat.add_zero, Option.bind_some, if_true, if_false, and_true, true_and, and_false, false_and, nI_10, nI_mul, zl2, zl3, zl4, zl5, zl6, zl8, zl9, zl20, zl24, zor0, zsi_g, zsj_g, zsi_2, zsj_1, xX10_lookBehind_L214_b210, nI_le0, zL0, zL1, f3]
      · refine ⟨.inl (zsj (zsj A (14 + w) c (lN 0)) (38 + w) c (lN 0), nI (c + 1)), ?_, _, rfl, rfl, e1, fin 0 (by rw [if_neg (fun z => q1 z.2)]), fr 0⟩
        simp (disch := first | assumption | omega) only [zlet, nI_leI, nI_ltI, nI_eq, nI_eq0, nI_clamp, nI_neg0, nI_add, nI_1, false_or, or_false, if_pos, if_neg, Int32.add_zero, Nat.add_zero, Option.bind_some, if_true, if_false, and_true, true_and, and_false, false_and, nI_10, nI_mul, zl2, zl3, zl4, zl5, zl6, zl8, zl9, zl20, zl24, zor0, zsi_g, zsj_g, zsi_2, zsj_1, xX10_lookBehind_L214_b210, nI_le0, zL0, f3]
  · rintro ⟨A, i⟩ ⟨e0, e1, e2, e3⟩
    try dsimp only at e0 e1 e2 e3
    subst e0
    refine ⟨.inr A, ?_, A, rfl, e1, e2, e3⟩
    simp (disch := first | assumption | omega) only [zlet, nI_leI, nI_ltI, nI_eq, nI_eq0, nI_clamp, nI_neg0, nI_add, nI_1, false_or, or_false, if_pos, if_neg, Int32.add_zero, Nat.add_zero, Option.bind_some, if_true, if_false, and_true, true_and, and_false, false_and, nI_10, nI_mul, zl2, zl3, zl4, zl5, zl6, zl8, zl9, zl20, zl24, zor0, zsi_g, zsj_g, zsi_2, zsj_1, xX10_lookBehind_L214_b210]
theorem zx_addShares {T : zM} (hn : n ≤ 24) (h0 : T.1 0 13 = nI n) {w c s : Nat} (hwc : w < c) (hc : c < n) {X Y x y : Nat → Nat} (hs : T.2 10 c = lN s) (hx : ∀ a, 0 < a → a < 10 → T.2 (14 + c) a = lN (x a) ∧ T.2 (38 + c) a = lN (y a)) (hX : ∀ a, 0 < a → a < 10 → T.2 (14 + w) a = lN (X a) ∧ T.2 (38 + w) a = lN (Y a)) : zok (xX10_addShares T (nI w) (nI c)) (fun r => r.1 = T.1 ∧ (∀ a, 0 < a → a < 10 → r.2 (14 + w) a = lN (X a + s * x a) ∧ r.2 (38 + w) a = lN (Y a + s * (y a + x a))) ∧ ∀ j k, j ≠ 14 + w → j ≠ 38 + w → r.2 j k = T.2 j k) := by
  unfold xX10_addShares
  rw [zx_has hn h0 (by omega), zx_has hn h0 hc]
  refine zok_bind (zok_some ?_)
  rw [if_neg (by decide)]
  refine zok_bind (zok_some ?_)
  rw [if_neg (by decide)]
  refine zok_bind ?_
  refine zok_for (fun d z => z.2 = nI d ∧ z.1.1 = T.1 ∧ (∀ a, 0 < a → a < 10 → z.1.2 (14 + w) a = lN (if a < d then X a + s * x a else X a) ∧ z.1.2 (38 + w) a = lN (if a < d then Y a + s * (y a + x a) else Y a)) ∧ ∀ j k, j ≠ 14 + w → j ≠ 38 + w → z.1.2 j k = T.2 j k) 1 10 (by decide) (by decide) ⟨rfl, rfl, fun a h1 h2 => ?_, fun _ _ _ _ => rfl⟩ ?_ ?_
  · rw [if_neg (by omega), if_neg (by omega)]
    exact hX a h1 h2
  · rintro d ⟨A, i⟩ h1 h2 ⟨e0, e1, e2, e3⟩
    try dsimp only at e0 e1 e2 e3
    subst e0
    obtain ⟨k1, k2⟩ := e2 d (by omega) h2
    rw [if_neg (by omega)] at k1 k2
    obtain ⟨g1, g2⟩ := hx d (by omega) h2
    have f1 : A.2 10 c = lN s := (e3 10 c (by omega) (by omega)).trans hs
    have f2 : A.2 (14 + c) d = lN (x d) := (e3 _ d (by omega) (by omega)).trans g1
    have f3 : A.2 (38 + c) d = lN (y d) := (e3 _ d (by omega) (by omega)).trans g2
    refine ⟨.inl (zsj (zsj A (14 + w) d (lN (X d + s * x d))) (38 + w) d (lN (Y d + s * (y d + x d))), nI (d + 1)), ?_, _, rfl, rfl, e1, fun a g3 g4 => ?_, fun j k g3 g4 => ?_⟩
    · simp (disch := first | assumption | omega) only [zlet, nI_leI, nI_ltI, nI_eq, nI_eq0, nI_clamp, nI_neg0, nI_add, nI_1, false_or, or_false, if_pos, if_neg, Int32.add_zero, Nat.add_zero, Option.bind_some, if_true, if_false, and_true, true_and, and_false, false_and, nI_10, nI_mul, zl2, zl3, zl4, zl5, zl6, zl8, zl9, zl20, zl24, zor0, zsi_g, zsj_g, zsi_2, zsj_1, xX10_addShares_L19, k1, k2, f1, f2, f3, lN_add, lN_mul]
    · obtain ⟨p1, p2⟩ := e2 a g3 g4
      by_cases q : a = d
      · subst q
        rw [zsj_ne (by omega), zsj_y ⟨rfl, rfl⟩, zsj_y ⟨rfl, rfl⟩, if_pos (by omega), if_pos (by omega)]
        exact ⟨rfl, rfl⟩
      · rw [zsj_ne (by omega), zsj_ne (by omega), zsj_ne (by omega), zsj_ne (by omega), p1, p2]
        have e : (a < d + 1) = (a < d) := propext (by omega)
        simp only [e, and_self]
    · rw [zsj_ne (by omega), zsj_ne (by omega)]
      exact e3 j k g3 g4
  · rintro ⟨A, i⟩ ⟨e0, e1, e2, e3⟩
    try dsimp only at e0 e1 e2 e3
    subst e0
    refine ⟨.inr A, ?_, A, rfl, zok_some ⟨e1, fun a g3 g4 => ?_, e3⟩⟩
    · simp (disch := first | assumption | omega) only [zlet, nI_leI, nI_ltI, nI_eq, nI_eq0, nI_clamp, nI_neg0, nI_add, nI_1, false_or, or_false, if_pos, if_neg, Int32.add_zero, Nat.add_zero, Option.bind_some, if_true, if_false, and_true, true_and, and_false, false_and, nI_10, nI_mul, zl2, zl3, zl4, zl5, zl6, zl8, zl9, zl20, zl24, zor0, zsi_g, zsj_g, zsi_2, zsj_1, xX10_addShares_L19]
    · obtain ⟨p1, p2⟩ := e2 a g3 g4
      rw [if_pos g4] at p1 p2
      exact ⟨p1, p2⟩
/-- the sums so far -/
def zps1 (n : Nat) (par wt ans : Nat → Nat) (w a d : Nat) : Nat := if 0 < d ∧ par d = w then zst n par wt d * zsc n par wt ans d a else 0
def zps2 (n : Nat) (par wt ans : Nat → Nat) (w a d : Nat) : Nat := if 0 < d ∧ par d = w then zst n par wt d * (zfr n par wt ans d a + zsc n par wt ans d a) else 0
theorem zx_lB272 (hV : zVT n par wt ans) {T : zM} {w : Nat} (hw : w < n) (hT : zTC T n par wt ans) (hr : ∀ c, w < c → c < n → T.2 9 c = lN (zbl n par wt c) ∧ ∀ a, 0 < a → a < 10 → T.2 (14 + c) a = lN (zsc n par wt ans c a) ∧ T.2 (38 + c) a = lN (zfr n par wt ans c a)) {own : Nat → Nat} (h0 : ∀ a, 0 < a → a < 10 → T.2 (14 + w) a = lN (own a) ∧ T.2 (38 + w) a = lN 0) : zok (x_it (fun a9 => xX10_lookBehind_L272_b210 (nI w) (lN (zgc n par wt w)) (lN (zml n par wt w)) a9.1 a9.2) zFU (T, nI (w + 1))) (fun r => r.1 = T.1 ∧ (∀ a, 0 < a → a < 10 → r.2 (14 + w) a = lN (own a + zsum (zps1 n par wt ans w a) n) ∧ r.2 (38 + w) a = lN (zsum (zps2 n par wt ans w a) n)) ∧ (∀ d, 0 < d → d < n → par d = w → r.2 10 d = lN (zst n par wt d)) ∧ ∀ j k, j ≠ 14 + w → j ≠ 38 + w → ¬ (j = 10 ∧ 0 < k ∧ k < n ∧ par k = w) → r.2 j k = T.2 j k) := by
  have hn := hV.2.1
  refine zok_for (fun c z => z.2 = nI c ∧ z.1.1 = T.1 ∧ (∀ a, 0 < a → a < 10 → z.1.2 (14 + w) a = lN (own a + zsum (zps1 n par wt ans w a) c) ∧ z.1.2 (38 + w) a = lN (zsum (zps2 n par wt ans w a) c)) ∧ (∀ d, 0 < d → d < c → par d = w → z.1.2 10 d = lN (zst n par wt d)) ∧ ∀ j k, j ≠ 14 + w → j ≠ 38 + w → ¬ (j = 10 ∧ 0 < k ∧ k < n ∧ par k = w) → z.1.2 j k = T.2 j k) (w + 1) n hw (by omega) ⟨rfl, rfl, fun a h1 h2 => ?_, fun d h1 h2 h3 => ?_, fun _ _ _ _ _ => rfl⟩ ?_ ?_
  · have z : ∀ d, d < w + 1 → ¬ (0 < d ∧ par d = w) := fun d hd q => by
      have := (hV.2.2.1 d q.1 (by omega)).1
      omega
    have z1 : zsum (zps1 n par wt ans w a) (w + 1) = 0 := zsum_zero (fun d hd => if_neg (z d hd))
    have z2 : zsum (zps2 n par wt ans w a) (w + 1) = 0 := zsum_zero (fun d hd => if_neg (z d hd))
    rw [z1, z2]
    exact h0 a h1 h2
  · have := (hV.2.2.1 d h1 (by omega)).1
    omega
  · rintro c ⟨A, i⟩ h1 h2 ⟨e0, e1, e2, e3, e4⟩
    try dsimp only at e0 e1 e2 e3 e4
    subst e0
    have hp := hV.2.2.1 c (by omega) h2
    obtain ⟨t1, t2, t3⟩ := hT.2 c h2
    obtain ⟨r9, rr⟩ := hr c (by omega) h2
    have f0 : A.1 0 13 = nI n := by rw [e1]; exact hT.1
    have f1 : A.1 1 c = nI (par c) := by rw [e1]; exact t1
    have f2 : A.1 2 c = nI (wt c) := by rw [e1]; exact t2
    have f9 : A.2 9 c = lN (zbl n par wt c) := (e4 9 c (by omega) (by omega) (by omega)).trans r9
    by_cases q : par c = w
    · have q2 : 0 < c ∧ par c = w := ⟨by omega, q⟩
      have hg := zgc_le hV (w := w)
      have hb := zbl_lt hV h2
      have hm := zml_le hV hw
      have hbw := zbl_lt hV hw
      have c1 := zx_parted (a := wt c) (b := zgc n par wt w) (by omega) (by omega)
      have c2 := zx_parted (a := zml n par wt w) (b := zbl n par wt c) (by omega) (by omega)
      have es : zst n par wt c = wt c / zgc n par wt w * (zml n par wt w / zbl n par wt c) := by
        unfold zst zwg
        rw [q]
      have hB := zx_addShares (T := zsj A 10 c (lN (zst n par wt c))) hn f0 (s := zst n par wt c) (w := w) (c := c) (by omega) h2 (x := zsc n par wt ans c) (y := zfr n par wt ans c) (X := fun a => own a + zsum (zps1 n par wt ans w a) c) (Y := fun a => zsum (zps2 n par wt ans w a) c) (by rw [zsj_y ⟨rfl, rfl⟩]) (fun a g1 g2 => by
          rw [zsj_ne (by omega), zsj_ne (by omega), e4 _ a (by omega) (by omega) (by omega), e4 _ a (by omega) (by omega) (by omega)]
          exact rr a g1 g2) (fun a g1 g2 => by
          rw [zsj_ne (by omega), zsj_ne (by omega)]
          exact e2 a g1 g2)
      obtain ⟨B, hB, b1, b2, b3⟩ := hB
      refine ⟨.inl (B, nI (c + 1)), ?_, _, rfl, rfl, b1.trans e1, fun a g1 g2 => ?_, fun d g1 g2 g3 => ?_, fun j k g1 g2 g3 => ?_⟩
      · simp (disch := first | assumption | omega) only [zlet, nI_leI, nI_ltI, nI_eq, nI_eq0, nI_clamp, nI_neg0, nI_add, nI_1, false_or, or_false, if_pos, if_neg, Int32.add_zero, Nat.add_zero, Option.bind_some, if_true, if_false, and_true, true_and, and_false, false_and, nI_10, nI_mul, zl2, zl3, zl4, zl5, zl6, zl8, zl9, zl20, zl24, zor0, zsi_g, zsj_g, zsi_2, zsj_1, xX10_lookBehind_L272_b210, f0, f1, f2, f9, nI_l, c1, c2, lN_mul]
        rw [← es, hB]
        rfl
      · obtain ⟨k1, k2⟩ := b2 a g1 g2
        rw [k1, k2]
        show lN (own a + zsum (zps1 n par wt ans w a) c + _) = lN (own a + (zsum (zps1 n par wt ans w a) c + zps1 n par wt ans w a c)) ∧ _ = lN (zsum (zps2 n par wt ans w a) c + zps2 n par wt ans w a c)
        rw [show zps1 n par wt ans w a c = zst n par wt c * zsc n par wt ans c a from if_pos q2, show zps2 n par wt ans w a c = zst n par wt c * (zfr n par wt ans c a + zsc n par wt ans c a) from if_pos q2, Nat.add_assoc]
        exact ⟨rfl, rfl⟩
      · rw [b3 10 d (by omega) (by omega)]
        by_cases g : d = c
        · subst g
          rw [zsj_y ⟨rfl, rfl⟩]
        · rw [zsj_ne (by omega)]
          exact e3 d g1 (by omega) g3
      · rw [b3 j k g1 g2, zsj_ne (by rintro ⟨z1, z2⟩; exact g3 ⟨z1, by omega, by omega, z2 ▸ q⟩)]
        exact e4 j k g1 g2 g3
    · have q2 : ¬ (0 < c ∧ par c = w) := fun z => q z.2
      refine ⟨.inl (A, nI (c + 1)), ?_, _, rfl, rfl, e1, fun a g1 g2 => ?_, fun d g1 g2 g3 => ?_, e4⟩
      · simp (disch := first | assumption | omega) only [zlet, nI_leI, nI_ltI, nI_eq, nI_eq0, nI_clamp, nI_neg0, nI_add, nI_1, false_or, or_false, if_pos, if_neg, Int32.add_zero, Nat.add_zero, Option.bind_some, if_true, if_false, and_true, true_and, and_false, false_and, nI_10, nI_mul, zl2, zl3, zl4, zl5, zl6, zl8, zl9, zl20, zl24, zor0, zsi_g, zsj_g, zsi_2, zsj_1, xX10_lookBehind_L272_b210, f0, f1]
      · obtain ⟨k1, k2⟩ := e2 a g1 g2
        show _ = lN (own a + (zsum (zps1 n par wt ans w a) c + zps1 n par wt ans w a c)) ∧ _ = lN (zsum (zps2 n par wt ans w a) c + zps2 n par wt ans w a c)
        rw [show zps1 n par wt ans w a c = 0 from if_neg q2, show zps2 n par wt ans w a c = 0 from if_neg q2, Nat.add_zero, Nat.add_zero]
        exact ⟨k1, k2⟩
      · by_cases g : d = c
        · exact absurd (g ▸ g3) q
        · exact e3 d g1 (by omega) g3
  · rintro ⟨A, i⟩ ⟨e0, e1, e2, e3, e4⟩
    try dsimp only at e0 e1 e2 e3 e4
    subst e0
    have f0 : A.1 0 13 = nI n := by rw [e1]; exact hT.1
    refine ⟨.inr A, ?_, A, rfl, e1, e2, e3, e4⟩
    by_cases hh : n = 24
    · subst hh
      simp (disch := first | assumption | omega) only [zlet, nI_leI, nI_ltI, nI_eq, nI_eq0, nI_clamp, nI_neg0, nI_add, nI_1, false_or, or_false, if_pos, if_neg, Int32.add_zero, Nat.add_zero, Option.bind_some, if_true, if_false, and_true, true_and, and_false, false_and, nI_10, nI_mul, zl2, zl3, zl4, zl5, zl6, zl8, zl9, zl20, zl24, zor0, zsi_g, zsj_g, zsi_2, zsj_1, xX10_lookBehind_L272_b210]
    · simp (disch := first | assumption | omega) only [zlet, nI_leI, nI_ltI, nI_eq, nI_eq0, nI_clamp, nI_neg0, nI_add, nI_1, false_or, or_false, if_pos, if_neg, Int32.add_zero, Nat.add_zero, Option.bind_some, if_true, if_false, and_true, true_and, and_false, false_and, nI_10, nI_mul, zl2, zl3, zl4, zl5, zl6, zl8, zl9, zl20, zl24, zor0, zsi_g, zsj_g, zsi_2, zsj_1, xX10_lookBehind_L272_b210, f0]
theorem zx_lB210 (hV : zVT n par wt ans) {T : zM} {w : Nat} (hw : w < n) (hT : zTC T n par wt ans) (h5 : T.1 5 w = nI (znx n par w)) (hr : ∀ c, w < c → c < n → T.2 9 c = lN (zbl n par wt c) ∧ ∀ a, 0 < a → a < 10 → T.2 (14 + c) a = lN (zsc n par wt ans c a) ∧ T.2 (38 + c) a = lN (zfr n par wt ans c a)) : zok (xX10_lookBehind_b210 T (nI w) (lN (zgc n par wt w)) (lN (zml n par wt w)) (nI w) (lN (zbl n par wt w))) (fun r => (r.2 9 w = lN (zbl n par wt w) ∧ (∀ a, 0 < a → a < 10 → r.2 (14 + w) a = lN (zsc n par wt ans w a) ∧ r.2 (38 + w) a = lN (zfr n par wt ans w a)) ∧ ∀ c, 0 < c → c < n → par c = w → r.2 10 c = lN (zst n par wt c)) ∧ r.1 0 14 = (if ans w = 0 then T.1 0 14 else T.1 0 14 + 1) ∧ r.1 0 15 = (if ans w = 0 ∧ znx n par w = 0 then 0 else T.1 0 15) ∧ (∀ j k, ¬ (j = 0 ∧ (k = 14 ∨ k = 15)) → r.1 j k = T.1 j k) ∧ ∀ j k, ¬ (j = 9 ∧ k = w) → j ≠ 14 + w → j ≠ 38 + w → ¬ (j = 10 ∧ 0 < k ∧ k < n ∧ par k = w) → r.2 j k = T.2 j k) := by
  have hn := hV.2.1
  have ha := zans_le hV hw
  obtain ⟨t1, t2, t3⟩ := hT.2 w hw
  have hl := znx_lt (n := n) (par := par) (w := w) hn
  unfold xX10_lookBehind_b210
  refine zok_g (by first | exact nI_in (by omega) (by decide) | exact zin_w (by omega) (by decide)) ?_
  rw [nI_clamp (by omega)]
  refine zok_let (zok_bind ?_)
  refine (zx_lB214 (T := zsj T 9 w (lN (zbl n par wt w))) (w := w) (an := ans w) (by omega) t3 ha).imp ?_
  rintro r1 ⟨a1, a2, a3⟩
  refine zok_let (zok_bind ?_)
  rw [nI_1]
  have hT1 : zTC r1 n par wt ans := by
    unfold zTC
    rw [a1]
    exact hT
  refine (zx_lB272 hV hw hT1 (own := fun a => if 0 < a ∧ a = ans w then 1 else 0) (fun c g1 g2 => ?_) (fun a g1 g2 => a2 a g2)).imp ?_
  · obtain ⟨k1, k2⟩ := hr c g1 g2
    refine ⟨?_, fun a g3 g4 => ?_⟩
    · rw [a3 9 c (by omega) (by omega), zsj_ne (by omega)]
      exact k1
    · rw [a3 _ a (by omega) (by omega), a3 _ a (by omega) (by omega), zsj_ne (by omega), zsj_ne (by omega)]
      exact k2 a g3 g4
  rintro r2 ⟨b1, b2, b3, b4⟩
  have hi : r2.1 = T.1 := b1.trans a1
  have p1 : r2.2 9 w = lN (zbl n par wt w) := by
    rw [b4 9 w (by omega) (by omega) (by omega), a3 9 w (by omega) (by omega), zsj_y ⟨rfl, rfl⟩]
  have p2 : ∀ a, 0 < a → a < 10 → r2.2 (14 + w) a = lN (zsc n par wt ans w a) ∧ r2.2 (38 + w) a = lN (zfr n par wt ans w a) := by
    intro a g1 g2
    rw [zsc_s hV hw, zfr_s hV hw]
    exact b2 a g1 g2
  have p4 : ∀ j k, ¬ (j = 9 ∧ k = w) → j ≠ 14 + w → j ≠ 38 + w → ¬ (j = 10 ∧ 0 < k ∧ k < n ∧ par k = w) → r2.2 j k = T.2 j k := by
    intro j k g1 g2 g3 g4
    rw [b4 j k g2 g3 g4, a3 j k g2 g3, zsj_g, if_neg g1]
  refine zok_g (by first | exact nI_in (by omega) (by decide) | exact zin_w (by omega) (by decide)) ?_
  rw [hi, t3, h5]
  by_cases q : ans w = 0
  · refine zok_y (by rw [q]; decide) ?_
    by_cases q2 : znx n par w = 0
    · refine zok_y (by rw [q2]; decide) ?_
      refine zok_let (zok_some ⟨⟨p1, p2, b3⟩, ?_, ?_, fun j k g => ?_, p4⟩)
      · rw [if_pos q, zsi_ne (by decide), hi]
      · rw [if_pos ⟨q, q2⟩, zsi_y ⟨rfl, rfl⟩]
      · rw [zsi_ne (by omega), hi]
    · refine zok_n (by rw [nI_eq0 (by omega)]; exact q2) ?_
      refine zok_some ⟨⟨p1, p2, b3⟩, ?_, ?_, fun j k _ => ?_, p4⟩
      · rw [if_pos q, hi]
      · rw [if_neg (fun z => q2 z.2), hi]
      · rw [hi]
  · refine zok_n (by rw [nI_le0 (by omega)]; exact q) ?_
    refine zok_let (zok_some ⟨⟨p1, p2, b3⟩, ?_, ?_, fun j k g => ?_, p4⟩)
    · rw [if_neg q, zsi_y ⟨rfl, rfl⟩]
    · rw [if_neg (fun z => q z.1), zsi_ne (by decide), hi]
    · rw [zsi_ne (by omega), hi]
theorem zbl_none (hV : zVT n par wt ans) {w : Nat} (hw : w < n) (h : znx n par w = 0) : zbl n par wt w = 1 := by
  rw [zbl_s hV hw]
  unfold zfc zml
  rw [if_pos h, zlcs_one]
  intro c hc
  exact if_neg (fun q => znx_pos q.1 hc q.2 h)
theorem zx_lookBehind (hV : zVT n par wt ans) {T : zM} {w : Nat} (hw : w < n) (hT : zTC T n par wt ans) (hr : ∀ c, w < c → c < n → zTr T n par wt ans c) : zok (xX10_lookBehind T (nI w)) (fun r => zTr r n par wt ans w ∧ r.1 0 14 = (if ans w = 0 then T.1 0 14 else T.1 0 14 + 1) ∧ r.1 0 15 = (if ans w = 0 ∧ znx n par w = 0 then 0 else T.1 0 15) ∧ (∀ j k, ¬ ((j = 5 ∨ j = 6 ∨ j = 7) ∧ k = w) → ¬ (j = 0 ∧ (k = 14 ∨ k = 15)) → r.1 j k = T.1 j k) ∧ ∀ j k, ¬ (j = 9 ∧ k = w) → j ≠ 14 + w → j ≠ 38 + w → ¬ (j = 10 ∧ 0 < k ∧ k < n ∧ par k = w) → r.2 j k = T.2 j k) := by
  have hn := hV.2.1
  have ha := zans_le hV hw
  obtain ⟨t1, t2, t3⟩ := hT.2 w hw
  have hl := znx_lt (n := n) (par := par) (w := w) hn
  have hs := zsw_le hV (w := w)
  have hg := zgc_le hV (w := w)
  have hbl := zbl_lt hV hw
  have hml := zml_le hV hw
  have key : ∀ own : Nat, own = (if ans w = 0 then 0 else 2 ^ ans w) → zok (xX10_lookBehind_b54 (zsi (zsi T 5 w 0) 6 w 0) (nI w) (0 : Int64) (1 : Int64) (nI w) (nI own)) (fun r => zTr r n par wt ans w ∧ r.1 0 14 = (if ans w = 0 then T.1 0 14 else T.1 0 14 + 1) ∧ r.1 0 15 = (if ans w = 0 ∧ znx n par w = 0 then 0 else T.1 0 15) ∧ (∀ j k, ¬ ((j = 5 ∨ j = 6 ∨ j = 7) ∧ k = w) → ¬ (j = 0 ∧ (k = 14 ∨ k = 15)) → r.1 j k = T.1 j k) ∧ ∀ j k, ¬ (j = 9 ∧ k = w) → j ≠ 14 + w → j ≠ 38 + w → ¬ (j = 10 ∧ 0 < k ∧ k < n ∧ par k = w) → r.2 j k = T.2 j k) := by
    intro own ho
    have ho2 : own < 2 ^ 10 := by rw [ho]; exact zown_lt hV hw
    unfold xX10_lookBehind_b54
    refine zok_g (by first | exact nI_in (by omega) (by decide) | exact zin_w (by omega) (by decide)) ?_
    rw [nI_clamp (by omega)]
    refine zok_let (zok_let (zok_bind ?_))
    rw [nI_1]
    have frT : ∀ j k, ¬ ((j = 5 ∨ j = 6 ∨ j = 7) ∧ k = w) → (zsi (zsi (zsi T 5 w 0) 6 w 0) 7 w (nI own)).1 j k = T.1 j k := by
      intro j k g
      rw [zsi_ne (by omega), zsi_ne (by omega), zsi_ne (by omega)]
    have hT1 : zTC (zsi (zsi (zsi T 5 w 0) 6 w 0) 7 w (nI own)) n par wt ans := by
      refine ⟨(frT 0 13 (by omega)).trans hT.1, fun i hi => ?_⟩
      rw [frT 1 i (by omega), frT 2 i (by omega), frT 3 i (by omega)]
      exact hT.2 i hi
    refine (zx_lB60 hV (T := zsi (zsi (zsi T 5 w 0) 6 w 0) 7 w (nI own)) hw hT1 (own := own) ?_ ?_ ho2 ?_ ?_).imp ?_
    · rw [zsi_ne (by omega), zsi_ne (by omega), zsi_y ⟨rfl, rfl⟩]
      rfl
    · rw [zsi_ne (by omega), zsi_y ⟨rfl, rfl⟩]
      rfl
    · rw [zsi_y ⟨rfl, rfl⟩]
    · intro c g1 g2
      obtain ⟨k1, k2, k3, k4, k5, k6⟩ := hr c g1 g2
      refine ⟨?_, ?_, ?_, k4, k5, k6⟩
      · rw [frT 5 c (by omega)]; exact k1
      · rw [frT 6 c (by omega)]; exact k2
      · rw [frT 7 c (by omega)]; exact k3
    rintro ⟨A, g, m⟩ ⟨b1, b2, b3, b4, b5, b6, b7⟩
    try dsimp only at b1 b2 b3 b4 b5 b6 b7 ⊢
    subst b1 b2
    have e3 : own ||| zop (· ||| ·) 0 (zbn n par ans w) n = zbh n par ans w := by rw [zbh_s hV hw, ho]
    rw [e3] at b5
    have frA : ∀ j k, ¬ ((j = 5 ∨ j = 6 ∨ j = 7) ∧ k = w) → A.1 j k = T.1 j k := fun j k g => (b7 j k g).trans (frT j k g)
    have hTA : zTC A n par wt ans := by
      refine ⟨(frA 0 13 (by omega)).trans hT.1, fun i hi => ?_⟩
      rw [frA 1 i (by omega), frA 2 i (by omega), frA 3 i (by omega)]
      exact hT.2 i hi
    have fin := zx_lB210 hV hw hTA b3 (fun c g1 g2 => by
      obtain ⟨k1, k2, k3, k4, k5, k6⟩ := hr c g1 g2
      rw [b6]
      exact ⟨k4, k5⟩)
    refine zok_g (by first | exact nI_in (by omega) (by decide) | exact zin_w (by omega) (by decide)) ?_
    rw [b3, b4]
    have fin2 : zok (xX10_lookBehind_b210 A (nI w) (lN (zgc n par wt w)) (lN (zml n par wt w)) (nI w) (lN (zbl n par wt w))) (fun r => zTr r n par wt ans w ∧ r.1 0 14 = (if ans w = 0 then T.1 0 14 else T.1 0 14 + 1) ∧ r.1 0 15 = (if ans w = 0 ∧ znx n par w = 0 then 0 else T.1 0 15) ∧ (∀ j k, ¬ ((j = 5 ∨ j = 6 ∨ j = 7) ∧ k = w) → ¬ (j = 0 ∧ (k = 14 ∨ k = 15)) → r.1 j k = T.1 j k) ∧ ∀ j k, ¬ (j = 9 ∧ k = w) → j ≠ 14 + w → j ≠ 38 + w → ¬ (j = 10 ∧ 0 < k ∧ k < n ∧ par k = w) → r.2 j k = T.2 j k) := by
      refine fin.imp ?_
      rintro r ⟨⟨c1, c2, c3⟩, c4, c5, c6, c7⟩
      refine ⟨⟨?_, ?_, ?_, c1, c2, c3⟩, ?_, ?_, fun j k g1 g2 => ?_, fun j k g1 g2 g3 g4 => ?_⟩
      · rw [c6 5 w (by omega)]; exact b3
      · rw [c6 6 w (by omega)]; exact b4
      · rw [c6 7 w (by omega)]; exact b5
      · rw [c4, frA 0 14 (by omega)]
      · rw [c5, frA 0 15 (by omega)]
      · rw [c6 j k g2, frA j k g1]
      · rw [c7 j k g1 g2 g3 g4, b6]
        rfl
    by_cases q : znx n par w = 0
    · refine zok_y (by rw [q]; decide) ?_
      rw [zbl_none hV hw q] at fin2
      exact fin2
    · refine zok_n (by rw [nI_eq0 (by omega)]; exact q) ?_
      rw [nI_l (by omega), zx_parted (by omega) (by omega)]
      refine zok_bind (zok_some ?_)
      have e4 : zbl n par wt w = zsw n par wt w / zgc n par wt w * zml n par wt w := by
        rw [zbl_s hV hw]
        unfold zfc
        rw [if_neg q]
      rw [e4] at fin2
      rw [lN_mul]
      exact fin2
  unfold xX10_lookBehind
  rw [zx_has hn hT.1 hw]
  refine zok_bind (zok_some ?_)
  rw [if_neg (by decide)]
  refine zok_g (by first | exact nI_in (by omega) (by decide) | exact zin_w (by omega) (by decide)) ?_
  rw [nI_clamp (by omega)]
  refine zok_let (zok_let ?_)
  have e3 : (zsi (zsi T 5 w 0) 6 w 0).1 3 w = nI (ans w) := by
    rw [zsi_ne (by omega), zsi_ne (by omega)]
    exact t3
  rw [e3]
  by_cases q : ans w = 0
  · refine zok_y (by rw [q]; decide) ?_
    exact key 0 (by rw [if_pos q])
  · refine zok_n (by rw [nI_le0 (by omega)]; exact q) ?_
    rw [zshl (ans w) (by omega)]
    exact key _ (by rw [if_neg q])
end
