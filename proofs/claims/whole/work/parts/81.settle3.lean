/-! the class's tree, reckoned -/
section
variable {n : Nat} {par wt ans : Nat → Nat}
/-- the way to a word, as bits -/
def zwy (par : Nat → Nat) (w : Nat) : Nat := zfd par (fun x c => x ||| 2 ^ c) 0 w w
theorem zwy_s (hV : zVT n par wt ans) {w : Nat} (h0 : 0 < w) (hw : w < n) : zwy par w = zwy par (par w) ||| 2 ^ w := zfd_s (fun i a b => (hV.2.2.1 i a b).1) h0 hw
theorem zwy_lt (hV : zVT n par wt ans) : ∀ (k w : Nat), w ≤ k → w < n → zwy par w < 2 ^ 24
  | 0, w, h1, _ => by
    obtain rfl : w = 0 := by omega
    exact Nat.two_pow_pos 24
  | k + 1, w, h1, h2 => by
    rcases Nat.eq_zero_or_pos w with rfl | g
    · exact Nat.two_pow_pos 24
    · have hp := (hV.2.2.1 w g h2).1
      have hn := hV.2.1
      rw [zwy_s hV g h2]
      exact Nat.or_lt_two_pow (zwy_lt hV k (par w) (by omega) (by omega)) (Nat.pow_lt_pow_right (by decide) (by omega))
theorem zwy_test (hV : zVT n par wt ans) {u : Nat} : ∀ (k e : Nat), e ≤ k → e < n → (zwy par e).testBit u = (decide (0 < u) && zbe par e u)
  | 0, e, h1, _ => by
    obtain rfl : e = 0 := by omega
    rw [zbe_0]
    show Nat.testBit 0 u = _
    rw [Nat.zero_testBit]
    cases u <;> rfl
  | k + 1, e, h1, h2 => by
    rcases Nat.eq_zero_or_pos e with rfl | g
    · exact zwy_test hV k 0 (by omega) h2
    · have hp := (hV.2.2.1 e g h2).1
      rw [zwy_s hV g h2, Nat.testBit_or, zwy_test hV k (par e) (by omega) (by omega), Nat.testBit_two_pow, zbe_s hV g h2]
      by_cases q : e = u
      · subst q
        simp [g]
      · have q2 : (e == u) = false := beq_eq_false_iff_ne.mpr q
        simp [q, q2]
theorem zsum_one {x e n : Nat} : zsum (fun i => if i = e then x else 0) n = if e < n then x else 0 := by
  rw [zsum_op]
  exact zop_one Nat.add_comm Nat.add_zero
/-- how many ends -/
def zne (n : Nat) (ans : Nat → Nat) : Nat := zsum (fun v => if ans v = 0 then 0 else 1) n
def zRo (T : zM) : Prop := T.1 4 0 = nI 0 ∧ T.1 8 0 = nI 0 ∧ T.2 11 0 = lN 1
def zLa (T : zM) (n : Nat) (par wt : Nat → Nat) (w : Nat) : Prop := T.1 4 w = nI (zwlen par w) ∧ T.1 8 w = nI (zwy par w) ∧ T.2 11 w = lN (ztm n par wt w)
/-- the class's tree is reckoned -/
def zCS (T : zM) (n : Nat) (par wt ans : Nat → Nat) : Prop := zTC T n par wt ans ∧ (∀ w, w < n → zTr T n par wt ans w) ∧ (∀ w, w < n → zLa T n par wt w) ∧ T.1 0 14 = nI (zne n ans) ∧ ((T.1 0 15 = 1 ∧ zWh n par ans) ∨ (T.1 0 15 = 0 ∧ ¬ zWh n par ans))
theorem zx_lookAhead (hV : zVT n par wt ans) {T : zM} {w : Nat} (h0 : 0 < w) (hw : w < n) (hT : zTC T n par wt ans) (hp : zLa T n par wt (par w)) (h10 : T.2 10 w = lN (zst n par wt w)) : xX10_lookAhead T (nI w) = some (zsj (zsi (zsi T 4 w (nI (zwlen par w))) 8 w (nI (zwy par w))) 11 w (lN (ztm n par wt w))) := by
  have hn := hV.2.1
  have hlt := (hV.2.2.1 w h0 hw).1
  obtain ⟨t1, t2, t3⟩ := hT.2 w hw
  obtain ⟨p1, p2, p3⟩ := hp
  have hb := zwy_lt hV (par w) (par w) (Nat.le_refl _) (by omega)
  rw [zlen_s hV h0 hw, zwy_s hV h0 hw, ztm_s hV h0 hw]
  have g1 := zx_has hn hT.1 hw
  have g2 := zx_has hn hT.1 (w := par w) (by omega)
  have h1 : ¬ (1 : Int32) = 0 := by decide
  simp (disch := first | assumption | omega) only [zlet, nI_leI, nI_ltI, nI_eq, nI_eq0, nI_clamp, nI_neg0, nI_add, nI_1, false_or, or_false, if_pos, if_neg, Int32.add_zero, Nat.add_zero, Option.bind_some, if_true, if_false, and_true, true_and, and_false, false_and, nI_10, nI_mul, zl2, zl3, zl4, zl5, zl6, zl8, zl9, zl20, zl24, zor0, zsi_g, zsj_g, zsi_2, zsj_1, xX10_lookAhead, g1, g2, t1, p1, p2, p3, h10, zshl, zor, lN_mul, h1, if_false]
theorem zx_settle (hV : zVT n par wt ans) {T : zM} (hT : zTC T n par wt ans) (hR : zRo T) : zok (xX10_settle T) (fun r => zCS r n par wt ans) := by
  have hn := hV.2.1
  have hn1 := hV.1
  unfold xX10_settle
  refine zok_let (zok_let (zok_bind ?_))
  refine (zok_ford (fun k (z : zM × Int32) => z.2 = zdn k ∧ zTC z.1 n par wt ans ∧ zRo z.1 ∧ (∀ v, k ≤ v → v < n → zTr z.1 n par wt ans v) ∧ z.1.1 0 14 = nI (zsum (fun v => if k ≤ v then (if ans v = 0 then 0 else 1) else 0) n) ∧ ((z.1.1 0 15 = 1 ∧ ∀ v, k ≤ v → v < n → ans v = 0 → znx n par v ≠ 0) ∨ (z.1.1 0 15 = 0 ∧ ¬ ∀ v, k ≤ v → v < n → ans v = 0 → znx n par v ≠ 0))) 24 (by decide) ⟨rfl, ?_, ?_, fun v h1 h2 => absurd h2 (by omega), ?_, Or.inl ⟨?_, fun v h1 h2 => absurd h2 (by omega)⟩⟩ ?_ ?_ (P := fun r => zTC r n par wt ans ∧ zRo r ∧ (∀ v, v < n → zTr r n par wt ans v) ∧ r.1 0 14 = nI (zne n ans) ∧ ((r.1 0 15 = 1 ∧ zWh n par ans) ∨ (r.1 0 15 = 0 ∧ ¬ zWh n par ans)))).imp ?_
  · refine ⟨?_, fun i hi => ?_⟩
    · rw [zsi_ne (by decide), zsi_ne (by decide)]
      exact hT.1
    · rw [zsi_ne (by omega), zsi_ne (by omega), zsi_ne (by omega), zsi_ne (by omega), zsi_ne (by omega), zsi_ne (by omega)]
      exact hT.2 i hi
  · refine ⟨?_, ?_, hR.2.2⟩
    · rw [zsi_ne (by decide), zsi_ne (by decide)]
      exact hR.1
    · rw [zsi_ne (by decide), zsi_ne (by decide)]
      exact hR.2.1
  · rw [zsi_ne (by decide), zsi_y (by decide), zsum_zero]
    · rfl
    · intro i hi
      exact if_neg (by omega)
  · rw [zsi_y (by decide)]
  · rintro k ⟨A, i⟩ hk ⟨e0, e1, e2, e3, e4, e5⟩
    try dsimp only at e0 e1 e2 e3 e4 e5
    rw [zdn_s] at e0
    subst e0
    rcases Nat.lt_or_ge k n with hkn | hkn
    · obtain ⟨B, hB, b1, b2, b3, b4, b5⟩ := zx_lookBehind hV hkn e1 (fun c g1 g2 => e3 c (by omega) g2)
      have es : zsum (fun v => if k ≤ v then (if ans v = 0 then 0 else 1) else 0) n = zsum (fun v => if k + 1 ≤ v then (if ans v = 0 then 0 else 1) else 0) n + (if ans k = 0 then 0 else 1) := by
        have e : (if ans k = 0 then 0 else 1) = zsum (fun v => if v = k then (if ans k = 0 then 0 else 1) else 0) n := by
          rw [zsum_one, if_pos hkn]
        rw [e, ← zsum_add]
        refine zsum_congr (fun v _ => ?_)
        try dsimp only
        by_cases g : v = k
        · subst g
          rw [if_pos (Nat.le_refl v), if_neg (show ¬ v + 1 ≤ v by omega), if_pos rfl, Nat.zero_add]
        · rw [if_neg g, Nat.add_zero]
          have : (k ≤ v) = (k + 1 ≤ v) := propext (by omega)
          simp only [this]
      refine ⟨.inl (B, zdn k), ?_, _, rfl, rfl, ⟨?_, fun j hj => ?_⟩, ⟨?_, ?_, ?_⟩, fun v g1 g2 => ?_, ?_, ?_⟩
      · simp (disch := first | assumption | omega) only [zlet, nI_leI, nI_ltI, nI_eq, nI_eq0, nI_clamp, nI_neg0, nI_add, nI_1, false_or, or_false, if_pos, if_neg, Int32.add_zero, Nat.add_zero, Option.bind_some, if_true, if_false, and_true, true_and, and_false, false_and, nI_10, nI_mul, zl2, zl3, zl4, zl5, zl6, zl8, zl9, zl20, zl24, zor0, zsi_g, zsj_g, zsi_2, zsj_1, xX10_settle_L13, e1.1, hB]
        rw [zdn_p (by omega)]
      · rw [b4 0 13 (by omega) (by omega)]
        exact e1.1
      · rw [b4 1 j (by omega) (by omega), b4 2 j (by omega) (by omega), b4 3 j (by omega) (by omega)]
        exact e1.2 j hj
      · rw [b4 4 0 (by omega) (by omega)]
        exact e2.1
      · rw [b4 8 0 (by omega) (by omega)]
        exact e2.2.1
      · rw [b5 11 0 (by omega) (by omega) (by omega) (by omega)]
        exact e2.2.2
      · by_cases g : v = k
        · rw [g]
          exact b1
        · obtain ⟨k1, k2, k3, k4, k5, k6⟩ := e3 v (by omega) g2
          refine ⟨?_, ?_, ?_, ?_, fun a a1 a2 => ?_, fun c c1 c2 c3 => ?_⟩
          · rw [b4 5 v (by omega) (by omega)]; exact k1
          · rw [b4 6 v (by omega) (by omega)]; exact k2
          · rw [b4 7 v (by omega) (by omega)]; exact k3
          · rw [b5 9 v (by omega) (by omega) (by omega) (by omega)]; exact k4
          · rw [b5 _ a (by omega) (by omega) (by omega) (by omega), b5 _ a (by omega) (by omega) (by omega) (by omega)]
            exact k5 a a1 a2
          · rw [b5 10 c (by omega) (by omega) (by omega) (by omega)]
            exact k6 c c1 c2 c3
      · rw [b2, es, e4]
        by_cases g : ans k = 0
        · simp only [if_pos g, Nat.add_zero]
        · rw [if_neg g, if_neg g, nI_1]
      · rw [b3]
        by_cases g : ans k = 0 ∧ znx n par k = 0
        · rw [if_pos g]
          exact Or.inr ⟨rfl, fun z => z k (Nat.le_refl _) hkn g.1 g.2⟩
        · rw [if_neg g]
          rcases e5 with ⟨q1, q2⟩ | ⟨q1, q2⟩
          · refine Or.inl ⟨q1, fun v g1 g2 g3 => ?_⟩
            by_cases gg : v = k
            · rw [gg] at g3 ⊢
              exact fun z => g ⟨g3, z⟩
            · exact q2 v (by omega) g2 g3
          · exact Or.inr ⟨q1, fun z => q2 (fun v g1 g2 => z v (by omega) g2)⟩
    · refine ⟨.inl (A, zdn k), ?_, _, rfl, rfl, e1, e2, fun v g1 g2 => absurd g2 (by omega), ?_, ?_⟩
      · simp (disch := first | assumption | omega) only [zlet, nI_leI, nI_ltI, nI_eq, nI_eq0, nI_clamp, nI_neg0, nI_add, nI_1, false_or, or_false, if_pos, if_neg, Int32.add_zero, Nat.add_zero, Option.bind_some, if_true, if_false, and_true, true_and, and_false, false_and, nI_10, nI_mul, zl2, zl3, zl4, zl5, zl6, zl8, zl9, zl20, zl24, zor0, zsi_g, zsj_g, zsi_2, zsj_1, xX10_settle_L13, e1.1]
        rw [zdn_p (by omega)]
      · rw [e4]
        congr 1
        refine zsum_congr (fun v hv => ?_)
        try dsimp only
        rw [if_neg (by omega), if_neg (by omega)]
      · rcases e5 with ⟨q1, q2⟩ | ⟨q1, q2⟩
        · exact Or.inl ⟨q1, fun v g1 g2 => absurd g2 (by omega)⟩
        · exact absurd (fun v g1 g2 => absurd g2 (by omega)) q2
  · rintro ⟨A, i⟩ ⟨e0, e1, e2, e3, e4, e5⟩
    try dsimp only at e0 e1 e2 e3 e4 e5
    subst e0
    refine ⟨.inr A, ?_, A, rfl, e1, e2, fun v hv => e3 v (Nat.zero_le _) hv, ?_, ?_⟩
    · unfold xX10_settle_L13
      rw [if_pos (by rw [zdn_0]; trivial)]
    · rw [e4]
      refine congrArg nI (zsum_congr (fun v _ => ?_))
      try dsimp only
      rw [if_pos (Nat.zero_le _)]
    · rcases e5 with ⟨q1, q2⟩ | ⟨q1, q2⟩
      · exact Or.inl ⟨q1, fun v hv => q2 v (Nat.zero_le _) hv⟩
      · exact Or.inr ⟨q1, fun z => q2 (fun v _ hv => z v hv)⟩
  rintro R ⟨d1, d2, d3, d4, d5⟩
  refine zok_bind ?_
  refine zok_for (fun c (z : zM × Int32) => z.2 = nI c ∧ zTC z.1 n par wt ans ∧ (∀ v, v < n → zTr z.1 n par wt ans v) ∧ (∀ v, v < c → zLa z.1 n par wt v) ∧ z.1.1 0 14 = nI (zne n ans) ∧ ((z.1.1 0 15 = 1 ∧ zWh n par ans) ∨ (z.1.1 0 15 = 0 ∧ ¬ zWh n par ans))) 1 n hn1 (by omega) ⟨rfl, d1, d3, fun v hv => ?_, d4, d5⟩ ?_ ?_
  · obtain rfl : v = 0 := by omega
    exact d2
  · rintro c ⟨A, i⟩ h1 h2 ⟨e0, e1, e2, e3, e4, e5⟩
    try dsimp only at e0 e1 e2 e3 e4 e5
    subst e0
    have hlt := (hV.2.2.1 c h1 h2).1
    have hB := zx_lookAhead hV h1 h2 e1 (e3 (par c) hlt) ((e2 (par c) (by omega)).2.2.2.2.2 c h1 h2 rfl)
    have fi : ∀ j k, ¬ ((j = 4 ∨ j = 8) ∧ k = c) → (zsj (zsi (zsi A 4 c (nI (zwlen par c))) 8 c (nI (zwy par c))) 11 c (lN (ztm n par wt c))).1 j k = A.1 j k := by
      intro j k g
      rw [zsj_1, zsi_ne (by omega), zsi_ne (by omega)]
    have fj : ∀ j k, ¬ (j = 11 ∧ k = c) → (zsj (zsi (zsi A 4 c (nI (zwlen par c))) 8 c (nI (zwy par c))) 11 c (lN (ztm n par wt c))).2 j k = A.2 j k := by
      intro j k g
      rw [zsj_g, if_neg g]
      rfl
    refine ⟨.inl (zsj (zsi (zsi A 4 c (nI (zwlen par c))) 8 c (nI (zwy par c))) 11 c (lN (ztm n par wt c)), nI (c + 1)), ?_, _, rfl, rfl, ⟨?_, fun j hj => ?_⟩, fun v hv => ?_, fun v hv => ?_, ?_, ?_⟩
    · simp (disch := first | assumption | omega) only [zlet, nI_leI, nI_ltI, nI_eq, nI_eq0, nI_clamp, nI_neg0, nI_add, nI_1, false_or, or_false, if_pos, if_neg, Int32.add_zero, Nat.add_zero, Option.bind_some, if_true, if_false, and_true, true_and, and_false, false_and, nI_10, nI_mul, zl2, zl3, zl4, zl5, zl6, zl8, zl9, zl20, zl24, zor0, zsi_g, zsj_g, zsi_2, zsj_1, xX10_settle_L38, e1.1, hB]
    · rw [fi 0 13 (by omega)]; exact e1.1
    · rw [fi 1 j (by omega), fi 2 j (by omega), fi 3 j (by omega)]
      exact e1.2 j hj
    · obtain ⟨k1, k2, k3, k4, k5, k6⟩ := e2 v hv
      refine ⟨?_, ?_, ?_, ?_, fun a a1 a2 => ?_, fun d c1 c2 c3 => ?_⟩
      · rw [fi 5 v (by omega)]; exact k1
      · rw [fi 6 v (by omega)]; exact k2
      · rw [fi 7 v (by omega)]; exact k3
      · rw [fj 9 v (by omega)]; exact k4
      · rw [fj _ a (by omega), fj _ a (by omega)]
        exact k5 a a1 a2
      · rw [fj 10 d (by omega)]
        exact k6 d c1 c2 c3
    · by_cases g : v = c
      · subst g
        refine ⟨?_, ?_, ?_⟩
        · rw [zsj_1, zsi_ne (by omega), zsi_y ⟨rfl, rfl⟩]
        · rw [zsj_1, zsi_y ⟨rfl, rfl⟩]
        · rw [zsj_y ⟨rfl, rfl⟩]
      · obtain ⟨k1, k2, k3⟩ := e3 v (by omega)
        refine ⟨?_, ?_, ?_⟩
        · rw [fi 4 v (by omega)]; exact k1
        · rw [fi 8 v (by omega)]; exact k2
        · rw [fj 11 v (by omega)]; exact k3
    · rw [fi 0 14 (by omega)]; exact e4
    · rw [fi 0 15 (by omega)]; exact e5
  · rintro ⟨A, i⟩ ⟨e0, e1, e2, e3, e4, e5⟩
    try dsimp only at e0 e1 e2 e3 e4 e5
    subst e0
    refine ⟨.inr A, ?_, A, rfl, zok_some ⟨e1, e2, e3, e4, e5⟩⟩
    by_cases hh : n = 24
    · subst hh
      simp (disch := first | assumption | omega) only [zlet, nI_leI, nI_ltI, nI_eq, nI_eq0, nI_clamp, nI_neg0, nI_add, nI_1, false_or, or_false, if_pos, if_neg, Int32.add_zero, Nat.add_zero, Option.bind_some, if_true, if_false, and_true, true_and, and_false, false_and, nI_10, nI_mul, zl2, zl3, zl4, zl5, zl6, zl8, zl9, zl20, zl24, zor0, zsi_g, zsj_g, zsi_2, zsj_1, xX10_settle_L38]
    · simp (disch := first | assumption | omega) only [zlet, nI_leI, nI_ltI, nI_eq, nI_eq0, nI_clamp, nI_neg0, nI_add, nI_1, false_or, or_false, if_pos, if_neg, Int32.add_zero, Nat.add_zero, Option.bind_some, if_true, if_false, and_true, true_and, and_false, false_and, nI_10, nI_mul, zl2, zl3, zl4, zl5, zl6, zl8, zl9, zl20, zl24, zor0, zsi_g, zsj_g, zsi_2, zsj_1, xX10_settle_L38, e1.1]
end
