/-! a whole run, by the class -/
section
variable {n : Nat} {par wt ans : Nat → Nat} {np : Nat} {ad hd kn cm sr pt : Nat → Nat} {e w : Nat} {S : zRst} {T : zM} {P : zP}
theorem zx_wayTo (hn : n ≤ 24) (hT : zCS T n par wt ans) (hw : w < n) : xX10_wayTo T (nI w) = some (nI (zwy par w)) := by
  have h1 := zx_has hn hT.1.1 hw
  have h10 : ¬ (1 : Int32) = 0 := by decide
  have h3 := (hT.2.2.1 w hw).2.1
  simp (disch := first | assumption | omega) only [zlet, nI_leI, nI_ltI, nI_eq, nI_eq0, nI_clamp, nI_neg0, nI_add, nI_1, false_or, or_false, if_pos, if_neg, Int32.add_zero, Nat.add_zero, Option.bind_some, if_true, if_false, and_true, true_and, and_false, false_and, nI_10, nI_mul, zl2, zl3, zl4, zl5, zl6, zl8, zl9, zl20, zl24, zor0, zsi_g, zsj_g, zsi_2, zsj_1, xX10_wayTo, h1, h10, h3]
/-- the turns at one word -/
theorem zx_turns (hV : zVT n par wt ans) (hW : zWh n par ans) (hQ : zVQ pt) (hB : zBE np hd cm sr (zgu2 n par wt ans kn)) {R : zM} (hE : zCE T R P n par wt ans np ad hd kn cm sr pt) (hw : w < n) (he : e < n) (hwe : zwlen par w ≤ zwlen par e) (hS : zWS S) (hR : zRC R np S) {v3 : Int32} {m : Nat} (hm : m ≤ 4) : zok ((x_it (fun a9 => xX6_runTo_L130_L88 T P (nI e) v3 (nI w) (nI m) a9.1 a9.2) zFU (R, (0 : Int32))).bind (fun q8 => Sum.elim (fun b9 => some b9) (fun c10 => some c10) q8)) (fun r => zRC r np (zitn (zan np hd cm sr pt (zwlen par) ans (zgu2 n par wt ans kn) e w) m S) ∧ zfrR R r) := by
  have hn := hV.2.1
  have hnp := hB.1
  have hle := zlen_le hV e e (Nat.le_refl _) he
  refine zok_bind ?_
  refine zok_forx (fun t (z : zM × Int32) => z.2 = nI t ∧ zRC z.1 np (zitn (zan np hd cm sr pt (zwlen par) ans (zgu2 n par wt ans kn) e w) t S) ∧ zfrR R z.1) 0 m (Nat.zero_le _) (by omega) ⟨rfl, hR, zfrR_r⟩ ?_ ?_
  · rintro t ⟨A, i⟩ h1 h2 ⟨e0, e1, e2⟩
    try dsimp only at e0 e1 e2
    subst e0
    have hWS := zWS_it (np := np) (hd := hd) (cm := cm) (sr := sr) (ans := ans) (gu := zgu2 n par wt ans kn) hQ hnp (show zwlen par e ≤ 24 by omega) hwe (show w < 24 by omega) hS t
    have still : (zitn (zan np hd cm sr pt (zwlen par) ans (zgu2 n par wt ans kn) e w) t S).2.2.2.2.1 = true ∨ zwho np hd cm sr (zitn (zan np hd cm sr pt (zwlen par) ans (zgu2 n par wt ans kn) e w) t S) w = none → zitn (zan np hd cm sr pt (zwlen par) ans (zgu2 n par wt ans kn) e w) m S = zitn (zan np hd cm sr pt (zwlen par) ans (zgu2 n par wt ans kn) e w) t S := by
      intro h
      have := zit_still h (m - t)
      rw [show t + (m - t) = m by omega] at this
      exact this
    have hgo : ¬ nI m ≤ nI t := by rw [nI_leI (by omega) (by omega)]; omega
    by_cases ov : (zitn (zan np hd cm sr pt (zwlen par) ans (zgu2 n par wt ans kn) e w) t S).2.2.2.2.1 = true
    · have h12 := e1.2.2.2.2.1
      rw [if_pos ov] at h12
      refine ⟨.inr (.inr A), ?_, Or.inr ⟨_, rfl, zok_some ⟨by rw [still (Or.inl ov)]; exact e1, e2⟩⟩⟩
      simp only [xX6_runTo_L130_L88]
      rw [if_neg hgo, h12, if_neg (by decide)]
    · have h12 := e1.2.2.2.2.1
      rw [if_neg ov] at h12
      have hq := zx_quickest hB (zCE_f hE e2) (w := w) (by omega) hWS e1.2.2.2.1
      cases hp : zwho np hd cm sr (zitn (zan np hd cm sr pt (zwlen par) ans (zgu2 n par wt ans kn) e w) t S) w with
      | none =>
        rw [hp] at hq
        refine ⟨.inr (.inl A), ?_, Or.inr ⟨_, rfl, zok_some ⟨by rw [still (Or.inr hp)]; exact e1, e2⟩⟩⟩
        simp only [xX6_runTo_L130_L88]
        rw [if_neg hgo, h12, if_pos rfl, hq, Option.bind_some, if_pos (show zo (-9) none = (-9 : Int32) from rfl)]
      | some p =>
        rw [hp] at hq
        have hp4 := (zwho_lt hp).1
        obtain ⟨A', hA', r1, r2⟩ := zx_answerBy hV hW hQ hB (zCE_f hE e2) hw he hWS e1 (by simpa using ov) hp
        have es : zitn (zan np hd cm sr pt (zwlen par) ans (zgu2 n par wt ans kn) e w) (t + 1) S = zaw pt (zwlen par) ans (zgu2 n par wt ans kn) e w (zitn (zan np hd cm sr pt (zwlen par) ans (zgu2 n par wt ans kn) e w) t S) p := by
          exact zan_some (by simpa using ov) hp
        rw [← es] at r1
        have hne : ¬ zo (-9) (some p) = (-9 : Int32) := by
          intro z
          have z2 : nI p = (-9 : Int32) := z
          have : (nI p).toInt = (-9 : Int32).toInt := by rw [z2]
          rw [nI_toInt (by omega)] at this
          have h9' : (-9 : Int32).toInt = -9 := by decide
          omega
        refine ⟨.inl (A', nI (t + 1)), ?_, Or.inl ⟨_, rfl, rfl, r1, zfrR_t e2 r2⟩⟩
        simp only [xX6_runTo_L130_L88]
        rw [if_neg hgo, h12, if_pos rfl, hq, Option.bind_some, if_neg hne, show zo (-9) (some p) = nI p from rfl, hA', Option.bind_some, nI_1]
  · rintro ⟨A, i⟩ ⟨e0, e1, e2⟩
    try dsimp only at e0 e1 e2
    subst e0
    refine ⟨.inr (.inr A), ?_, _, rfl, zok_some ⟨e1, e2⟩⟩
    simp only [xX6_runTo_L130_L88]
    rw [if_pos (nI_le (Nat.le_refl _) (by omega))]
/-- where nobody ever presses, none answers -/
theorem zwho_off (h : ∀ p, p < np → (cm p ||| sr p).testBit w = false) : zwho np hd cm sr S w = none := by
  refine zqk_none (fun p hp => ?_)
  have := h p hp
  rw [Nat.testBit_or] at this
  unfold zbs
  by_cases q : S.2.2.1 = 0
  · rw [if_pos q]
    revert this
    cases (cm p).testBit w <;> simp
  · rw [if_neg q]
    revert this
    cases (cm p).testBit w <;> cases (sr p).testBit w <;> simp
theorem zx_runTo (hV : zVT n par wt ans) (hW : zWh n par ans) (hQ : zVQ pt) (hB : zBE np hd cm sr (zgu2 n par wt ans kn)) {R : zM} (hE : zCE T R P n par wt ans np ad hd kn cm sr pt) (h0 : 0 < e) (he : e < n) : zok (xX6_runTo T R P (nI e)) (fun r => zRC r np (zrun par np hd cm sr pt (zwlen par) ans (zgu2 n par wt ans kn) e) ∧ zfrR R r) := by
  have hn := hV.2.1
  have hnp := hB.1
  have hle := zlen_le hV e e (Nat.le_refl _) he
  unfold xX6_runTo
  refine zok_let (zok_let (zok_let (zok_let (zok_let (zok_bind ?_)))))
  have cell : ∀ j k, ¬ (j = 62 ∧ 8 ≤ k ∧ k ≤ 12) → (zsi (zsi (zsi (zsi (zsi R 62 8 (-9)) 62 9 (-9)) 62 10 (-9)) 62 11 0) 62 12 0).1 j k = R.1 j k := by
    intro j k g
    rw [zsi_ne (by omega), zsi_ne (by omega), zsi_ne (by omega), zsi_ne (by omega), zsi_ne (by omega)]
  refine (zok_for (fun c (z : zM × Int32 × Int32) => z.2.2 = nI c ∧ z.2.1 = nI (zop (· ||| ·) 0 (fun p => cm p ||| sr p) c) ∧ (z.1.1 62 8 = -9 ∧ z.1.1 62 9 = -9 ∧ z.1.1 62 10 = -9 ∧ z.1.1 62 11 = 0 ∧ z.1.1 62 12 = 0) ∧ (∀ p, p < c → z.1.1 68 p = 0) ∧ zfrR R z.1) 0 np (Nat.zero_le _) (by omega) ⟨rfl, rfl, ⟨?_, ?_, ?_, ?_, ?_⟩, fun p h => absurd h (Nat.not_lt_zero _), ⟨fun j k g1 g2 => cell j k g2, rfl⟩⟩ ?_ ?_ (P := fun r => r.2 = nI (zop (· ||| ·) 0 (fun p => cm p ||| sr p) np) ∧ zRC r.1 np zS0 ∧ zfrR R r.1)).imp ?_
  · simp (disch := first | assumption | omega) only [zlet, nI_leI, nI_ltI, nI_eq, nI_eq0, nI_clamp, nI_neg0, nI_add, nI_1, false_or, or_false, if_pos, if_neg, Int32.add_zero, Nat.add_zero, Option.bind_some, if_true, if_false, and_true, true_and, and_false, false_and, nI_10, nI_mul, zl2, zl3, zl4, zl5, zl6, zl8, zl9, zl20, zl24, zor0, zsi_g, zsj_g, zsi_2, zsj_1]
  · simp (disch := first | assumption | omega) only [zlet, nI_leI, nI_ltI, nI_eq, nI_eq0, nI_clamp, nI_neg0, nI_add, nI_1, false_or, or_false, if_pos, if_neg, Int32.add_zero, Nat.add_zero, Option.bind_some, if_true, if_false, and_true, true_and, and_false, false_and, nI_10, nI_mul, zl2, zl3, zl4, zl5, zl6, zl8, zl9, zl20, zl24, zor0, zsi_g, zsj_g, zsi_2, zsj_1]
  · simp (disch := first | assumption | omega) only [zlet, nI_leI, nI_ltI, nI_eq, nI_eq0, nI_clamp, nI_neg0, nI_add, nI_1, false_or, or_false, if_pos, if_neg, Int32.add_zero, Nat.add_zero, Option.bind_some, if_true, if_false, and_true, true_and, and_false, false_and, nI_10, nI_mul, zl2, zl3, zl4, zl5, zl6, zl8, zl9, zl20, zl24, zor0, zsi_g, zsj_g, zsi_2, zsj_1]
  · simp (disch := first | assumption | omega) only [zlet, nI_leI, nI_ltI, nI_eq, nI_eq0, nI_clamp, nI_neg0, nI_add, nI_1, false_or, or_false, if_pos, if_neg, Int32.add_zero, Nat.add_zero, Option.bind_some, if_true, if_false, and_true, true_and, and_false, false_and, nI_10, nI_mul, zl2, zl3, zl4, zl5, zl6, zl8, zl9, zl20, zl24, zor0, zsi_g, zsj_g, zsi_2, zsj_1]
  · simp (disch := first | assumption | omega) only [zlet, nI_leI, nI_ltI, nI_eq, nI_eq0, nI_clamp, nI_neg0, nI_add, nI_1, false_or, or_false, if_pos, if_neg, Int32.add_zero, Nat.add_zero, Option.bind_some, if_true, if_false, and_true, true_and, and_false, false_and, nI_10, nI_mul, zl2, zl3, zl4, zl5, zl6, zl8, zl9, zl20, zl24, zor0, zsi_g, zsj_g, zsi_2, zsj_1]
  · rintro c ⟨A, b, i⟩ h1 h2 ⟨e0, eb, ⟨e1, e2, e3, e4, e5⟩, e6, e7⟩
    try dsimp only at e0 eb e1 e2 e3 e4 e5 e6 e7
    subst e0 eb
    obtain ⟨r1, r2, r3, r4⟩ := zCE_f hE e7
    obtain ⟨s1, s2, -⟩ := r4 c h2
    refine ⟨.inl (zsi A 68 c 0, nI (zop (· ||| ·) 0 (fun p => cm p ||| sr p) (c + 1)), nI (c + 1)), ?_, _, rfl, rfl, rfl, ⟨?_, ?_, ?_, ?_, ?_⟩, fun p hp => ?_, zfrR_t e7 ⟨fun j k g1 g2 => ?_, rfl⟩⟩
    · have es : zop (· ||| ·) 0 (fun p => cm p ||| sr p) (c + 1) = zop (· ||| ·) 0 (fun p => cm p ||| sr p) c ||| (cm c ||| sr c) := rfl
      rw [es]
      simp (disch := first | assumption | omega) only [zlet, nI_leI, nI_ltI, nI_eq, nI_eq0, nI_clamp, nI_neg0, nI_add, nI_1, false_or, or_false, if_pos, if_neg, Int32.add_zero, Nat.add_zero, Option.bind_some, if_true, if_false, and_true, true_and, and_false, false_and, nI_10, nI_mul, zl2, zl3, zl4, zl5, zl6, zl8, zl9, zl20, zl24, zor0, zsi_g, zsj_g, zsi_2, zsj_1, xX6_runTo_L32, r3, s1, s2, zor]
    · show (zsi A 68 c 0).1 62 8 = _
      rw [zsi_ne (by omega)]; exact e1
    · show (zsi A 68 c 0).1 62 9 = _
      rw [zsi_ne (by omega)]; exact e2
    · show (zsi A 68 c 0).1 62 10 = _
      rw [zsi_ne (by omega)]; exact e3
    · show (zsi A 68 c 0).1 62 11 = _
      rw [zsi_ne (by omega)]; exact e4
    · show (zsi A 68 c 0).1 62 12 = _
      rw [zsi_ne (by omega)]; exact e5
    · show (zsi A 68 c 0).1 68 p = _
      by_cases g : p = c
      · rw [zsi_y ⟨rfl, g⟩]
      · rw [zsi_ne (fun z => g z.2)]
        exact e6 p (by omega)
    · show (zsi A 68 c 0).1 j k = _
      rw [zsi_ne (fun z => g1 z.1)]
  · rintro ⟨A, b, i⟩ ⟨e0, eb, ⟨e1, e2, e3, e4, e5⟩, e6, e7⟩
    try dsimp only at e0 eb e1 e2 e3 e4 e5 e6 e7
    subst e0 eb
    obtain ⟨r1, r2, r3, r4⟩ := zCE_f hE e7
    refine ⟨.inr (A, nI (zop (· ||| ·) 0 (fun p => cm p ||| sr p) np)), ?_, _, rfl, rfl, ⟨e1, e2, e3, e4, e5, fun p hp => ?_⟩, e7⟩
    · by_cases hh : np = 4
      · subst hh
        simp (disch := first | assumption | omega) only [zlet, nI_leI, nI_ltI, nI_eq, nI_eq0, nI_clamp, nI_neg0, nI_add, nI_1, false_or, or_false, if_pos, if_neg, Int32.add_zero, Nat.add_zero, Option.bind_some, if_true, if_false, and_true, true_and, and_false, false_and, nI_10, nI_mul, zl2, zl3, zl4, zl5, zl6, zl8, zl9, zl20, zl24, zor0, zsi_g, zsj_g, zsi_2, zsj_1, xX6_runTo_L32]
      · simp (disch := first | assumption | omega) only [zlet, nI_leI, nI_ltI, nI_eq, nI_eq0, nI_clamp, nI_neg0, nI_add, nI_1, false_or, or_false, if_pos, if_neg, Int32.add_zero, Nat.add_zero, Option.bind_some, if_true, if_false, and_true, true_and, and_false, false_and, nI_10, nI_mul, zl2, zl3, zl4, zl5, zl6, zl8, zl9, zl20, zl24, zor0, zsi_g, zsj_g, zsi_2, zsj_1, xX6_runTo_L32, r3]
    · rw [e6 p hp]
      rfl
  rintro ⟨A, b⟩ ⟨a1, a2, a3⟩
  try dsimp only at a1 a2 a3 ⊢
  subst a1
  refine zok_eb (zx_wayTo hn hE.1 he) (zok_let (zok_bind ?_))
  have hpr : zop (· ||| ·) 0 (fun p => cm p ||| sr p) np < 2 ^ 24 := zor_lt (fun p hp => by
    obtain ⟨-, b1, b2, -⟩ := hB.2 p hp
    exact Nat.or_lt_two_pow b1 b2)
  have hst : zwy par e &&& zop (· ||| ·) 0 (fun p => cm p ||| sr p) np < 2 ^ 31 := Nat.lt_of_le_of_lt Nat.and_le_right (by omega)
  have htest : ∀ c, (zwy par e &&& zop (· ||| ·) 0 (fun p => cm p ||| sr p) np).testBit c = (decide (0 < c) && zbe par e c && (zop (· ||| ·) 0 (fun p => cm p ||| sr p) np).testBit c) := by
    intro c
    rw [Nat.testBit_and, zwy_test hV e e (Nat.le_refl _) he]
  rw [zand]
  refine zok_forx (fun c (z : zM × Int32) => z.2 = nI c ∧ zfrR R z.1 ∧ ((c ≤ e ∧ ∃ u, zbe par e u = true ∧ u < c ∧ (∀ v, zbe par e v = true → v < c → v ≤ u) ∧ zRC z.1 np (zrn par np hd cm sr pt (zwlen par) ans (zgu2 n par wt ans kn) e u)) ∨ (e < c ∧ zRC z.1 np (zrun par np hd cm sr pt (zwlen par) ans (zgu2 n par wt ans kn) e)))) 1 24 (by decide) (by decide) ⟨rfl, a3, Or.inl ⟨h0, 0, zbe_root hV e e (Nat.le_refl _) he, by decide, fun v _ hv => by omega, a2⟩⟩ ?_ ?_
  · rintro c ⟨B, i⟩ h1 h2 ⟨e0, e1, e2⟩
    try dsimp only at e0 e1 e2
    subst e0
    have go24 : ¬ (24 : Int32) ≤ nI c := by rw [zl24, nI_leI (by omega) (by omega)]; omega
    rcases e2 with ⟨hce, u, u1, u2, u3, u4⟩ | ⟨hce, u4⟩
    · have hun := zbe_lt hV he u1
      have hcn : c < n := by omega
      by_cases ov : (zrn par np hd cm sr pt (zwlen par) ans (zgu2 n par wt ans kn) e u).2.2.2.2.1 = true
      · have h12 := u4.2.2.2.2.1
        rw [if_pos ov] at h12
        refine ⟨.inr B, ?_, Or.inr ⟨_, rfl, zok_some ⟨?_, e1⟩⟩⟩
        · simp only [xX6_runTo_L88]
          rw [if_neg go24, h12, if_neg (by decide)]
        · rw [zrun_over hV h0 he u1 ov]
          exact u4
      · have h12 := u4.2.2.2.2.1
        rw [if_neg ov] at h12
        have hWS := zWS_rn (np := np) (hd := hd) (cm := cm) (sr := sr) (gu := zgu2 n par wt ans kn) hV hQ hnp he u u (Nat.le_refl _) hun u1
        -- the parent of a word on the way is the last one heard
        have hpar : zbe par e c = true → par c = u := by
          intro hc
          have hp := (hV.2.2.1 c h1 hcn).1
          have h3 := u3 (par c) (zbe_up hV e e c (Nat.le_refl _) he h1 hc) hp
          have h4 : zbe par c u = true := by
            rcases zbe_tot hV e e (Nat.le_refl _) he hc u1 with z | z
            · exact z
            · have := zbe_le hV u u c (Nat.le_refl _) hun z
              omega
          rw [zbe_s hV h1 hcn, beq_eq_false_iff_ne.mpr (by omega), Bool.false_or] at h4
          have := zbe_le hV (par c) (par c) u (Nat.le_refl _) (by omega) h4
          omega
        by_cases bit : (zwy par e &&& zop (· ||| ·) 0 (fun p => cm p ||| sr p) np).testBit c = true
        · rw [htest, Bool.and_eq_true, Bool.and_eq_true] at bit
          obtain ⟨⟨-, b2⟩, b3⟩ := bit
          have bit0 : ¬ ((nI (zwy par e &&& zop (· ||| ·) 0 (fun p => cm p ||| sr p) np) >>> (nI c &&& 31)) &&& (1 : Int32)) = 0 := by
            rw [zbit0 hst (by omega), htest, b2, b3, decide_eq_true (show 0 < c from h1)]
            decide
          have hcu := hpar b2
          have hlc := zlen_up hV e e c (Nat.le_refl _) he b2
          by_cases q : c = e
          · subst q
            obtain ⟨B', hB', r1, r2⟩ := zx_turns hV hW hQ hB (zCE_f hE e1) hcn he (Nat.le_refl _) hWS u4 (v3 := nI (zwy par c &&& zop (· ||| ·) 0 (fun p => cm p ||| sr p) np)) (m := 4) (Nat.le_refl _)
            refine ⟨.inl (B', nI (c + 1)), ?_, Or.inl ⟨_, rfl, rfl, zfrR_t e1 r2, Or.inr ⟨by omega, ?_⟩⟩⟩
            · simp only [xX6_runTo_L88]
              rw [if_neg go24, h12, if_pos rfl, if_neg bit0, if_pos trivial]
              revert hB'
              rw [show (4 : Int32) = nI 4 from zl4]
              cases x_it (fun a9 => xX6_runTo_L130_L88 T P (nI c) (nI (zwy par c &&& zop (· ||| ·) 0 (fun p => cm p ||| sr p) np)) (nI c) (nI 4) a9.1 a9.2) zFU (B, (0 : Int32)) with
              | none => intro h; cases h
              | some y =>
                intro h
                rw [Option.bind_some] at h ⊢
                cases y <;> (cases h; rw [nI_1]; rfl)
            · unfold zrun
              rw [hcu]
              exact r1
          · obtain ⟨B', hB', r1, r2⟩ := zx_turns hV hW hQ hB (zCE_f hE e1) hcn he hlc hWS u4 (v3 := nI (zwy par e &&& zop (· ||| ·) 0 (fun p => cm p ||| sr p) np)) (m := 1) (by decide)
            refine ⟨.inl (B', nI (c + 1)), ?_, Or.inl ⟨_, rfl, rfl, zfrR_t e1 r2, Or.inl ⟨by omega, c, b2, by omega, fun v _ hv => by omega, ?_⟩⟩⟩
            · simp only [xX6_runTo_L88]
              rw [if_neg go24, h12, if_pos rfl, if_neg bit0, if_neg (by rw [nI_eq (by omega) (by omega)]; exact q)]
              revert hB'
              rw [show nI 1 = (1 : Int32) from rfl]
              cases x_it (fun a9 => xX6_runTo_L130_L88 T P (nI e) (nI (zwy par e &&& zop (· ||| ·) 0 (fun p => cm p ||| sr p) np)) (nI c) (1 : Int32) a9.1 a9.2) zFU (B, (0 : Int32)) with
              | none => intro h; cases h
              | some y =>
                intro h
                rw [Option.bind_some] at h ⊢
                cases y <;> (cases h; rw [nI_1]; rfl)
            · rw [zrn_s hV h1 hcn, hcu]
              exact r1
        · have bit2 : (zwy par e &&& zop (· ||| ·) 0 (fun p => cm p ||| sr p) np).testBit c = false := by simpa using bit
          have bit0 : ((nI (zwy par e &&& zop (· ||| ·) 0 (fun p => cm p ||| sr p) np) >>> (nI c &&& 31)) &&& (1 : Int32)) = 0 := by
            rw [zbit0 hst (by omega)]
            exact bit2
          have run : xX6_runTo_L88 T P (nI e) (nI (zwy par e &&& zop (· ||| ·) 0 (fun p => cm p ||| sr p) np)) B (nI c) = some (.inl (B, nI (c + 1))) := by
            simp only [xX6_runTo_L88]
            rw [if_neg go24, h12, if_pos rfl, if_pos bit0, nI_1]
          refine ⟨.inl (B, nI (c + 1)), run, Or.inl ⟨_, rfl, rfl, e1, ?_⟩⟩
          by_cases hc : zbe par e c = true
          · rw [htest, hc, decide_eq_true (show 0 < c from h1), Bool.true_and, Bool.true_and] at bit2
            have hoff : ∀ S : zRst, zwho np hd cm sr S c = none := by
              intro S
              refine zwho_off (fun p hp => ?_)
              cases hb : (cm p ||| sr p).testBit c with
              | false => rfl
              | true =>
                have := (zor_test (f := fun p => cm p ||| sr p) (a := c) (n := np)).mpr ⟨p, hp, hb⟩
                rw [bit2] at this
                cases this
            have hcu := hpar hc
            by_cases q : c = e
            · subst q
              refine Or.inr ⟨by omega, ?_⟩
              have h5 := zit_still (np := np) (hd := hd) (cm := cm) (sr := sr) (pt := pt) (len := zwlen par) (ans := ans) (gu := zgu2 n par wt ans kn) (e := c) (w := c) (k := 0) (S := zrn par np hd cm sr pt (zwlen par) ans (zgu2 n par wt ans kn) c u) (Or.inr (hoff _)) 4
              unfold zrun
              rw [hcu]
              have h6 : zitn (zan np hd cm sr pt (zwlen par) ans (zgu2 n par wt ans kn) c c) 4 (zrn par np hd cm sr pt (zwlen par) ans (zgu2 n par wt ans kn) c u) = zrn par np hd cm sr pt (zwlen par) ans (zgu2 n par wt ans kn) c u := h5
              rw [h6]
              exact u4
            · refine Or.inl ⟨by omega, c, hc, by omega, fun v _ hv => by omega, ?_⟩
              rw [zrn_s hV h1 hcn, hcu, zan_fix (Or.inr (hoff _))]
              exact u4
          · have q : c ≠ e := fun z => hc (by rw [z]; exact zbe_self)
            refine Or.inl ⟨by omega, u, u1, by omega, fun v hv1 hv2 => ?_, u4⟩
            have : v ≠ c := fun z => hc (z ▸ hv1)
            exact u3 v hv1 (by omega)
    · by_cases ov : (zrun par np hd cm sr pt (zwlen par) ans (zgu2 n par wt ans kn) e).2.2.2.2.1 = true
      · have h12 := u4.2.2.2.2.1
        rw [if_pos ov] at h12
        refine ⟨.inr B, ?_, Or.inr ⟨_, rfl, zok_some ⟨u4, e1⟩⟩⟩
        simp only [xX6_runTo_L88]
        rw [if_neg go24, h12, if_neg (by decide)]
      · have h12 := u4.2.2.2.2.1
        rw [if_neg ov] at h12
        have hc : zbe par e c = false := by
          cases z : zbe par e c with
          | false => rfl
          | true =>
            have := zbe_le hV e e c (Nat.le_refl _) he z
            omega
        have bit0 : ((nI (zwy par e &&& zop (· ||| ·) 0 (fun p => cm p ||| sr p) np) >>> (nI c &&& 31)) &&& (1 : Int32)) = 0 := by
          rw [zbit0 hst (by omega), htest, hc, Bool.and_false]
          rfl
        refine ⟨.inl (B, nI (c + 1)), ?_, Or.inl ⟨_, rfl, rfl, e1, Or.inr ⟨by omega, u4⟩⟩⟩
        simp only [xX6_runTo_L88]
        rw [if_neg go24, h12, if_pos rfl, if_pos bit0, nI_1]
  · rintro ⟨B, i⟩ ⟨e0, e1, e2⟩
    try dsimp only at e0 e1 e2
    subst e0
    rcases e2 with ⟨hce, -⟩ | ⟨-, u4⟩
    · omega
    · refine ⟨.inr B, ?_, _, rfl, zok_some ⟨u4, e1⟩⟩
      simp only [xX6_runTo_L88]
      rw [if_pos (by decide)]
end
