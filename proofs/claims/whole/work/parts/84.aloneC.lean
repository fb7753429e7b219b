/-! one alone, as the class reckons it -/
section
variable {n : Nat} {par wt ans : Nat → Nat}
def zca (n : Nat) (par wt ans pt gu : Nat → Nat) (w : Nat) : Int := zva n par (zst n par wt) gu (fun w => zpc n par wt ans pt w (gu w)) w
def zPc (n : Nat) (par wt ans pt gu : Nat → Nat) (w : Nat) : Bool := zPa n par (zst n par wt) gu (fun w => zpc n par wt ans pt w (gu w)) (zca n par wt ans pt gu) w
/-- the class has the points -/
def zCQ (R : zM) (pt : Nat → Nat) : Prop := ∀ k, k < 4 → R.1 64 k = nI (pt k)
theorem zx_meanNext (hV : zVT n par wt ans) {T R : zM} (hT : zCS T n par wt ans) {w : Nat} (hw : w < n) {r : Nat → Int} (hr : ∀ c, w < c → c < n → R.2 69 c = lI (r c)) : xX10_meanNext T R (nI w) = some (lI (zwt n par (zst n par wt) r w)) := by
  have hn := hV.2.1
  unfold xX10_meanNext
  rw [zfor (r := lI (zwt n par (zst n par wt) r w)) (fun c => (lI (zSm (fun c => if 0 < c ∧ par c = w then (zst n par wt c : Int) * r c else 0) c), nI c)) 1 n hV.1 (by omega) ?_ ?_ ?_]
  · rfl
  · rw [zSm_s, if_neg (by omega)]
    rfl
  · intro c h1 h2
    have hp := (hV.2.2.1 c h1 h2).1
    obtain ⟨t1, t2, t3⟩ := hT.1.2 c h2
    rw [zSm_s]
    by_cases q : par c = w
    · have s1 := (hT.2.1 w hw).2.2.2.2.2 c h1 h2 q
      have r1 := hr c (by omega) h2
      rw [if_pos ⟨h1, q⟩, ← lI_add, ← lI_mul, ← lN_lI]
      simp (disch := first | assumption | omega) only [zlet, nI_leI, nI_ltI, nI_eq, nI_eq0, nI_clamp, nI_neg0, nI_add, nI_1, false_or, or_false, if_pos, if_neg, Int32.add_zero, Nat.add_zero, Option.bind_some, if_true, if_false, and_true, true_and, and_false, false_and, nI_10, nI_mul, zl2, zl3, zl4, zl5, zl6, zl8, zl9, zl20, zl24, zor0, zsi_g, zsj_g, zsi_2, zsj_1, xX10_meanNext_L5, hT.1.1, t1, s1, r1]
    · rw [if_neg (fun z => q z.2), Int.add_zero]
      simp (disch := first | assumption | omega) only [zlet, nI_leI, nI_ltI, nI_eq, nI_eq0, nI_clamp, nI_neg0, nI_add, nI_1, false_or, or_false, if_pos, if_neg, Int32.add_zero, Nat.add_zero, Option.bind_some, if_true, if_false, and_true, true_and, and_false, false_and, nI_10, nI_mul, zl2, zl3, zl4, zl5, zl6, zl8, zl9, zl20, zl24, zor0, zsi_g, zsj_g, zsi_2, zsj_1, xX10_meanNext_L5, hT.1.1, t1]
  · by_cases hh : n = 24
    · subst hh
      simp (disch := first | assumption | omega) only [zlet, nI_leI, nI_ltI, nI_eq, nI_eq0, nI_clamp, nI_neg0, nI_add, nI_1, false_or, or_false, if_pos, if_neg, Int32.add_zero, Nat.add_zero, Option.bind_some, if_true, if_false, and_true, true_and, and_false, false_and, nI_10, nI_mul, zl2, zl3, zl4, zl5, zl6, zl8, zl9, zl20, zl24, zor0, zsi_g, zsj_g, zsi_2, zsj_1, xX10_meanNext_L5, zwt]
    · simp (disch := first | assumption | omega) only [zlet, nI_leI, nI_ltI, nI_eq, nI_eq0, nI_clamp, nI_neg0, nI_add, nI_1, false_or, or_false, if_pos, if_neg, Int32.add_zero, Nat.add_zero, Option.bind_some, if_true, if_false, and_true, true_and, and_false, false_and, nI_10, nI_mul, zl2, zl3, zl4, zl5, zl6, zl8, zl9, zl20, zl24, zor0, zsi_g, zsj_g, zsi_2, zsj_1, xX10_meanNext_L5, zwt, hT.1.1]
theorem zx_pressValue (hV : zVT n par wt ans) {T : zM} (hT : zCS T n par wt ans) {w g : Nat} (hw : w < n) (hg : 0 < g) (hg2 : g < 10) {pt : Nat → Nat} (hQ : zVQ pt) : xX10_pressValue T (nI w) (nI g) (nI (pt 0)) (nI (pt 1)) (nI (pt 2)) = some (lI (zpc n par wt ans pt w g)) := by
  have hn := hV.2.1
  have h1 := zx_has hn hT.1.1 hw
  obtain ⟨k1, k2, k3, k4, k5, k6⟩ := hT.2.1 w hw
  obtain ⟨s1, s2⟩ := k5 g hg hg2
  have h10 : ¬ (1 : Int32) = 0 := by decide
  have e1 : (nI g < 1) = False := by
    rw [show (1 : Int32) = nI 1 by decide, nI_ltI (by omega) (by decide)]
    exact eq_false (by omega)
  obtain ⟨q0, q1, q2, q3⟩ := hQ
  unfold xX10_pressValue zpc
  simp only [← lI_add, ← lI_sub, ← lI_mul, ← lN_lI]
  simp (disch := first | assumption | omega) only [zlet, nI_leI, nI_ltI, nI_eq, nI_eq0, nI_clamp, nI_neg0, nI_add, nI_1, false_or, or_false, if_pos, if_neg, Int32.add_zero, Nat.add_zero, Option.bind_some, if_true, if_false, and_true, true_and, and_false, false_and, nI_10, nI_mul, zl2, zl3, zl4, zl5, zl6, zl8, zl9, zl20, zl24, zor0, zsi_g, zsj_g, zsi_2, zsj_1, h1, h10, e1, if_false, s1, s2, k4, nI_l]
theorem zx_aloneSet (hV : zVT n par wt ans) {T R : zM} (hT : zCS T n par wt ans) {pt : Nat → Nat} (hQ : zVQ pt) (hP : zCQ R pt) {s : Nat} (hs : s < 2 ^ 31) {gu : Nat → Nat} (hgu : ∀ w, w < n → gu w = zgs (zsc n par wt ans w) s) : zok (xX6_aloneSet T R (nI s)) (fun r => r.1 = nI (zbits (zPc n par wt ans pt gu) n) ∧ (∀ w, w < n → r.2.2 69 w = lI (zca n par wt ans pt gu w)) ∧ r.2.1 = R.1 ∧ ∀ j k, j ≠ 69 → r.2.2 j k = R.2 j k) := by
  have hn := hV.2.1
  unfold xX6_aloneSet
  refine zok_bind ?_
  refine zok_ford (fun k (z : zM × Int32 × Int32) => z.2.2 = zdn k ∧ (∀ v, k ≤ v → v < n → z.1.2 69 v = lI (zca n par wt ans pt gu v)) ∧ z.2.1 = nI (zbits (fun v => decide (k ≤ v) && zPc n par wt ans pt gu v) n) ∧ z.1.1 = R.1 ∧ ∀ j k, j ≠ 69 → z.1.2 j k = R.2 j k) 24 (by decide) ⟨rfl, fun v h1 h2 => absurd h2 (by omega), ?_, rfl, fun _ _ _ => rfl⟩ ?_ ?_
  · rw [show zbits (fun v => decide (24 ≤ v) && zPc n par wt ans pt gu v) n = 0 from ?_]
    · rfl
    · refine Nat.eq_of_testBit_eq fun i => ?_
      rw [zbits_test, Nat.zero_testBit]
      by_cases g : i < n
      · have : ¬ 24 ≤ i := by omega
        simp [this]
      · simp [g]
  · rintro k ⟨A, set, i⟩ hk ⟨e0, e1, e2, e3, e4⟩
    try dsimp only at e0 e1 e2 e3 e4
    rw [zdn_s] at e0
    subst e0 e2
    rcases Nat.lt_or_ge k n with hkn | hkn
    · have hhas := zx_has hn hT.1.1 hkn
      have hmean := zx_meanNext hV (R := A) hT hkn (r := zca n par wt ans pt gu) (fun c g1 g2 => e1 c (by omega) g2)
      have hab : (zwt n par (zst n par wt) (zca n par wt ans pt gu) k).natAbs ≤ 160 * zbl n par wt k ∧ (zca n par wt ans pt gu k).natAbs ≤ 160 * zbl n par wt k := zva_abs hV (m := zst n par wt) (gu := gu) (b := zbl n par wt) (pr := fun w => zpc n par wt ans pt w (gu w)) (K := 160) (fun w hw hg => zpc_abs hV hQ hw) (fun w hw => zcm_next hV hw) k hkn
      have hbl := zbl_lt hV hkn
      have es : zca n par wt ans pt gu k = if zPc n par wt ans pt gu k = true then zpc n par wt ans pt k (gu k) else zwt n par (zst n par wt) (zca n par wt ans pt gu) k := zva_s hV hkn
      have h10 : ¬ (1 : Int32) = 0 := by decide
      have hsk : ∀ x y : Int, (zsj (zsj A 69 k (lI x)) 69 k (lI y)).1 = R.1 ∧ (∀ j i, j ≠ 69 → (zsj (zsj A 69 k (lI x)) 69 k (lI y)).2 j i = R.2 j i) ∧ (zsj A 69 k (lI x)).1 = R.1 ∧ (∀ j i, j ≠ 69 → (zsj A 69 k (lI x)).2 j i = R.2 j i) := by
        intro x y
        refine ⟨e3, fun j i g => ?_, e3, fun j i g => ?_⟩
        · rw [zsj_ne (fun z => g z.1), zsj_ne (fun z => g z.1)]
          exact e4 j i g
        · rw [zsj_ne (fun z => g z.1)]
          exact e4 j i g
      have hst : ∀ (B : zM) (y : Int), B.2 69 k = lI y → y = zca n par wt ans pt gu k → (∀ v, v ≠ k → B.2 69 v = A.2 69 v) → ∀ v, k ≤ v → v < n → B.2 69 v = lI (zca n par wt ans pt gu v) := by
        intro B y b1 b2 b3 v g1 g2
        by_cases g : v = k
        · rw [g, b1, b2]
        · rw [b3 v g]
          exact e1 v (by omega) g2
      have q0 := hP 0 (by decide)
      have q1 := hP 1 (by decide)
      have q2 := hP 2 (by decide)
      by_cases hk0 : k = 0
      · have hPf : zPc n par wt ans pt gu k = false := by
          unfold zPc zPa
          exact decide_eq_false (fun z => by omega)
        have es2 : zca n par wt ans pt gu k = zwt n par (zst n par wt) (zca n par wt ans pt gu) k := by
          rw [es, hPf]
          exact if_neg (by decide)
        refine ⟨.inl (zsj A 69 k (lI (zwt n par (zst n par wt) (zca n par wt ans pt gu) k)), nI (zbits (fun v => decide (k + 1 ≤ v) && zPc n par wt ans pt gu v) n), zdn k), ?_, _, rfl, rfl, hst _ _ (by rw [zsj_y ⟨rfl, rfl⟩]) es2.symm (fun v g => by rw [zsj_ne (fun z => g z.2)]), ?_, (hsk _ 0).2.2.1, (hsk _ 0).2.2.2⟩
        · simp (disch := first | assumption | omega) only [zlet, nI_leI, nI_ltI, nI_eq, nI_eq0, nI_clamp, nI_neg0, nI_add, nI_1, false_or, or_false, if_pos, if_neg, Int32.add_zero, Nat.add_zero, Option.bind_some, if_true, if_false, and_true, true_and, and_false, false_and, nI_10, nI_mul, zl2, zl3, zl4, zl5, zl6, zl8, zl9, zl20, zl24, zor0, zsi_g, zsj_g, zsi_2, zsj_1, xX6_aloneSet_L5, hhas, h10, hmean, xX6_aloneSet_b58_5, if_true]
          rw [zdn_p (by omega)]
        · rw [zbits_ge hkn, hPf, if_neg (by decide), Nat.or_zero]
      · have hga := zx_guessAt (X := zsc n par wt ans k) hn hT.1.1 hkn hs (fun a g1 g2 => ((hT.2.1 k hkn).2.2.2.2.1 a g1 g2).1) (fun a _ => by have := zsc_le hV (a := a) k hkn; omega)
        rw [← hgu k hkn] at hga
        have hgl : gu k < 10 := by rw [hgu k hkn]; exact zgs_lt
        by_cases hg0 : gu k = 0
        · have hPf : zPc n par wt ans pt gu k = false := by
            unfold zPc zPa
            exact decide_eq_false (fun z => z.2.1 hg0)
          have es2 : zca n par wt ans pt gu k = zwt n par (zst n par wt) (zca n par wt ans pt gu) k := by
            rw [es, hPf]
            exact if_neg (by decide)
          refine ⟨.inl (zsj A 69 k (lI (zwt n par (zst n par wt) (zca n par wt ans pt gu) k)), nI (zbits (fun v => decide (k + 1 ≤ v) && zPc n par wt ans pt gu v) n), zdn k), ?_, _, rfl, rfl, hst _ _ (by rw [zsj_y ⟨rfl, rfl⟩]) es2.symm (fun v g => by rw [zsj_ne (fun z => g z.2)]), ?_, (hsk _ 0).2.2.1, (hsk _ 0).2.2.2⟩
          · simp (disch := first | assumption | omega) only [zlet, nI_leI, nI_ltI, nI_eq, nI_eq0, nI_clamp, nI_neg0, nI_add, nI_1, false_or, or_false, if_pos, if_neg, Int32.add_zero, Nat.add_zero, Option.bind_some, if_true, if_false, and_true, true_and, and_false, false_and, nI_10, nI_mul, zl2, zl3, zl4, zl5, zl6, zl8, zl9, zl20, zl24, zor0, zsi_g, zsj_g, zsi_2, zsj_1, xX6_aloneSet_L5, hhas, h10, hmean, hga, xX6_aloneSet_b58_5]
            rw [zdn_p (by omega)]
          · rw [zbits_ge hkn, hPf, if_neg (by decide), Nat.or_zero]
        · have hpv := zx_pressValue hV hT hkn (g := gu k) (by omega) hgl hQ
          have hpb := zpc_abs hV hQ (g := gu k) hkn
          have hPd : zPc n par wt ans pt gu k = decide (zwt n par (zst n par wt) (zca n par wt ans pt gu) k ≤ zpc n par wt ans pt k (gu k)) := by
            unfold zPc zPa
            refine decide_eq_decide.mpr ⟨fun z => z.2.2, fun z => ⟨by omega, hg0, z⟩⟩
          have hcmp := lI_lt (a := zpc n par wt ans pt k (gu k)) (b := zwt n par (zst n par wt) (zca n par wt ans pt gu) k) (by omega) (by have := hab.1; omega)
          have eR : ∀ x : Int64, (zsj A 69 k x).1 = R.1 := fun _ => e3
          have p0 : A.1 64 ((0 : Int32)).toNatClampNeg = nI (pt 0) := by rw [e3]; exact q0
          have p1 : A.1 64 ((1 : Int32)).toNatClampNeg = nI (pt 1) := by rw [e3]; exact q1
          have p2 : A.1 64 (nI 2).toNatClampNeg = nI (pt 2) := by rw [e3]; exact q2
          by_cases q : zwt n par (zst n par wt) (zca n par wt ans pt gu) k ≤ zpc n par wt ans pt k (gu k)
          · rw [decide_eq_true q] at hPd
            have es2 : zca n par wt ans pt gu k = zpc n par wt ans pt k (gu k) := by
              rw [es, hPd]
              exact if_pos rfl
            have hq : ¬ zpc n par wt ans pt k (gu k) < zwt n par (zst n par wt) (zca n par wt ans pt gu) k := by omega
            refine ⟨.inl (zsj (zsj A 69 k (lI (zwt n par (zst n par wt) (zca n par wt ans pt gu) k))) 69 k (lI (zpc n par wt ans pt k (gu k))), nI (zbits (fun v => decide (k + 1 ≤ v) && zPc n par wt ans pt gu v) n ||| 2 ^ k), zdn k), ?_, _, rfl, rfl, hst _ _ (by rw [zsj_y ⟨rfl, rfl⟩]) es2.symm (fun v g => by rw [zsj_ne (fun z => g z.2), zsj_ne (fun z => g z.2)]), ?_, (hsk _ _).1, (hsk _ _).2.1⟩
            · simp only [xX6_aloneSet_L5, hhas, Option.bind_some, if_neg h10, hmean, zlet]
              rw [if_neg (nI_pos (by omega)), if_neg (nI_in (by omega) (by decide)), if_neg (by rw [nI_eq0 (by omega)]; exact hk0), hga, Option.bind_some, nI_clamp (by omega)]
              simp only [xX6_aloneSet_b58_5, zsj_1, zlet]
              rw [p0, p1, show (2 : Int32) = nI 2 from zl2, p2, hpv, Option.bind_some, if_neg (by rw [nI_eq0 (by omega)]; exact hg0), if_neg (nI_in (by omega) (by decide)), nI_clamp (by omega), zsj_y ⟨rfl, rfl⟩, zifi (lg_cmp_lt _ _), zif hcmp, if_neg hq, zshl k (by omega), zor, zdn_p (by omega)]
            · rw [zbits_ge hkn, hPd, if_pos rfl]
          · rw [decide_eq_false q] at hPd
            have es2 : zca n par wt ans pt gu k = zwt n par (zst n par wt) (zca n par wt ans pt gu) k := by
              rw [es, hPd]
              exact if_neg (by decide)
            have hq : zpc n par wt ans pt k (gu k) < zwt n par (zst n par wt) (zca n par wt ans pt gu) k := by omega
            refine ⟨.inl (zsj A 69 k (lI (zwt n par (zst n par wt) (zca n par wt ans pt gu) k)), nI (zbits (fun v => decide (k + 1 ≤ v) && zPc n par wt ans pt gu v) n), zdn k), ?_, _, rfl, rfl, hst _ _ (by rw [zsj_y ⟨rfl, rfl⟩]) es2.symm (fun v g => by rw [zsj_ne (fun z => g z.2)]), ?_, (hsk _ 0).2.2.1, (hsk _ 0).2.2.2⟩
            · simp only [xX6_aloneSet_L5, hhas, Option.bind_some, if_neg h10, hmean, zlet]
              rw [if_neg (nI_pos (by omega)), if_neg (nI_in (by omega) (by decide)), if_neg (by rw [nI_eq0 (by omega)]; exact hk0), hga, Option.bind_some, nI_clamp (by omega)]
              simp only [xX6_aloneSet_b58_5, zsj_1, zlet]
              rw [p0, p1, show (2 : Int32) = nI 2 from zl2, p2, hpv, Option.bind_some, if_neg (by rw [nI_eq0 (by omega)]; exact hg0), if_neg (nI_in (by omega) (by decide)), nI_clamp (by omega), zsj_y ⟨rfl, rfl⟩, zifi (lg_cmp_lt _ _), zif hcmp, if_pos hq, zdn_p (by omega)]
            · rw [zbits_ge hkn, hPd, if_neg (by decide), Nat.or_zero]
    · have hhas := zx_hasnt hn hT.1.1 (v := nI k) (Or.inr (nI_le hkn (by omega)))
      refine ⟨.inl (A, nI (zbits (fun v => decide (k + 1 ≤ v) && zPc n par wt ans pt gu v) n), zdn k), ?_, _, rfl, rfl, fun v g1 g2 => absurd g2 (by omega), ?_, e3, e4⟩
      · simp (disch := first | assumption | omega) only [zlet, nI_leI, nI_ltI, nI_eq, nI_eq0, nI_clamp, nI_neg0, nI_add, nI_1, false_or, or_false, if_pos, if_neg, Int32.add_zero, Nat.add_zero, Option.bind_some, if_true, if_false, and_true, true_and, and_false, false_and, nI_10, nI_mul, zl2, zl3, zl4, zl5, zl6, zl8, zl9, zl20, zl24, zor0, zsi_g, zsj_g, zsi_2, zsj_1, xX6_aloneSet_L5, hhas, if_true]
        rw [zdn_p (by omega)]
      · refine congrArg nI (zbits_eq (fun v hv => ?_))
        have h1 : ¬ k + 1 ≤ v := by omega
        have h2 : ¬ k ≤ v := by omega
        simp [h1, h2]
  · rintro ⟨A, set, i⟩ ⟨e0, e1, e2, e3, e4⟩
    try dsimp only at e0 e1 e2 e3 e4
    subst e0 e2
    refine ⟨.inr (A, nI (zbits (fun v => decide (0 ≤ v) && zPc n par wt ans pt gu v) n)), ?_, _, rfl, zok_some ⟨?_, fun w hw => e1 w (Nat.zero_le _) hw, e3, e4⟩⟩
    · unfold xX6_aloneSet_L5
      rw [if_pos (by rw [zdn_0]; trivial)]
    · rw [zbits_all]
/-- both alike -/
theorem zalone (hV : zVT n par wt ans) (hW : zWh n par ans) {pt gu : Nat → Nat} : (∀ w, w < n → zma n par wt ans pt gu w * zbl n par wt w = zca n par wt ans pt gu w * zsh n par wt ans w) ∧ zbits (zPm n par wt ans pt gu) n = zbits (zPc n par wt ans pt gu) n := by
  have h := zva_cross hV hW (gu := gu) (p1 := fun w => zpm n par wt ans pt w (gu w)) (p2 := fun w => zpc n par wt ans pt w (gu w)) (fun w hw _ hg => zpm_zpc hV hW hw (by omega))
  exact ⟨fun w hw => (h w hw).1, zbits_eq (fun k hk => (h k hk).2)⟩
end
