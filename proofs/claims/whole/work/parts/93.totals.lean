/-! sums over all ends, by the class -/
section
variable {n : Nat} {par wt ans : Nat → Nat} {np : Nat} {ad hd kn cm sr pt : Nat → Nat} {T : zM} {P : zP}
theorem zx_timesOf (hn : n ≤ 24) (hT : zCS T n par wt ans) {w : Nat} (hw : w < n) : xX10_timesOf T (nI w) = some (lN (ztm n par wt w)) := by
  have h1 := zx_has hn hT.1.1 hw
  have h10 : ¬ (1 : Int32) = 0 := by decide
  have h3 := (hT.2.2.1 w hw).2.2
  simp (disch := first | assumption | omega) only [zlet, nI_leI, nI_ltI, nI_eq, nI_eq0, nI_clamp, nI_neg0, nI_add, nI_1, false_or, or_false, if_pos, if_neg, Int32.add_zero, Nat.add_zero, Option.bind_some, if_true, if_false, and_true, true_and, and_false, false_and, nI_10, nI_mul, zl2, zl3, zl4, zl5, zl6, zl8, zl9, zl20, zl24, zor0, zsi_g, zsj_g, zsi_2, zsj_1, xX10_timesOf, h1, h10, h3]
theorem zx_belowOf (hn : n ≤ 24) (hT : zCS T n par wt ans) {w : Nat} (hw : w < n) : xX10_belowOf T (nI w) = some (lN (zbl n par wt w)) := by
  have h1 := zx_has hn hT.1.1 hw
  have h10 : ¬ (1 : Int32) = 0 := by decide
  have h3 := (hT.2.1 w hw).2.2.2.1
  simp (disch := first | assumption | omega) only [zlet, nI_leI, nI_ltI, nI_eq, nI_eq0, nI_clamp, nI_neg0, nI_add, nI_1, false_or, or_false, if_pos, if_neg, Int32.add_zero, Nat.add_zero, Option.bind_some, if_true, if_false, and_true, true_and, and_false, false_and, nI_10, nI_mul, zl2, zl3, zl4, zl5, zl6, zl8, zl9, zl20, zl24, zor0, zsi_g, zsj_g, zsi_2, zsj_1, xX10_belowOf, h1, h10, h3]
theorem zx_isEnd (hV : zVT n par wt ans) (hT : zTC T n par wt ans) {w : Nat} (hw : w < n) : xX10_isEnd T (nI w) = some (if ans w = 0 then 0 else 1) := by
  have hn := hV.2.1
  have ha := zans_le hV hw
  have h1 := zx_has hn hT.1 hw
  have h10 : ¬ (1 : Int32) = 0 := by decide
  have h3 := (hT.2 w hw).2.2
  by_cases q : ans w = 0
  · rw [if_pos q]
    simp (disch := first | assumption | omega) only [zlet, nI_leI, nI_ltI, nI_eq, nI_eq0, nI_clamp, nI_neg0, nI_add, nI_1, false_or, or_false, if_pos, if_neg, Int32.add_zero, Nat.add_zero, Option.bind_some, if_true, if_false, and_true, true_and, and_false, false_and, nI_10, nI_mul, zl2, zl3, zl4, zl5, zl6, zl8, zl9, zl20, zl24, zor0, zsi_g, zsj_g, zsi_2, zsj_1, xX10_isEnd, h1, h10, h3, nI_le0]
  · rw [if_neg q]
    simp (disch := first | assumption | omega) only [zlet, nI_leI, nI_ltI, nI_eq, nI_eq0, nI_clamp, nI_neg0, nI_add, nI_1, false_or, or_false, if_pos, if_neg, Int32.add_zero, Nat.add_zero, Option.bind_some, if_true, if_false, and_true, true_and, and_false, false_and, nI_10, nI_mul, zl2, zl3, zl4, zl5, zl6, zl8, zl9, zl20, zl24, zor0, zsi_g, zsj_g, zsi_2, zsj_1, xX10_isEnd, h1, h10, h3, nI_le0]
theorem zx_isEndn (hn : n ≤ 24) (hT : T.1 0 13 = nI n) {v : Int32} (hv : v < 0 ∨ nI n ≤ v) : xX10_isEnd T v = some 0 := by
  unfold xX10_isEnd
  rw [zx_hasnt hn hT hv, Option.bind_some, if_pos rfl]
theorem zx_gainOf {R : zM} {p : Nat} (hp : p < 4) : xX6_gainOf R (nI p) = some (R.1 68 p) := by
  simp (disch := first | assumption | omega) only [zlet, nI_leI, nI_ltI, nI_eq, nI_eq0, nI_clamp, nI_neg0, nI_add, nI_1, false_or, or_false, if_pos, if_neg, Int32.add_zero, Nat.add_zero, Option.bind_some, if_true, if_false, and_true, true_and, and_false, false_and, nI_10, nI_mul, zl2, zl3, zl4, zl5, zl6, zl8, zl9, zl20, zl24, zor0, zsi_g, zsj_g, zsi_2, zsj_1, xX6_gainOf]
theorem zx_totStep (hn : n ≤ 24) (hT : zCS T n par wt ans) {R : zM} {S : zRst} (hS : zWS S) (hR : zRC R np S) {what p e : Nat} {z : Int} {v2 : Int32} (hwh : what ≤ 2) (hp : what < 2 → v2 = nI p ∧ p < np) (hnp : np ≤ 4) (he : e < n) : (if nI what = 0 then (if (R.1 62 8) = v2 then ((xX10_timesOf T (nI e)).bind fun q7 => zlet (lI z + q7) fun z8 => xX6_total_b57_5 T R P (nI what) v2 z8 (nI e)) else xX6_total_b57_5 T R P (nI what) v2 (lI z) (nI e)) else xX6_total_b57_5 T R P (nI what) v2 (lI z) (nI e)) = some (.inl (R, lI (z + (ztm n par wt e : Int) * zvl what p S e), nI (e + 1))) := by
  have h8 := hR.1
  have tm := zx_timesOf hn hT he
  have d01 : ¬ (0 : Int32) = 1 := by decide
  have d02 : ¬ (0 : Int32) = 2 := by decide
  have d10 : ¬ (1 : Int32) = 0 := by decide
  have d12 : ¬ (1 : Int32) = 2 := by decide
  have d20 : ¬ (2 : Int32) = 0 := by decide
  have d21 : ¬ (2 : Int32) = 1 := by decide
  have hc : what = 0 ∨ what = 1 ∨ what = 2 := by omega
  rcases hc with rfl | rfl | rfl
  · obtain ⟨rfl, hp'⟩ := hp (by decide)
    have k1 := zo_eq (o := S.1) (k := p) (by omega) (zWS_win hS)
    show (if (0 : Int32) = 0 then _ else _) = _
    rw [if_pos rfl, h8, zif (k1), tm]
    unfold xX6_total_b57_5
    simp only [zlet, Option.bind_some]
    rw [zvl0]
    by_cases q : S.1 = some p
    · rw [if_pos q, if_pos q, Int.mul_one, show nI 0 = (0 : Int32) from rfl, if_neg d01, if_neg d02, lN_lI, lI_add, nI_1]
    · rw [if_neg q, if_neg q, Int.mul_zero, Int.add_zero, show nI 0 = (0 : Int32) from rfl, if_neg d01, if_neg d02, nI_1]
  · obtain ⟨rfl, hp'⟩ := hp (by decide)
    have hg := zx_gainOf (R := R) (p := p) (by omega)
    have h68 := hR.2.2.2.2.2 p hp'
    have hgl := hS.2.2.2.1 p
    show (if (1 : Int32) = 0 then _ else _) = _
    rw [if_neg d10]
    unfold xX6_total_b57_5
    simp only [zlet]
    rw [show nI 1 = (1 : Int32) from rfl, if_pos rfl, tm, Option.bind_some, hg, Option.bind_some, h68, if_neg d12, iI_l (by omega), lN_lI, lI_mul, lI_add, nI_1, zvl1]
  · have k1 := zo_m9 (o := S.1) (zWS_win hS)
    show (if (2 : Int32) = 0 then _ else _) = _
    rw [if_neg d20]
    unfold xX6_total_b57_5
    simp only [zlet]
    rw [show nI 2 = (2 : Int32) from rfl, if_neg d21, if_pos rfl, h8, zif (k1), tm, zvl2]
    simp only [Option.bind_some]
    by_cases q : S.1 = none
    · rw [if_pos q, if_pos q, Int.mul_one, lN_lI, lI_add, nI_1]
    · rw [if_neg q, if_neg q, Int.mul_zero, Int.add_zero, nI_1]
theorem zx_total (hV : zVT n par wt ans) (hW : zWh n par ans) (hQ : zVQ pt) (hB : zBE np hd cm sr (zgu2 n par wt ans kn)) {R : zM} (hE : zCE T R P n par wt ans np ad hd kn cm sr pt) {what p : Nat} {v2 : Int32} (hwh : what ≤ 2) (hp : what < 2 → v2 = nI p ∧ p < np) : zok (xX6_total T R P (nI what) v2) (fun r => r.1 = lI (zSm (zsv n ans (ztm n par wt) (zrun par np hd cm sr pt (zwlen par) ans (zgu2 n par wt ans kn)) what p) n) ∧ zfrR R r.2) := by
  have hn := hV.2.1
  unfold xX6_total
  refine zok_bind ?_
  refine zok_for (fun c (z : zM × Int64 × Int32) => z.2.2 = nI c ∧ z.2.1 = lI (zSm (zsv n ans (ztm n par wt) (zrun par np hd cm sr pt (zwlen par) ans (zgu2 n par wt ans kn)) what p) (if c ≤ n then c else n)) ∧ zfrR R z.1) 1 24 (by decide) (by decide) ⟨rfl, ?_, zfrR_r⟩ ?_ ?_
  · rw [if_pos hV.1]
    rw [zSm_s, show zsv n ans (ztm n par wt) (zrun par np hd cm sr pt (zwlen par) ans (zgu2 n par wt ans kn)) what p 0 = 0 from if_pos hV.2.2.2]
    rfl
  · rintro c ⟨A, x, i⟩ h1 h2 ⟨e0, e1, e2⟩
    try dsimp only at e0 e1 e2
    subst e0 e1
    have hEA := zCE_f hE e2
    have go : ¬ (24 : Int32) ≤ nI c := by rw [zl24, nI_leI (by omega) (by omega)]; omega
    rcases Nat.lt_or_ge c n with hc | hc
    · have hie := zx_isEnd hV hEA.1.1 hc
      rw [if_pos (by omega)]
      by_cases q : ans c = 0
      · refine ⟨.inl (A, lI (zSm (zsv n ans (ztm n par wt) (zrun par np hd cm sr pt (zwlen par) ans (zgu2 n par wt ans kn)) what p) c), nI (c + 1)), ?_, _, rfl, rfl, ?_, e2⟩
        · simp only [xX6_total_L5]
          rw [if_neg go, hie, Option.bind_some, if_pos q, if_pos rfl, nI_1]
        · try dsimp only
          rw [if_pos (by omega), zSm_s, show zsv n ans (ztm n par wt) (zrun par np hd cm sr pt (zwlen par) ans (zgu2 n par wt ans kn)) what p c = 0 from if_pos q, Int.add_zero]
      · obtain ⟨B, hBr, r1, r2⟩ := zx_runTo hV hW hQ hB hEA h1 hc
        have hWS := zWS_run (np := np) (hd := hd) (cm := cm) (sr := sr) (gu := zgu2 n par wt ans kn) hV hQ hB.1 h1 hc
        have st := zx_totStep (P := P) hn hEA.1 hWS r1 (z := zSm (zsv n ans (ztm n par wt) (zrun par np hd cm sr pt (zwlen par) ans (zgu2 n par wt ans kn)) what p) c) (v2 := v2) hwh hp hB.1 hc
        refine ⟨.inl (B, lI (zSm (zsv n ans (ztm n par wt) (zrun par np hd cm sr pt (zwlen par) ans (zgu2 n par wt ans kn)) what p) (c + 1)), nI (c + 1)), ?_, _, rfl, rfl, ?_, zfrR_t e2 r2⟩
        · rw [zSm_s, show zsv n ans (ztm n par wt) (zrun par np hd cm sr pt (zwlen par) ans (zgu2 n par wt ans kn)) what p c = (ztm n par wt c : Int) * zvl what p (zrun par np hd cm sr pt (zwlen par) ans (zgu2 n par wt ans kn) c) c from if_neg q]
          simp only [xX6_total_L5]
          rw [if_neg go, hie, Option.bind_some, if_neg q, if_neg (by decide), hBr, Option.bind_some]
          exact st
        · try dsimp only
          rw [if_pos (by omega)]
    · have hie := zx_isEndn hn hEA.1.1.1 (v := nI c) (Or.inr (nI_le hc (by omega)))
      refine ⟨.inl (A, lI (zSm (zsv n ans (ztm n par wt) (zrun par np hd cm sr pt (zwlen par) ans (zgu2 n par wt ans kn)) what p) (if c ≤ n then c else n)), nI (c + 1)), ?_, _, rfl, rfl, ?_, e2⟩
      · simp only [xX6_total_L5]
        rw [if_neg go, hie, Option.bind_some, if_pos rfl, nI_1]
      · try dsimp only
        rw [if_neg (show ¬ c + 1 ≤ n by omega)]
        by_cases q : c ≤ n
        · rw [if_pos q, show c = n by omega]
        · rw [if_neg q]
  · rintro ⟨A, x, i⟩ ⟨e0, e1, e2⟩
    try dsimp only at e0 e1 e2
    subst e0
    refine ⟨.inr (A, x), ?_, _, rfl, zok_some ⟨?_, e2⟩⟩
    · simp only [xX6_total_L5]
      rw [if_pos (by decide)]
    · rw [e1]
      by_cases q : 24 ≤ n
      · rw [if_pos q, show 24 = n by omega]
      · rw [if_neg q]
/-! how dull -/
theorem zfst_an {gu : Nat → Nat → Nat} {len : Nat → Nat} {e w : Nat} {S : zRst} {x : Nat × Nat} (h : S.2.1 = some x) : (zan np hd cm sr pt len ans gu e w S).2.1 = some x := by
  unfold zan
  split
  · exact h
  · split
    · exact h
    · unfold zaw
      split
      · show zfst S.2.1 _ w = some x
        rw [h]; rfl
      · show zfst S.2.1 _ w = some x
        rw [h]; rfl
theorem zfst_an2 {gu : Nat → Nat → Nat} {len : Nat → Nat} {e w : Nat} {S : zRst} (h : S.2.1 = none) (ho : S.2.2.2.2.1 = false) : (zan np hd cm sr pt len ans gu e w S).2.1 = (zwho np hd cm sr S w).map (fun p => (p, w)) := by
  unfold zan
  rw [if_neg (by rw [ho]; decide)]
  cases hp : zwho np hd cm sr S w with
  | none => exact h
  | some p =>
    show (zaw pt len ans gu e w S p).2.1 = some (p, w)
    unfold zaw
    split
    · show zfst S.2.1 _ w = _
      rw [h]; rfl
    · show zfst S.2.1 _ w = _
      rw [h]; rfl
theorem zwho_calm {S : zRst} {w : Nat} (h : S.2.2.1 = 0) : zwho np hd cm sr S w = none ↔ ∀ p, p < np → (cm p).testBit w = false := by
  refine ⟨fun g p hp => ?_, fun g => zqk_none (fun p hp => ?_)⟩
  · have := zqk_some g p hp
    unfold zbs at this
    rw [h, if_pos rfl, Nat.zero_testBit, Bool.not_false, Bool.true_and] at this
    exact this
  · unfold zbs
    rw [h, if_pos rfl, g p hp, Bool.and_false]
/-- nobody has answered just where nobody presses on the way; who answered, did so on the way -/
theorem zrn_fst (hV : zVT n par wt ans) (hQ : zVQ pt) (hnp : np ≤ 4) {gu : Nat → Nat → Nat} {e : Nat} (he : e < n) : ∀ (k w : Nat), w ≤ k → w < n → zbe par e w = true → ((zrn par np hd cm sr pt (zwlen par) ans gu e w).2.1 = none ↔ ∀ u, 0 < u → zbe par w u = true → ∀ p, p < np → (cm p).testBit u = false) ∧ ∀ x, (zrn par np hd cm sr pt (zwlen par) ans gu e w).2.1 = some x → zbe par w x.2 = true
  | 0, w, h1, h2, _ => by
    obtain rfl : w = 0 := by omega
    refine ⟨⟨fun _ u hu hz => ?_, fun _ => rfl⟩, fun x hx => by cases hx⟩
    have := zbe_le hV 0 0 u (Nat.le_refl _) h2 hz
    omega
  | k + 1, w, h1, h2, h3 => by
    rcases Nat.eq_zero_or_pos w with rfl | g
    · exact zrn_fst hV hQ hnp he k 0 (by omega) h2 h3
    · have hp := (hV.2.2.1 w g h2).1
      have h4 := zbe_up hV e e w (Nat.le_refl _) he g h3
      obtain ⟨i1, i2⟩ := zrn_fst hV hQ hnp he k (par w) (by omega) (by omega) h4
      have hWS := zWS_rn (np := np) (hd := hd) (cm := cm) (sr := sr) (gu := gu) hV hQ hnp he (par w) (par w) (Nat.le_refl _) (by omega) h4
      have es := zrn_s (np := np) (hd := hd) (cm := cm) (sr := sr) (pt := pt) (len := zwlen par) (gu := gu) (e := e) hV g h2
      rw [es]
      generalize zrn par np hd cm sr pt (zwlen par) ans gu e (par w) = X at i1 i2 hWS
      cases hf : X.2.1 with
      | some x =>
        rw [zfst_an hf]
        have hx := i2 x hf
        refine ⟨⟨fun z => (by cases z), fun z => ?_⟩, fun y hy => ?_⟩
        · have : X.2.1 = none := i1.mpr (fun u hu hz => z u hu (by rw [zbe_s hV g h2, hz, Bool.or_true]))
          rw [hf] at this
          cases this
        · cases hy
          rw [zbe_s hV g h2, hx, Bool.or_true]
      | none =>
        obtain ⟨w0, w1⟩ := hWS.2.2.2.2.1 hf
        rw [zfst_an2 hf w1]
        refine ⟨⟨fun z u hu hz => ?_, fun z => ?_⟩, fun y hy => ?_⟩
        · have hn : zwho np hd cm sr X w = none := by
            cases hq : zwho np hd cm sr X w with
            | none => rfl
            | some p => rw [hq] at z; cases z
          rw [zbe_s hV g h2] at hz
          rcases Bool.or_eq_true _ _ ▸ hz with q | q
          · rw [← eq_of_beq q]
            exact (zwho_calm w0).mp hn
          · exact i1.mp hf u hu q
        · rw [(zwho_calm w0).mpr (z w g zbe_self)]
          rfl
        · cases hq : zwho np hd cm sr X w with
          | none => rw [hq] at hy; cases hy
          | some p =>
            rw [hq] at hy
            cases hy
            exact zbe_self
theorem zfst_it {gu : Nat → Nat → Nat} {len : Nat → Nat} {e : Nat} {S : zRst} {x : Nat × Nat} (h : S.2.1 = some x) : ∀ k, (zitn (zan np hd cm sr pt len ans gu e e) k S).2.1 = some x
  | 0 => h
  | k + 1 => zfst_an (zfst_it h k)
/-- dull: nobody presses ahead of the end -/
theorem zrun_dull (hV : zVT n par wt ans) (hQ : zVQ pt) (hnp : np ≤ 4) {gu : Nat → Nat → Nat} {e : Nat} (h0 : 0 < e) (he : e < n) : ((zrun par np hd cm sr pt (zwlen par) ans gu e).2.1.map (fun x => x.2) = none ∨ (zrun par np hd cm sr pt (zwlen par) ans gu e).2.1.map (fun x => x.2) = some e) ↔ ∀ u, 0 < u → zbe par (par e) u = true → ∀ p, p < np → (cm p).testBit u = false := by
  have hp := (hV.2.2.1 e h0 he).1
  have h4 := zbe_up hV e e e (Nat.le_refl _) he h0 zbe_self
  obtain ⟨i1, i2⟩ := zrn_fst hV hQ hnp (hd := hd) (cm := cm) (sr := sr) (gu := gu) he (par e) (par e) (Nat.le_refl _) (by omega) h4
  have hWS := zWS_rn (np := np) (hd := hd) (cm := cm) (sr := sr) (gu := gu) hV hQ hnp he (par e) (par e) (Nat.le_refl _) (by omega) h4
  have hle := zlen_le hV e e (Nat.le_refl _) he
  have hn := hV.2.1
  rw [← i1]
  unfold zrun
  generalize zrn par np hd cm sr pt (zwlen par) ans gu e (par e) = X at i1 i2 hWS ⊢
  cases hf : X.2.1 with
  | some x =>
    rw [zfst_it hf 4]
    have hx := i2 x hf
    have := zbe_le hV (par e) (par e) x.2 (Nat.le_refl _) (by omega) hx
    refine ⟨fun z => ?_, fun z => by cases z⟩
    rcases z with z | z
    · cases z
    · injection z with z
      try dsimp only at z
      omega
  | none =>
    refine ⟨fun _ => rfl, fun _ => ?_⟩
    have key : ∀ k, (zitn (zan np hd cm sr pt (zwlen par) ans gu e e) k X).2.1 = none ∨ ∃ p, (zitn (zan np hd cm sr pt (zwlen par) ans gu e e) k X).2.1 = some (p, e) := by
      intro k
      induction k with
      | zero => exact Or.inl hf
      | succ k ih =>
        have hWk := zWS_it (np := np) (hd := hd) (cm := cm) (sr := sr) (ans := ans) (gu := gu) hQ hnp (show zwlen par e ≤ 24 by omega) (Nat.le_refl _) (show e < 24 by omega) hWS k
        show (zan np hd cm sr pt (zwlen par) ans gu e e (zitn (zan np hd cm sr pt (zwlen par) ans gu e e) k X)).2.1 = none ∨ ∃ p, (zan np hd cm sr pt (zwlen par) ans gu e e (zitn (zan np hd cm sr pt (zwlen par) ans gu e e) k X)).2.1 = some (p, e)
        rcases ih with ih | ⟨p, ih⟩
        · obtain ⟨w0, w1⟩ := hWk.2.2.2.2.1 ih
          rw [zfst_an2 ih w1]
          cases zwho np hd cm sr (zitn (zan np hd cm sr pt (zwlen par) ans gu e e) k X) e with
          | none => exact Or.inl rfl
          | some p => exact Or.inr ⟨p, rfl⟩
        · exact Or.inr ⟨p, zfst_an ih⟩
    rcases key 4 with z | ⟨p, z⟩
    · rw [z]; exact Or.inl rfl
    · rw [z]; exact Or.inr rfl
theorem zx_dullTotal (hV : zVT n par wt ans) (hQ : zVQ pt) {gu : Nat → Nat → Nat} (hB : zBE np hd cm sr gu) {R : zM} (hE : zCE T R P n par wt ans np ad hd kn cm sr pt) : xX6_dullTotal T R = some (lI (zSm (zsv n ans (ztm n par wt) (zrun par np hd cm sr pt (zwlen par) ans gu) 3 0) n)) := by
  have hn := hV.2.1
  have hnp := hB.1
  unfold xX6_dullTotal
  rw [zfor (r := nI (zop (· ||| ·) 0 cm np)) (fun c => (nI (zop (· ||| ·) 0 cm c), nI c)) 0 np (Nat.zero_le _) (by omega) ?_ ?_ ?_]
  · rw [Option.bind_some]
    have hpr : zop (· ||| ·) 0 cm np < 2 ^ 24 := zor_lt (fun p hp => (hB.2 p hp).2.1)
    rw [zfor (r := lI (zSm (zsv n ans (ztm n par wt) (zrun par np hd cm sr pt (zwlen par) ans gu) 3 0) n)) (fun c => (lI (zSm (zsv n ans (ztm n par wt) (zrun par np hd cm sr pt (zwlen par) ans gu) 3 0) (if c ≤ n then c else n)), nI c)) 1 24 (by decide) (by decide) ?_ ?_ ?_]
    · rfl
    · rw [if_pos hV.1, zSm_s, show zsv n ans (ztm n par wt) (zrun par np hd cm sr pt (zwlen par) ans gu) 3 0 0 = 0 from if_pos hV.2.2.2]
      rfl
    · intro c h1 h2
      have go : ¬ (24 : Int32) ≤ nI c := by rw [zl24, nI_leI (by omega) (by omega)]; omega
      rcases Nat.lt_or_ge c n with hc | hc
      · have hwy := zx_wayTo hn hE.1 hc
        have hie := zx_isEnd hV hE.1.1 hc
        have htm := zx_timesOf hn hE.1 hc
        rw [if_pos (show c ≤ n by omega), if_pos (show c + 1 ≤ n by omega)]
        simp only [xX6_dullTotal_L37, zlet]
        rw [if_neg go, hwy, Option.bind_some, hie, Option.bind_some, zSm_s]
        by_cases q : ans c = 0
        · rw [if_pos q, if_pos rfl, show zsv n ans (ztm n par wt) (zrun par np hd cm sr pt (zwlen par) ans gu) 3 0 c = 0 from if_pos q, Int.add_zero, nI_1]
        · rw [if_neg q, if_neg (by decide), zshl c (by omega), show (-1 : Int32) = nI (2 ^ 32 - 1) by decide, zxor, zand, zand]
          have hwl := zwy_lt hV c c (Nat.le_refl _) hc
          have hlt : zwy par c &&& (2 ^ c ^^^ (2 ^ 32 - 1)) &&& zop (· ||| ·) 0 cm np < 2 ^ 31 := Nat.lt_of_le_of_lt Nat.and_le_right (by omega)
          rw [zif (nI_eq0 hlt)]
          have key : (zwy par c &&& (2 ^ c ^^^ (2 ^ 32 - 1)) &&& zop (· ||| ·) 0 cm np = 0) ↔ ((zrun par np hd cm sr pt (zwlen par) ans gu c).2.1.map (fun x => x.2) = none ∨ (zrun par np hd cm sr pt (zwlen par) ans gu c).2.1.map (fun x => x.2) = some c) := by
            rw [zrun_dull hV hQ hnp h1 hc]
            have hpc := (hV.2.2.1 c h1 hc).1
            have tb : ∀ u, (zwy par c &&& (2 ^ c ^^^ (2 ^ 32 - 1)) &&& zop (· ||| ·) 0 cm np).testBit u = ((decide (0 < u) && zbe par c u) && ((decide (c = u)) ^^ decide (u < 32)) && (zop (· ||| ·) 0 cm np).testBit u) := by
              intro u
              rw [Nat.testBit_and, Nat.testBit_and, zwy_test hV c c (Nat.le_refl _) hc, Nat.testBit_xor, Nat.testBit_two_pow, Nat.testBit_two_pow_sub_one]
            refine ⟨fun z u hu hz p hp => ?_, fun z => Nat.eq_of_testBit_eq fun u => ?_⟩
            · have hul := zbe_le hV (par c) (par c) u (Nat.le_refl _) (by omega) hz
              have t := tb u
              rw [z, Nat.zero_testBit, zbe_s hV h1 hc, hz, Bool.or_true, decide_eq_true hu, decide_eq_false (show ¬ c = u by omega), decide_eq_true (show u < 32 by omega)] at t
              cases hb : (cm p).testBit u with
              | false => rfl
              | true =>
                have := (zor_test (f := cm) (a := u) (n := np)).mpr ⟨p, hp, hb⟩
                rw [this] at t
                cases t
            · rw [tb, Nat.zero_testBit]
              by_cases hu : 0 < u
              · by_cases hz : zbe par c u = true
                · by_cases hcu : c = u
                  · have : u < 32 := by omega
                    rw [decide_eq_true hcu, decide_eq_true this]
                    simp
                  · rw [zbe_s hV h1 hc, beq_eq_false_iff_ne.mpr hcu, Bool.false_or] at hz
                    have hoff : (zop (· ||| ·) 0 cm np).testBit u = false := by
                      cases hb : (zop (· ||| ·) 0 cm np).testBit u with
                      | false => rfl
                      | true =>
                        obtain ⟨p, hp, hb2⟩ := zor_test.mp hb
                        rw [z u hu hz p hp] at hb2
                        cases hb2
                    rw [hoff, Bool.and_false]
                · have : zbe par c u = false := by simpa using hz
                  rw [this, Bool.and_false]
                  rfl
              · rw [decide_eq_false hu]
                rfl
          have ev : zsv n ans (ztm n par wt) (zrun par np hd cm sr pt (zwlen par) ans gu) 3 0 c = (ztm n par wt c : Int) * zvl 3 0 (zrun par np hd cm sr pt (zwlen par) ans gu c) c := if_neg q
          rw [ev, zvl3]
          by_cases r : zwy par c &&& (2 ^ c ^^^ (2 ^ 32 - 1)) &&& zop (· ||| ·) 0 cm np = 0
          · rw [if_pos r, if_pos (key.mp r), htm, Option.bind_some, Int.mul_one, lN_lI, lI_add, nI_1]
          · rw [if_neg r, if_neg (fun z => r (key.mpr z)), Int.mul_zero, Int.add_zero, nI_1]
      · have hie := zx_isEndn hn hE.1.1.1 (v := nI c) (Or.inr (nI_le hc (by omega)))
        have hwy : xX10_wayTo T (nI c) = some 0 := by
          unfold xX10_wayTo
          rw [zx_hasnt hn hE.1.1.1 (v := nI c) (Or.inr (nI_le hc (by omega))), Option.bind_some, if_pos rfl]
        simp only [xX6_dullTotal_L37, zlet]
        rw [if_neg go, hwy, Option.bind_some, hie, Option.bind_some, if_pos rfl, nI_1, if_neg (show ¬ c + 1 ≤ n by omega)]
        by_cases q : c ≤ n
        · rw [if_pos q, show c = n by omega]
        · rw [if_neg q]
    · simp only [xX6_dullTotal_L37]
      rw [if_pos (by decide)]
      by_cases q : 24 ≤ n
      · rw [if_pos q, show 24 = n by omega]
      · rw [if_neg q]
  · rfl
  · intro c h1 h2
    obtain ⟨b1, -⟩ := hE.2.2.2 c h2
    have es : zop (· ||| ·) 0 cm (c + 1) = zop (· ||| ·) 0 cm c ||| cm c := rfl
    rw [es]
    simp (disch := first | assumption | omega) only [zlet, nI_leI, nI_ltI, nI_eq, nI_eq0, nI_clamp, nI_neg0, nI_add, nI_1, false_or, or_false, if_pos, if_neg, Int32.add_zero, Nat.add_zero, Option.bind_some, if_true, if_false, and_true, true_and, and_false, false_and, nI_10, nI_mul, zl2, zl3, zl4, zl5, zl6, zl8, zl9, zl20, zl24, zor0, zsi_g, zsj_g, zsi_2, zsj_1, xX6_dullTotal_L4, hE.2.2.1, b1, zor]
  · by_cases hh : np = 4
    · subst hh
      simp (disch := first | assumption | omega) only [zlet, nI_leI, nI_ltI, nI_eq, nI_eq0, nI_clamp, nI_neg0, nI_add, nI_1, false_or, or_false, if_pos, if_neg, Int32.add_zero, Nat.add_zero, Option.bind_some, if_true, if_false, and_true, true_and, and_false, false_and, nI_10, nI_mul, zl2, zl3, zl4, zl5, zl6, zl8, zl9, zl20, zl24, zor0, zsi_g, zsj_g, zsi_2, zsj_1, xX6_dullTotal_L4]
    · simp (disch := first | assumption | omega) only [zlet, nI_leI, nI_ltI, nI_eq, nI_eq0, nI_clamp, nI_neg0, nI_add, nI_1, false_or, or_false, if_pos, if_neg, Int32.add_zero, Nat.add_zero, Option.bind_some, if_true, if_false, and_true, true_and, and_false, false_and, nI_10, nI_mul, zl2, zl3, zl4, zl5, zl6, zl8, zl9, zl20, zl24, zor0, zsi_g, zsj_g, zsi_2, zsj_1, xX6_dullTotal_L4, hE.2.2.1]
end
