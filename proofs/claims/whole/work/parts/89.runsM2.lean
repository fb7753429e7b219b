/-! a whole run, by the reference -/
section
variable {n : Nat} {par wt ans : Nat → Nat} {np : Nat} {hd cm sr pt : Nat → Nat} {gu : Nat → Nat → Nat} {e w : Nat} {S : zRst}
theorem zbe_tot (hV : zVT n par wt ans) {u v : Nat} : ∀ (k e : Nat), e ≤ k → e < n → zbe par e u = true → zbe par e v = true → zbe par u v = true ∨ zbe par v u = true
  | 0, e, h1, h2, a, b => by
    obtain rfl : e = 0 := by omega
    have := zbe_le hV 0 0 u (Nat.le_refl _) h2 a
    have := zbe_le hV 0 0 v (Nat.le_refl _) h2 b
    obtain rfl : u = 0 := by omega
    obtain rfl : v = 0 := by omega
    exact Or.inl zbe_self
  | k + 1, e, h1, h2, a, b => by
    rcases Nat.eq_zero_or_pos e with rfl | g
    · exact zbe_tot hV k 0 (by omega) h2 a b
    · have hp := (hV.2.2.1 e g h2).1
      by_cases q : e = u
      · subst q
        exact Or.inl b
      · by_cases r : e = v
        · subst r
          exact Or.inr a
        · rw [zbe_s hV g h2, beq_eq_false_iff_ne.mpr q, Bool.false_or] at a
          rw [zbe_s hV g h2, beq_eq_false_iff_ne.mpr r, Bool.false_or] at b
          exact zbe_tot hV k (par e) (by omega) (by omega) a b
theorem zlen_lt (hV : zVT n par wt ans) {u v : Nat} (hv : v < n) (h : zbe par v u = true) (hne : v ≠ u) : zwlen par u < zwlen par v := by
  rcases Nat.eq_zero_or_pos v with rfl | g
  · have := zbe_le hV 0 0 u (Nat.le_refl _) hv h
    omega
  · have hp := (hV.2.2.1 v g hv).1
    rw [zbe_s hV g hv, beq_eq_false_iff_ne.mpr hne, Bool.false_or] at h
    have := zlen_up hV (par v) (par v) u (Nat.le_refl _) (by omega) h
    rw [zlen_s hV g hv]
    omega
/-- the next word on the way -/
theorem znext (hV : zVT n par wt ans) {u : Nat} : ∀ (k e : Nat), e ≤ k → e < n → zbe par e u = true → e ≠ u → ∃ v, 0 < v ∧ v < n ∧ par v = u ∧ zbe par e v = true
  | 0, e, h1, h2, a, b => by
    obtain rfl : e = 0 := by omega
    have := zbe_le hV 0 0 u (Nat.le_refl _) h2 a
    omega
  | k + 1, e, h1, h2, a, b => by
    rcases Nat.eq_zero_or_pos e with rfl | g
    · exact znext hV k 0 (by omega) h2 a b
    · have hp := (hV.2.2.1 e g h2).1
      rw [zbe_s hV g h2, beq_eq_false_iff_ne.mpr b, Bool.false_or] at a
      by_cases q : par e = u
      · exact ⟨e, g, h2, q, zbe_self⟩
      · obtain ⟨v, v1, v2, v3, v4⟩ := znext hV k (par e) (by omega) (by omega) a q
        exact ⟨v, v1, v2, v3, by rw [zbe_s hV g h2, v4, Bool.or_true]⟩
theorem zbe_lt (hV : zVT n par wt ans) (he : e < n) (h : zbe par e w = true) : w < n := by
  have := zbe_le hV e e w (Nat.le_refl _) he h
  omega
/-- once over, nothing changes -/
theorem zrn_over (hV : zVT n par wt ans) {v : Nat} (ho : (zrn par np hd cm sr pt (zwlen par) ans gu e v).2.2.2.2.1 = true) : ∀ (k x : Nat), x ≤ k → x < n → zbe par x v = true → zrn par np hd cm sr pt (zwlen par) ans gu e x = zrn par np hd cm sr pt (zwlen par) ans gu e v
  | 0, x, h1, h2, h3 => by
    obtain rfl : x = 0 := by omega
    have := zbe_le hV 0 0 v (Nat.le_refl _) h2 h3
    obtain rfl : v = 0 := by omega
    rfl
  | k + 1, x, h1, h2, h3 => by
    rcases Nat.eq_zero_or_pos x with rfl | g
    · exact zrn_over hV ho k 0 (by omega) h2 h3
    · by_cases q : x = v
      · rw [q]
      · have hp := (hV.2.2.1 x g h2).1
        rw [zbe_s hV g h2, beq_eq_false_iff_ne.mpr q, Bool.false_or] at h3
        rw [zrn_s hV g h2, zrn_over hV ho k (par x) (by omega) (by omega) h3, zan_fix (Or.inl ho)]
theorem zrun_over (hV : zVT n par wt ans) (h0 : 0 < e) (he : e < n) {v : Nat} (hv : zbe par e v = true) (ho : (zrn par np hd cm sr pt (zwlen par) ans gu e v).2.2.2.2.1 = true) : zrun par np hd cm sr pt (zwlen par) ans gu e = zrn par np hd cm sr pt (zwlen par) ans gu e v := by
  have h1 := zrn_over hV ho e e (Nat.le_refl _) he hv
  have h2 : zitn (zan np hd cm sr pt (zwlen par) ans gu e e) 1 (zrn par np hd cm sr pt (zwlen par) ans gu e (par e)) = zrn par np hd cm sr pt (zwlen par) ans gu e v := by
    rw [← h1, zrn_s hV h0 he]
    rfl
  have h3 := zit_still (np := np) (hd := hd) (cm := cm) (sr := sr) (pt := pt) (len := zwlen par) (ans := ans) (gu := gu) (e := e) (w := e) (k := 1) (S := zrn par np hd cm sr pt (zwlen par) ans gu e (par e)) (Or.inl (by rw [h2]; exact ho)) 3
  unfold zrun
  exact h3.trans h2
theorem zx_way (hV : zVT n par wt ans) {M : zM} (hR : zRT M n par wt ans) (hL : zRL M n par) (he : e < n) : zok (x_it (fun a9 => xX12_runs_L49 (nI e) a9.1 a9.2) zFU (M, nI e)) (fun r => (∀ v, 0 < v → zbe par e v = true → r.1 26 (zwlen par v) = nI v) ∧ (∀ j k, j ≠ 26 → r.1 j k = M.1 j k) ∧ r.2 = M.2) := by
  have hn := hV.2.1
  refine zok_it (fun u z => z.2 = nI u ∧ u < n ∧ zbe par e u = true ∧ (∀ v, 0 < v → zbe par e v = true → zbe par u v = false → z.1.1 26 (zwlen par v) = nI v) ∧ (∀ j k, j ≠ 26 → z.1.1 j k = M.1 j k) ∧ z.1.2 = M.2) e ⟨rfl, he, zbe_self, fun v h1 h2 h3 => (by rw [h2] at h3; cases h3), fun _ _ _ => rfl, rfl⟩ (by omega) ?_
  rintro u ⟨A, i⟩ ⟨e0, e1, e2, e3, e4, e5⟩
  try dsimp only at e0 e3 e4 e5
  subst e0
  rcases Nat.eq_zero_or_pos u with rfl | g
  · refine ⟨.inr A, ?_, Or.inr ⟨A, rfl, fun v h1 h2 => e3 v h1 h2 ?_, e4, e5⟩⟩
    · simp (disch := first | assumption | omega) only [zlet, nI_leI, nI_ltI, nI_eq, nI_eq0, nI_clamp, nI_neg0, nI_add, nI_1, false_or, or_false, if_pos, if_neg, Int32.add_zero, Nat.add_zero, Option.bind_some, if_true, if_false, and_true, true_and, and_false, false_and, nI_10, nI_mul, zl2, zl3, zl4, zl5, zl6, zl8, zl9, zl20, zl24, zor0, zsi_g, zsj_g, zsi_2, zsj_1, xX12_runs_L49, nI_le0]
    · rw [zbe_0]
      exact beq_eq_false_iff_ne.mpr (by omega)
  · have hp := (hV.2.2.1 u g e1).1
    have l1 : A.1 5 u = nI (zwlen par u) := (e4 5 u (by decide)).trans (hL u e1)
    have t1 : A.1 2 u = nI (par u) := (e4 2 u (by decide)).trans (hR.2 u e1).1
    have hlu := zlen_le hV u u (Nat.le_refl _) e1
    refine ⟨.inl (zsi A 26 (zwlen par u) (nI u), nI (par u)), ?_, Or.inl ⟨_, par u, rfl, hp, rfl, by omega, zbe_up hV e e u (Nat.le_refl _) he g e2, fun v h1 h2 h3 => ?_, fun j k h => ?_, e5⟩⟩
    · simp (disch := first | assumption | omega) only [zlet, nI_leI, nI_ltI, nI_eq, nI_eq0, nI_clamp, nI_neg0, nI_add, nI_1, false_or, or_false, if_pos, if_neg, Int32.add_zero, Nat.add_zero, Option.bind_some, if_true, if_false, and_true, true_and, and_false, false_and, nI_10, nI_mul, zl2, zl3, zl4, zl5, zl6, zl8, zl9, zl20, zl24, zor0, zsi_g, zsj_g, zsi_2, zsj_1, xX12_runs_L49, nI_le0, l1, t1]
    · by_cases q : v = u
      · rw [q]
        show (zsi A 26 (zwlen par u) (nI u)).1 26 (zwlen par u) = _
        rw [zsi_y ⟨rfl, rfl⟩]
      · have hv := zbe_lt hV he h2
        have h4 : zbe par u v = false := by
          rw [zbe_s hV g e1, h3, beq_eq_false_iff_ne.mpr (fun z => q z.symm)]
          rfl
        have h5 : zbe par v u = true := by
          rcases zbe_tot hV e e (Nat.le_refl _) he e2 h2 with z | z
          · rw [h4] at z; cases z
          · exact z
        have h6 := zlen_lt hV hv h5 q
        show (zsi A 26 (zwlen par u) (nI u)).1 26 (zwlen par v) = _
        rw [zsi_ne (by omega)]
        exact e3 v h1 h2 h4
    · show (zsi A 26 (zwlen par u) (nI u)).1 j k = _
      rw [zsi_ne (fun z => h z.1)]
      exact e4 j k h
theorem zx_runs (hV : zVT n par wt ans) (hQ : zVQ pt) (hB : zBE np hd cm sr gu) {M : zM} (hE : zRE M n par wt ans np hd cm sr pt gu) (h0 : 0 < e) (he : e < n) : zok (xX12_runs M (nI e)) (fun r => zRS r (zrun par np hd cm sr pt (zwlen par) ans gu e) ∧ zfrM M r) := by
  have hn := hV.2.1
  have hnp := hB.1
  have hle := zlen_le hV e e (Nat.le_refl _) he
  unfold xX12_runs
  refine zok_let (zok_let (zok_let (zok_let (zok_let (zok_bind ?_)))))
  refine (zok_for (fun c (z : zM × Int32) => z.2 = nI c ∧ (z.1.1 0 34 = -9 ∧ z.1.1 0 35 = -9 ∧ z.1.1 0 36 = -1 ∧ z.1.1 0 37 = 0 ∧ z.1.1 0 38 = 0) ∧ (∀ p, p < c → z.1.1 27 p = 0) ∧ zfrM M z.1) 0 4 (by decide) (by decide) ⟨rfl, ⟨?_, ?_, ?_, ?_, ?_⟩, fun p h => absurd h (Nat.not_lt_zero _), ⟨fun j k g1 g2 g3 => ?_, rfl⟩⟩ ?_ ?_ (P := fun r => zRS r zS0 ∧ zfrM M r)).imp ?_
  · simp (disch := first | assumption | omega) only [zlet, nI_leI, nI_ltI, nI_eq, nI_eq0, nI_clamp, nI_neg0, nI_add, nI_1, false_or, or_false, if_pos, if_neg, Int32.add_zero, Nat.add_zero, Option.bind_some, if_true, if_false, and_true, true_and, and_false, false_and, nI_10, nI_mul, zl2, zl3, zl4, zl5, zl6, zl8, zl9, zl20, zl24, zor0, zsi_g, zsj_g, zsi_2, zsj_1]
  · simp (disch := first | assumption | omega) only [zlet, nI_leI, nI_ltI, nI_eq, nI_eq0, nI_clamp, nI_neg0, nI_add, nI_1, false_or, or_false, if_pos, if_neg, Int32.add_zero, Nat.add_zero, Option.bind_some, if_true, if_false, and_true, true_and, and_false, false_and, nI_10, nI_mul, zl2, zl3, zl4, zl5, zl6, zl8, zl9, zl20, zl24, zor0, zsi_g, zsj_g, zsi_2, zsj_1]
  · simp (disch := first | assumption | omega) only [zlet, nI_leI, nI_ltI, nI_eq, nI_eq0, nI_clamp, nI_neg0, nI_add, nI_1, false_or, or_false, if_pos, if_neg, Int32.add_zero, Nat.add_zero, Option.bind_some, if_true, if_false, and_true, true_and, and_false, false_and, nI_10, nI_mul, zl2, zl3, zl4, zl5, zl6, zl8, zl9, zl20, zl24, zor0, zsi_g, zsj_g, zsi_2, zsj_1]
  · simp (disch := first | assumption | omega) only [zlet, nI_leI, nI_ltI, nI_eq, nI_eq0, nI_clamp, nI_neg0, nI_add, nI_1, false_or, or_false, if_pos, if_neg, Int32.add_zero, Nat.add_zero, Option.bind_some, if_true, if_false, and_true, true_and, and_false, false_and, nI_10, nI_mul, zl2, zl3, zl4, zl5, zl6, zl8, zl9, zl20, zl24, zor0, zsi_g, zsj_g, zsi_2, zsj_1]
  · simp (disch := first | assumption | omega) only [zlet, nI_leI, nI_ltI, nI_eq, nI_eq0, nI_clamp, nI_neg0, nI_add, nI_1, false_or, or_false, if_pos, if_neg, Int32.add_zero, Nat.add_zero, Option.bind_some, if_true, if_false, and_true, true_and, and_false, false_and, nI_10, nI_mul, zl2, zl3, zl4, zl5, zl6, zl8, zl9, zl20, zl24, zor0, zsi_g, zsj_g, zsi_2, zsj_1]
  · rw [zsi_ne (by omega), zsi_ne (by omega), zsi_ne (by omega), zsi_ne (by omega), zsi_ne (by omega)]
  · rintro c ⟨A, i⟩ h1 h2 ⟨e0, ⟨e1, e2, e3, e4, e5⟩, e6, e7⟩
    try dsimp only at e0 e1 e2 e3 e4 e5 e6 e7
    subst e0
    refine ⟨.inl (zsi A 27 c 0, nI (c + 1)), ?_, _, rfl, rfl, ⟨?_, ?_, ?_, ?_, ?_⟩, fun p hp => ?_, zfrM_t e7 ⟨fun j k g1 g2 g3 => ?_, rfl⟩⟩
    · simp (disch := first | assumption | omega) only [zlet, nI_leI, nI_ltI, nI_eq, nI_eq0, nI_clamp, nI_neg0, nI_add, nI_1, false_or, or_false, if_pos, if_neg, Int32.add_zero, Nat.add_zero, Option.bind_some, if_true, if_false, and_true, true_and, and_false, false_and, nI_10, nI_mul, zl2, zl3, zl4, zl5, zl6, zl8, zl9, zl20, zl24, zor0, zsi_g, zsj_g, zsi_2, zsj_1, xX12_runs_L29]
    · show (zsi A 27 c 0).1 0 34 = _
      rw [zsi_ne (by omega)]; exact e1
    · show (zsi A 27 c 0).1 0 35 = _
      rw [zsi_ne (by omega)]; exact e2
    · show (zsi A 27 c 0).1 0 36 = _
      rw [zsi_ne (by omega)]; exact e3
    · show (zsi A 27 c 0).1 0 37 = _
      rw [zsi_ne (by omega)]; exact e4
    · show (zsi A 27 c 0).1 0 38 = _
      rw [zsi_ne (by omega)]; exact e5
    · show (zsi A 27 c 0).1 27 p = _
      by_cases g : p = c
      · rw [zsi_y ⟨rfl, g⟩]
      · rw [zsi_ne (fun z => g z.2)]
        exact e6 p (by omega)
    · show (zsi A 27 c 0).1 j k = _
      rw [zsi_ne (fun z => g2 z.1)]
  · rintro ⟨A, i⟩ ⟨e0, ⟨e1, e2, e3, e4, e5⟩, e6, e7⟩
    try dsimp only at e0 e1 e2 e3 e4 e5 e6 e7
    subst e0
    refine ⟨.inr A, ?_, A, rfl, ⟨e1, e2, e3, e4, e5, fun p hp => ?_⟩, e7⟩
    · simp (disch := first | assumption | omega) only [zlet, nI_leI, nI_ltI, nI_eq, nI_eq0, nI_clamp, nI_neg0, nI_add, nI_1, false_or, or_false, if_pos, if_neg, Int32.add_zero, Nat.add_zero, Option.bind_some, if_true, if_false, and_true, true_and, and_false, false_and, nI_10, nI_mul, zl2, zl3, zl4, zl5, zl6, zl8, zl9, zl20, zl24, zor0, zsi_g, zsj_g, zsi_2, zsj_1, xX12_runs_L29]
    · rw [e6 p hp]
      rfl
  rintro A ⟨a1, a2⟩
  refine zok_bind ?_
  have hEA := zRE_f hE a2
  refine (zx_way hV hEA.1 hEA.2.1 he).imp ?_
  rintro B ⟨b1, b2, b3⟩
  have fB : zfrM M B := zfrM_t a2 ⟨fun j k g1 _ _ => b2 j k g1, b3⟩
  have sB : zRS B zS0 := by
    obtain ⟨c1, c2, c3, c4, c5, c6⟩ := a1
    refine ⟨?_, ?_, ?_, ?_, ?_, fun p hp => ?_⟩
    · rw [b2 _ _ (by decide)]; exact c1
    · rw [b2 _ _ (by decide)]; exact c2
    · rw [b2 _ _ (by decide)]; exact c3
    · rw [b2 _ _ (by decide)]; exact c4
    · rw [b2 _ _ (by decide)]; exact c5
    · rw [b2 _ _ (by decide)]; exact c6 p hp
  refine zok_bind ?_
  -- word by word
  refine zok_forx (fun k (z : zM × Int32) => z.2 = nI k ∧ ∃ u, zbe par e u = true ∧ zwlen par u + 1 = k ∧ zRS z.1 (zrn par np hd cm sr pt (zwlen par) ans gu e u) ∧ (zrn par np hd cm sr pt (zwlen par) ans gu e u).2.2.2.2.1 = false ∧ zfrM M z.1 ∧ z.1.1 26 = B.1 26) 1 (zwlen par e + 1) (by omega) (by omega) ⟨rfl, 0, zbe_root hV e e (Nat.le_refl _) he, rfl, sB, rfl, fB, rfl⟩ ?_ ?_
  · rintro k ⟨A, i⟩ h1 h2 ⟨e0, u, u1, u2, u3, u4, u5, u6⟩
    try dsimp only at e0 u3 u5 u6
    subst e0
    have hun := zbe_lt hV he u1
    have hue : e ≠ u := by rintro rfl; omega
    obtain ⟨v, v1, v2, v3, v4⟩ := znext hV e e (Nat.le_refl _) he u1 hue
    have lv : zwlen par v = k := by
      have := zlen_s hV v1 v2
      rw [v3] at this
      omega
    have hway : A.1 26 k = nI v := by
      rw [u6, ← lv]
      exact b1 v v1 v4
    have hEA := zRE_f hE u5
    have lE : A.1 5 e = nI (zwlen par e) := hEA.2.1 e he
    have hWS := zWS_rn (np := np) (hd := hd) (cm := cm) (sr := sr) (gu := gu) hV hQ hnp he u u (Nat.le_refl _) hun u1
    have ha := zx_answers hB hEA (w := v) (by omega) hWS u3.2.2.2.1 u3.2.2.2.2.1
    have es : zrn par np hd cm sr pt (zwlen par) ans gu e v = zan np hd cm sr pt (zwlen par) ans gu e v (zrn par np hd cm sr pt (zwlen par) ans gu e u) := by
      rw [zrn_s hV v1 v2, v3]
    have hk24 : k < 24 := by
      have := zlen_up hV e e v (Nat.le_refl _) he v4
      have := zlen_le hV e e (Nat.le_refl _) he
      omega
    cases hw : zwho np hd cm sr (zrn par np hd cm sr pt (zwlen par) ans gu e u) v with
    | none =>
      rw [hw] at ha
      rw [zan_fix (Or.inr hw)] at es
      refine ⟨.inl (A, nI (k + 1)), ?_, Or.inl ⟨_, rfl, rfl, v, v4, by omega, by rw [es]; exact u3, by rw [es]; exact u4, u5, u6⟩⟩
      simp only [xX12_runs_L77]
      rw [if_neg (nI_in (by omega) (by decide)), nI_clamp (by omega), lE, if_neg (by rw [nI_ltI (by omega) (by omega)]; omega), if_neg (nI_in (by omega) (by decide)), nI_clamp (by omega), hway, ha, Option.bind_some, if_pos (show zo (-1) none < 0 by decide), nI_1]
    | some p =>
      rw [hw] at ha
      obtain ⟨A', hA', r1, r2⟩ := zx_isOver hV hQ hB hEA v2 he hWS u3 u4 hw
      have es2 : zrn par np hd cm sr pt (zwlen par) ans gu e v = zaw pt (zwlen par) ans gu e v (zrn par np hd cm sr pt (zwlen par) ans gu e u) p := by
        rw [es, zan_some u4 hw]
      rw [← es2] at hA' r1
      have hp4 : p < np := (zwho_lt hw).1
      have r26 : A'.1 26 = B.1 26 ∨ True := Or.inr trivial
      have run1 : ∀ x : Int32 × zM, xX12_isOver A (nI p) (nI v) (nI e) = some x → xX12_runs_L77 (nI e) A (nI k) = (if x.1 = 0 then some (.inl (x.2, nI (k + 1))) else some (.inr (.inl x.2))) := by
        intro x hx
        simp only [xX12_runs_L77]
        rw [if_neg (nI_in (by omega) (by decide)), nI_clamp (by omega), lE, if_neg (by rw [nI_ltI (by omega) (by omega)]; omega), if_neg (nI_in (by omega) (by decide)), nI_clamp (by omega), hway, ha, Option.bind_some, if_neg (show ¬ zo (-1) (some p) < 0 from nI_pos (by omega)), show zo (-1) (some p) = nI p from rfl, hx, Option.bind_some, nI_1]
      have run2 := run1 _ hA'
      by_cases ov : (zrn par np hd cm sr pt (zwlen par) ans gu e v).2.2.2.2.1 = true
      · rw [if_pos ov, if_neg (show ¬ (1 : Int32) = 0 by decide)] at run2
        refine ⟨.inr (.inl A'), run2, Or.inr ⟨_, rfl, zok_some ⟨?_, zfrM_t u5 r2⟩⟩⟩
        rw [zrun_over hV h0 he v4 ov]
        exact r1
      · rw [if_neg ov, if_pos rfl] at run2
        refine ⟨.inl (A', nI (k + 1)), run2, Or.inl ⟨_, rfl, rfl, v, v4, by omega, r1, by simpa using ov, zfrM_t u5 r2, ?_⟩⟩
        -- the way's row stays
        have hO : ∀ x : Int32 × zM, xX12_isOver A (nI p) (nI v) (nI e) = some x → x.2.1 26 = A.1 26 := by
          intro x hx
          have hb : ∀ (C : zM) (y : Int32 × zM), xX12_isOver_b17 C (nI p) (nI v) (nI e) = some y → y.2.1 26 = C.1 26 := by
            intro C y hy
            unfold xX12_isOver_b17 at hy
            simp only [zlet] at hy
            split at hy
            · cases hy
            · split at hy
              · cases hy
              · split at hy
                · split at hy
                  · cases hy
                  · split at hy
                    · cases hy
                    · cases hy
                      rfl
                · split at hy
                  · cases hy
                  · split at hy <;> cases hy <;> rfl
          unfold xX12_isOver at hx
          split at hx
          · exact hb A x hx
          · exact (hb _ x hx).trans rfl
        exact (hO _ hA').trans u6
  · rintro ⟨A, i⟩ ⟨e0, u, u1, u2, u3, u4, u5, u6⟩
    try dsimp only at e0 u3 u5 u6
    subst e0
    have hun := zbe_lt hV he u1
    obtain rfl : u = e := by
      by_cases q : e = u
      · exact q.symm
      · have := zlen_lt hV he u1 q
        omega
    have hEA := zRE_f hE u5
    have lE : A.1 5 u = nI (zwlen par u) := hEA.2.1 u he
    have hX := zWS_rn (np := np) (hd := hd) (cm := cm) (sr := sr) (gu := gu) hV hQ hnp he (par u) (par u) (Nat.le_refl _) (by have := (hV.2.2.1 u h0 he).1; omega) (zbe_up hV u u u (Nat.le_refl _) he h0 zbe_self)
    have e1 : zrn par np hd cm sr pt (zwlen par) ans gu u u = zitn (zan np hd cm sr pt (zwlen par) ans gu u u) 1 (zrn par np hd cm sr pt (zwlen par) ans gu u (par u)) := by
      rw [zrn_s hV h0 he]
      rfl
    rw [e1] at u3 u4
    generalize hXd : zrn par np hd cm sr pt (zwlen par) ans gu u (par u) = X at hX u3 u4
    have hrun : zrun par np hd cm sr pt (zwlen par) ans gu u = zitn (zan np hd cm sr pt (zwlen par) ans gu u u) 4 X := by
      unfold zrun
      rw [hXd]
    refine ⟨.inr (.inr A), ?_, _, rfl, ?_⟩
    · simp only [xX12_runs_L77]
      rw [if_neg (nI_in (by omega) (by decide)), nI_clamp (by omega), lE, if_pos (nI_lt (by omega) (by omega))]
    · have hWS := fun k => zWS_it (np := np) (hd := hd) (cm := cm) (sr := sr) (ans := ans) (gu := gu) hQ hnp (show zwlen par u ≤ 24 by omega) (Nat.le_refl _) (show u < 24 by omega) hX k
      have ha := fun (C : zM) (hC : zfrM M C) k (hs : zRS C (zitn (zan np hd cm sr pt (zwlen par) ans gu u u) k X)) => zx_answers hB (zRE_f hE hC) (w := u) (by omega) (hWS k) hs.2.2.2.1 hs.2.2.2.2.1
      refine zok_eb (ha A u5 1 u3) ?_
      refine zok_bind ?_
      refine zok_it (fun m (z : zM × Int32) => ∃ k, m + k = 6 ∧ 1 ≤ k ∧ zRS z.1 (zitn (zan np hd cm sr pt (zwlen par) ans gu u u) k X) ∧ (zitn (zan np hd cm sr pt (zwlen par) ans gu u u) k X).2.2.2.2.1 = false ∧ z.2 = zo (-1) (zwho np hd cm sr (zitn (zan np hd cm sr pt (zwlen par) ans gu u u) k X) u) ∧ zfrM M z.1) 5 ⟨1, rfl, Nat.le_refl _, u3, u4, rfl, u5⟩ (by decide) ?_
      rintro m ⟨C, i⟩ ⟨k, k1, k2, k3, k4, k5, k6⟩
      try dsimp only at k3 k5 k6
      subst k5
      cases hw : zwho np hd cm sr (zitn (zan np hd cm sr pt (zwlen par) ans gu u u) k X) u with
      | none =>
        refine ⟨.inr (.inr C), ?_, Or.inr ⟨_, rfl, zok_some ⟨?_, k6⟩⟩⟩
        · simp only [xX12_runs_L133]
          rw [if_pos (show zo (-1) none < 0 by decide)]
        · rw [hrun, ← zit_4 (k := k) hX hQ hnp (by omega) (by omega) (Or.inr hw)]
          exact k3
      | some p =>
        have hp4 : p < np := (zwho_lt hw).1
        obtain ⟨C', hC', r1, r2⟩ := zx_isOver hV hQ hB (zRE_f hE k6) he he (hWS k) k3 k4 hw
        have es2 : zitn (zan np hd cm sr pt (zwlen par) ans gu u u) (k + 1) X = zaw pt (zwlen par) ans gu u u (zitn (zan np hd cm sr pt (zwlen par) ans gu u u) k X) p := by
          exact zan_some k4 hw
        rw [← es2] at hC' r1
        have hk5 : k < 4 := by
          rcases Nat.lt_or_ge k 4 with g | g
          · exact g
          · rcases zit_who (np := np) (hd := hd) (cm := cm) (sr := sr) (pt := pt) (len := zwlen par) (ans := ans) (gu := gu) (e := u) hX hQ hnp (by omega) (by omega) g with z | z
            · rw [k4] at z; cases z
            · rw [hw] at z; cases z
        by_cases ov : (zitn (zan np hd cm sr pt (zwlen par) ans gu u u) (k + 1) X).2.2.2.2.1 = true
        · refine ⟨.inr (.inl C'), ?_, Or.inr ⟨_, rfl, zok_some ⟨?_, zfrM_t k6 r2⟩⟩⟩
          · simp only [xX12_runs_L133]
            rw [if_neg (show ¬ zo (-1) (some p) < 0 from nI_pos (by omega)), show zo (-1) (some p) = nI p from rfl, hC', Option.bind_some, if_pos ov, if_neg (show ¬ (1 : Int32) = 0 by decide)]
          · rw [hrun, ← zit_4 (k := k + 1) hX hQ hnp (by omega) (by omega) (Or.inl ov)]
            exact r1
        · have ha2 := ha C' (zfrM_t k6 r2) (k + 1) r1
          refine ⟨.inl (C', zo (-1) (zwho np hd cm sr (zitn (zan np hd cm sr pt (zwlen par) ans gu u u) (k + 1) X) u)), ?_, Or.inl ⟨_, m - 1, rfl, by omega, k + 1, by omega, by omega, r1, by simpa using ov, rfl, zfrM_t k6 r2⟩⟩
          simp only [xX12_runs_L133]
          rw [if_neg (show ¬ zo (-1) (some p) < 0 from nI_pos (by omega)), show zo (-1) (some p) = nI p from rfl, hC', Option.bind_some, if_neg ov, if_pos rfl, ha2, Option.bind_some]
end
