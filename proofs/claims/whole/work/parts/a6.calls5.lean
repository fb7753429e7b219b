/-! single calls: values, partners, orders of facts, silence -/
section
variable {T T' R R' X X' F F' B B' : zM} {P P' : zP} {M M' : zM} {n np nf nt nr : Nat} {par wt ans ad kd kn hd su td pt fc tp rw : Nat → Nat}
theorem zx_findsA (hT : zIT T M n par wt ans) (hW : zWh n par ans) (hP : zIP R P M np ad kd kn hd su td) (hQ : zIQ R M pt) {p : Nat} (hp : p < np) : ∃ r q, xX12_finds M = some r ∧ xX12_findAlone r (nI p) = some q ∧ zbM M q ∧ q.1 0 31 = nI (zbits (zPm n par wt ans pt (zgu2 n par wt ans kn p)) n) ∧ (∀ w, w < n → q.2 25 w = lI (zma n par wt ans pt (zgu2 n par wt ans kn p) w)) ∧ ∀ w, w < n → q.2 20 w = lN (zsh n par wt ans w) := by
  obtain ⟨r, hr, r1, r2, r3, r4⟩ := zx_finds hT hW hP hQ
  have hB := zBE_A (pt := pt) (hd := hd) hT.1 hP.1
  have hnp := hP.1.1
  obtain ⟨q, hq, q1, q2, q3, q4⟩ := zx_findAlone hT.1 hW r3.1 r3.2.1 hQ.1 r3.2.2.1 r2.2.1 (gu := zgu2 n par wt ans kn p) (show p < 4 by omega) (hB.2 p hp).2.2.2 (r3.2.2.2.2 p hp).2.2.2
  refine ⟨r, q, hr, hq, zbM_t r1 (fun j k g => q3 j k ?_), q2, q1, fun w hw => (q4 20 w (by decide)).trans (r2.2.1 w hw)⟩
  rintro ⟨rfl, rfl⟩
  exact absurd g (by decide)
theorem zx_aloneC (hT : zIT T M n par wt ans) (hW : zWh n par ans) (hP : zIP R P M np ad kd kn hd su td) (hQ : zIQ R M pt) {p : Nat} (hp : p < np) : ∃ r, xX6_aloneSet T R (nI (kn p)) = some r ∧ zbR R r.2 ∧ r.1 = nI (zbits (zPc n par wt ans pt (zgu2 n par wt ans kn p)) n) ∧ ∀ w, w < n → r.2.2 69 w = lI (zca n par wt ans pt (zgu2 n par wt ans kn p) w) := by
  have v2 := (hP.1.2 p hp).2.1
  obtain ⟨r, hr, r1, r2, r3, -⟩ := zx_aloneSet hT.1 hT.2.1 hQ.1 hQ.2.1 (s := kn p) (by omega) (gu := zgu2 n par wt ans kn p) (fun w hw => zgs_cross hT.1 hW hw)
  exact ⟨r, hr, fun j k _ => by rw [r3], r1, r2⟩
theorem zc_alone (h : zJA T R X F B P M n np nf nt nr par wt ans ad kd kn hd su td pt fc tp rw) (a1 a2 a3 : Int32) : zgo (xL_17 T R X F B P M a1 a2 a3) := by
  have hT := h.1
  have hP := h.2.1
  have hQ := h.2.2.1
  unfold xL_17 xX11_alone xX12_alone
  rcases zarg_p hP a1 with ⟨p, hp, rfl, h1, h2⟩ | ⟨h1, h2⟩
  · obtain ⟨c1, c2, c3, c4, c5, c6, c7, c8⟩ := hP.2.2.1 p hp
    simp only [h1, h2, Option.bind_some, z10, if_false, zon, if_neg (show ¬ P.2.2.2 ≤ ad p by omega), c6]
    rcases zarg_W hT with ⟨hW, h6, h7⟩ | ⟨-, h6, h7⟩
    · obtain ⟨r, q, hr, hq, m1, m2, m3, m4⟩ := zx_findsA hT hW hP hQ hp
      obtain ⟨c, hc, k1, k2, k3⟩ := zx_aloneC hT hW hP hQ hp
      simp only [h6, h7, Option.bind_some, z10, if_false, hr, hq, hc, k2, m2, (zalone hT.1 hW).2, if_true]
      exact zgo_i rfl (zInv_k h k1 zbF_r m1)
    · simp only [h6, h7, Option.bind_some, if_true, zx_ref3, zx_no3]
      exact zgo_i rfl (zInv_ref h zbR_r zbF_r (by decide))
  · simp only [h1, h2, Option.bind_some, if_true, zon, zx_ref1, zx_no1]
    exact zgo_i rfl (zInv_ref h zbR_r zbF_r (by decide))
theorem zc_value (h : zJA T R X F B P M n np nf nt nr par wt ans ad kd kn hd su td pt fc tp rw) (a1 a2 a3 : Int32) : zgo (xL_16 T R X F B P M a1 a2 a3) := by
  have hT := h.1
  have hP := h.2.1
  have hQ := h.2.2.1
  have hV := hT.1
  have hn := hV.2.1
  unfold xL_16 xX11_value xX12_value
  rcases zarg_p hP a1 with ⟨p, hp, rfl, h1, h2⟩ | ⟨h1, h2⟩
  · obtain ⟨c1, c2, c3, c4, c5, c6, c7, c8⟩ := hP.2.2.1 p hp
    simp only [h1, h2, Option.bind_some, z10, if_false, zon, if_neg (show ¬ P.2.2.2 ≤ ad p by omega), c6]
    rcases zarg_w hT a2 with ⟨w, hw, rfl, h3, h4⟩ | ⟨-, h3, h4⟩
    · simp only [h3, h4, Option.bind_some, z10, if_false]
      rcases zarg_part a3 with ⟨q, hq, rfl, h8, h9⟩ | ⟨h8, h9⟩
      · simp only [h8, h9, Option.bind_some, z10, if_false, if_true]
        rcases zarg_W hT with ⟨hW, h6, h7⟩ | ⟨-, h6, h7⟩
        · obtain ⟨r, s, hr, hs, m1, m2, m3, m4⟩ := zx_findsA hT hW hP hQ hp
          obtain ⟨c, hc, k1, k2, k3⟩ := zx_aloneC hT hW hP hQ hp
          have hval : xX6_valueOf c.2 (nI w) = some (lI (zca n par wt ans pt (zgu2 n par wt ans kn p) w)) := by
            unfold xX6_valueOf
            rw [if_neg (nI_pos (by omega)), if_neg (by rw [show (24 : Int32) = nI 24 from rfl, nI_leI (by decide) (by omega)]; omega), if_neg (nI_in (by omega) (by decide)), nI_clamp (by omega), k3 w hw]
          have hbl := zx_belowOf hn hT.2.1 hw
          have b1 := zbl_lt hV hw
          have b2 := zbl_pos hV w hw
          have b3 := zsh_lt hV hW hw
          have b4 := zsh_posw hV hW hw
          have e1 : (zca n par wt ans pt (zgu2 n par wt ans kn p) w).natAbs ≤ 160 * zbl n par wt w := (zva_abs hV (fun v hv _ => zpc_abs hV hQ.1 hv) (fun v hv => zcm_next hV hv) w hw).2
          have e2 : (zma n par wt ans pt (zgu2 n par wt ans kn p) w).natAbs ≤ 160 * zsh n par wt ans w := (zva_abs hV (fun v hv g => zpm_abs hV hW hQ.1 hv (Nat.pos_of_ne_zero g)) (fun v hv => zsm_next hV hW hv) w hw).2
          have l1 := zx_leastTerms (z := zca n par wt ans pt (zgu2 n par wt ans kn p) w) (b := zbl n par wt w) (part := q) (by omega) b2 b1 hq
          have l2 := zx_inLeast (z := zma n par wt ans pt (zgu2 n par wt ans kn p) w) (b := zsh n par wt ans w) (part := q) (by omega) b4 (by omega) hq
          rw [zlt_eq b4 b2 ((zalone hV hW).1 w hw)] at l2
          simp only [h6, h7, Option.bind_some, z10, if_false, hr, hs, hc, hval, hbl, l1, if_neg (zin_w (show w < 24 by omega) (by decide)), nI_clamp (show w < 2 ^ 31 by omega), m3 w hw, m4 w hw, l2]
          exact zgo_i (if_pos zlg_self) (zInv_k h k1 zbF_r m1)
        · simp only [h6, h7, Option.bind_some, if_true, zx_refL3, zx_noL3]
          exact zgo_i rfl (zInv_ref h zbR_r zbF_r (by decide))
      · simp only [h8, h9, Option.bind_some, z10, if_false, if_true, zx_refL2, zx_noL2]
        exact zgo_i rfl (zInv_ref h zbR_r zbF_r (by decide))
    · simp only [h3, h4, Option.bind_some, if_true, zx_refL1, zx_noL1]
      exact zgo_i rfl (zInv_ref h zbR_r zbF_r (by decide))
  · simp only [h1, h2, Option.bind_some, if_true, zon, zx_refL1, zx_noL1]
    exact zgo_i rfl (zInv_ref h zbR_r zbF_r (by decide))
/-! partners -/
theorem zx_share2 (hV : zVT n par wt ans) (hT : zCS T n par wt ans) {w g : Nat} (hw : w < n) (hg : g < 10) : xX10_shareOf T (nI w) (nI g) = some (lN (if g = 0 then 0 else zsc n par wt ans w g)) := by
  by_cases q : g = 0
  · have h1 := zx_has hV.2.1 hT.1.1 hw
    have h10 : ¬ (1 : Int32) = 0 := by decide
    rw [if_pos q, q]
    unfold xX10_shareOf
    rw [h1, Option.bind_some, if_neg h10, if_pos (show nI 0 ≤ 0 by decide)]
    rfl
  · rw [if_neg q, zx_shareOf hV.2.1 hT.1.1 hw (by omega) hg, ((hT.2.1 w hw).2.2.2.2.1 g (by omega) hg).1]
theorem zc_partners (h : zJA T R X F B P M n np nf nt nr par wt ans ad kd kn hd su td pt fc tp rw) (a1 a2 a3 : Int32) : zgo (xL_23 T R X F B P M a1 a2 a3) := by
  have hT := h.1
  have hP := h.2.1
  have hQ := h.2.2.1
  have hV := hT.1
  have hn := hV.2.1
  have hnp := hP.1.1
  unfold xL_23 xX11_partners xX12_partners
  rcases zarg_p hP a1 with ⟨p, hp, rfl, h1, h2⟩ | ⟨h1, h2⟩
  · obtain ⟨c1, c2, c3, c4, c5, c6, c7, c8⟩ := hP.2.2.1 p hp
    obtain ⟨v1, v2, v3, v4, v5, v6⟩ := hP.1.2 p hp
    rcases zarg_p hP a2 with ⟨p', hp', rfl, h1', h2'⟩ | ⟨h1', h2'⟩
    · obtain ⟨d1, d2, d3, d4, d5, d6, d7, d8⟩ := hP.2.2.1 p' hp'
      obtain ⟨u1, u2, u3, u4, u5, u6⟩ := hP.1.2 p' hp'
      simp only [h1, h2, h1', h2', Option.bind_some, z10, if_false, zon, if_neg (show ¬ P.2.2.2 ≤ ad p by omega), if_neg (show ¬ P.2.2.2 ≤ ad p' by omega), c6, d6]
      by_cases e : nI p = nI p'
      · simp only [if_pos e, zx_ref1, zx_no1, Option.bind_some, if_true]
        exact zgo_i rfl (zInv_ref h zbR_r zbF_r (by decide))
      simp only [if_neg e]
      rcases zarg_w hT a3 with ⟨w, hw, rfl, h3, h4⟩ | ⟨-, h3, h4⟩
      · simp only [h3, h4, Option.bind_some, z10, if_false]
        rcases zarg_W hT with ⟨hW, h6, h7⟩ | ⟨-, h6, h7⟩
        · obtain ⟨r, hr, r1, r2⟩ := zx_fShares hT hW
          have hrP := zIP_k hP (zbR_r (R := R)) (zbM_1 r1)
          have m7 := (hrP.2.2.2.2 p hp).2.1
          have m8 := (hrP.2.2.2.2 p' hp').2.1
          have g1 := zx_guessC hV hW hT.2.1 v2 hw
          have g2 := zx_guessC hV hW hT.2.1 u2 hw
          have g3 := zx_guessM hV hW r2 v2 hw
          have g4 := zx_guessM hV hW r2 u2 hw
          have ha : zgu n par wt ans (kn p) w < 10 := zgu_lt
          have hb : zgu n par wt ans (kn p') w < 10 := zgu_lt
          have pa : zgu n par wt ans (kn p) w ≠ 0 → 0 < zoA n par wt ans w (zgu n par wt ans (kn p) w) := fun z => (zgs_spec z).2
          have pb : zgu n par wt ans (kn p') w ≠ 0 → 0 < zoA n par wt ans w (zgu n par wt ans (kn p') w) := fun z => (zgs_spec z).2
          generalize zgu n par wt ans (kn p) w = a at *
          generalize zgu n par wt ans (kn p') w = b at *
          have s1 := zx_share2 hV hT.2.1 hw ha
          have s2 := zx_share2 hV hT.2.1 hw hb
          have q1 := zsc_le hV (a := a) w hw
          have q2 := zsc_le hV (a := b) w hw
          have q3 := zbl_lt hV hw
          have q4 := zbl_pos hV w hw
          have q5 := zsh_posw hV hW hw
          have q6 := zoA_lt hV hW (a := a) hw
          have q7 := zoA_lt hV hW (a := b) hw
          have k1 := fun z : a ≠ 0 => zcr1 hV hW (a := a) (by omega) w hw
          have k2 := fun z : b ≠ 0 => zcr1 hV hW (a := b) (by omega) w hw
          have k3 : a ≠ 0 → 0 < zsc n par wt ans w a := fun z => by
            rcases Nat.eq_zero_or_pos (zsc n par wt ans w a) with y | y
            · have := k1 z
              rw [y, Nat.zero_mul] at this
              have := Nat.mul_pos (pa z) q4
              omega
            · exact y
          have k4 : b ≠ 0 → 0 < zsc n par wt ans w b := fun z => by
            rcases Nat.eq_zero_or_pos (zsc n par wt ans w b) with y | y
            · have := k2 z
              rw [y, Nat.zero_mul] at this
              have := Nat.mul_pos (pb z) q4
              omega
            · exact y
          have m1 := r2.2.2 w a hw ha
          have m2 := r2.2.2 w b hw hb
          have e3 : ((10 : Int32) * nI w) + nI a = nI (10 * w + a) := by rw [nI_10, nI_mul, nI_add]
          have e4 : ((10 : Int32) * nI w) + nI b = nI (10 * w + b) := by rw [nI_10, nI_mul, nI_add]
          simp only [h6, h7, Option.bind_some, z10, if_false, hr, if_neg (zin_w (show p < 4 by omega) (by decide)), if_neg (zin_w (show p' < 4 by omega) (by decide)), nI_clamp (show p < 2 ^ 31 by omega), nI_clamp (show p' < 2 ^ 31 by omega), m7, m8, g1, g2, g3, g4, s1, s2, e3, e4, if_neg (zin_w (show 10 * w + a < 240 by omega) (by decide)), if_neg (zin_w (show 10 * w + b < 240 by omega) (by decide)), nI_clamp (show 10 * w + a < 2 ^ 31 by omega), nI_clamp (show 10 * w + b < 2 ^ 31 by omega), m1, m2, nI_eq0 (show a < 2 ^ 31 by omega), nI_eq0 (show b < 2 ^ 31 by omega), zcmp0, lg_cmp_le, zL0]
          have fin : zInv T R X F B P r := zInv_k h zbR_r zbF_r (zbM_1 r1)
          by_cases za : a = 0
          · by_cases zb : b = 0
            · simp only [if_pos za, if_pos zb, if_true, Option.bind_some]
              exact zgo_i rfl fin
            · have := k4 zb
              have n1 : ¬ lN (zsc n par wt ans w b) = lN 0 := by rw [jN_eq (by omega) (by decide)]; omega
              have n2 : ¬ lN (zsc n par wt ans w b) ≤ lN 0 := by rw [jN_le (by omega) (by decide)]; omega
              simp only [if_pos za, if_neg zb, if_true, Option.bind_some, if_neg n1, if_neg n2]
              exact zgo_i rfl fin
          · have := k3 za
            have n0 : ¬ lN (zsc n par wt ans w a) = lN 0 := by rw [jN_eq (by omega) (by decide)]; omega
            by_cases zb : b = 0
            · have n2 : lN 0 ≤ lN (zsc n par wt ans w a) := by rw [jN_le (by decide) (by omega)]; omega
              simp only [if_neg za, if_pos zb, if_neg n0, if_pos n2, if_true, Option.bind_some]
              exact zgo_i rfl fin
            · have ka := k1 za
              have kb := k2 zb
              have cmp : (lN (zsc n par wt ans w b) ≤ lN (zsc n par wt ans w a)) = (lN (zoA n par wt ans w b) ≤ lN (zoA n par wt ans w a)) := by
                rw [jN_le (by omega) (by omega), jN_le (by omega) (by omega)]
                refine propext ⟨fun z => ?_, fun z => ?_⟩
                · refine Nat.le_of_mul_le_mul_right ?_ q4
                  rw [ka, kb]
                  exact Nat.mul_le_mul_right _ z
                · refine Nat.le_of_mul_le_mul_right ?_ q5
                  rw [← ka, ← kb]
                  exact Nat.mul_le_mul_right _ z
              simp only [if_neg za, if_neg zb, if_neg n0, cmp]
              by_cases y : lN (zoA n par wt ans w b) ≤ lN (zoA n par wt ans w a)
              · simp only [if_pos y, if_true, Option.bind_some]
                exact zgo_i rfl fin
              · simp only [if_neg y, if_true, Option.bind_some]
                exact zgo_i rfl fin
        · simp only [h6, h7, Option.bind_some, if_true, zx_ref3, zx_no3]
          exact zgo_i rfl (zInv_ref h zbR_r zbF_r (by decide))
      · simp only [h3, h4, Option.bind_some, if_true, zx_ref1, zx_no1]
        exact zgo_i rfl (zInv_ref h zbR_r zbF_r (by decide))
    · simp only [h1, h2, h1', h2', Option.bind_some, z10, if_false, if_true, zon, if_neg (show ¬ P.2.2.2 ≤ ad p by omega), zx_ref1, zx_no1]
      exact zgo_i rfl (zInv_ref h zbR_r zbF_r (by decide))
  · rcases zarg_p hP a2 with ⟨p', hp', rfl, h1', h2'⟩ | ⟨h1', h2'⟩
    · simp only [h1, h2, h1', Option.bind_some, if_true, zon, zx_ref1, zx_no1]
      exact zgo_i rfl (zInv_ref h zbR_r zbF_r (by decide))
    · simp only [h1, h2, h1', Option.bind_some, if_true, zon, zx_ref1, zx_no1]
      exact zgo_i rfl (zInv_ref h zbR_r zbF_r (by decide))
/-! the latest and the soonest order of the facts -/
theorem zx_bests (h : zJA T R X F B P M n np nf nt nr par wt ans ad kd kn hd su td pt fc tp rw) (latest : Bool) {v : Int32} (hv : ¬ v < -1) : ∃ f u m, xX3_findExtreme F (if latest = true then 1 else 0) = some f ∧ xX3_told f v = some u ∧ xX12_best M (if latest = true then 1 else 0) v = some (u, m) ∧ zbF F f ∧ zbM M m := by
  obtain ⟨f1, f2, f3, f4, f5, f6⟩ := h.2.2.2.1
  obtain ⟨f, hf, g1, g2, g3⟩ := zx_findExtreme latest f1 f3 f4
  have ht := zx_told (v := v) f1 ((g3 72 1 (by decide) (by decide) (by decide)).trans f3) g1 g2 hv
  obtain ⟨m, hm, m1, m2, m3⟩ := zx_best latest f1 f5 f6 hv
  refine ⟨f, _, m.2, hf, ht, ?_, fun j k g => g3 j k (by omega) (by omega) (by omega), fun j k g => ?_⟩
  · rw [hm, ← m1]
  · refine m2 j k ?_ ?_
    · rintro rfl
      exact absurd g (by simp [zba])
    · rintro rfl
      exact absurd g (by simp [zba])
theorem zc_late (h : zJA T R X F B P M n np nf nt nr par wt ans ad kd kn hd su td pt fc tp rw) (a1 a2 a3 : Int32) : zgo (xL_26 T R X F B P M a1 a2 a3) := by
  unfold xL_26 xX11_late xX12_late
  by_cases g : a1 < -1
  · have g2 : ¬ (-1 : Int32) ≤ a1 := by rw [zile]; rw [zilt] at g; omega
    have hm : xX12_best M 1 a1 = some (-4, zsi M 1 4 (M.1 1 4 + 1)) := by
      unfold xX12_best
      rw [if_neg g2, zx_no4]
      rfl
    simp only [if_neg g2, hm, zx_ref4, Option.bind_some, if_true]
    exact zgo_i rfl (zInv_ref h zbR_r zbF_r (by decide))
  · have g2 : (-1 : Int32) ≤ a1 := by rw [zile]; rw [zilt] at g; omega
    obtain ⟨f, u, m, hf, ht, hm, k1, k2⟩ := zx_bests h true g
    simp only [if_true] at hf hm
    simp only [if_pos g2, hf, ht, hm, Option.bind_some, if_true]
    exact zgo_i rfl (zInv_k h zbR_r k1 k2)
theorem zc_soon (h : zJA T R X F B P M n np nf nt nr par wt ans ad kd kn hd su td pt fc tp rw) (a1 a2 a3 : Int32) : zgo (xL_27 T R X F B P M a1 a2 a3) := by
  unfold xL_27 xX11_soon xX12_soon
  by_cases g : a1 < -1
  · have g2 : ¬ (-1 : Int32) ≤ a1 := by rw [zile]; rw [zilt] at g; omega
    have hm : xX12_best M 0 a1 = some (-4, zsi M 1 4 (M.1 1 4 + 1)) := by
      unfold xX12_best
      rw [if_neg g2, zx_no4]
      rfl
    simp only [if_neg g2, hm, zx_ref4, Option.bind_some, if_true]
    exact zgo_i rfl (zInv_ref h zbR_r zbF_r (by decide))
  · have g2 : (-1 : Int32) ≤ a1 := by rw [zile]; rw [zilt] at g; omega
    obtain ⟨f, u, m, hf, ht, hm, k1, k2⟩ := zx_bests h false g
    simp only [Bool.false_eq_true, if_false] at hf hm
    simp only [if_pos g2, hf, ht, hm, Option.bind_some, if_true]
    exact zgo_i rfl (zInv_k h zbR_r k1 k2)
end
