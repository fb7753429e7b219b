/-! single calls: chances, guesses, presses, runs, sums -/
section
variable {T T' R R' X X' F F' B B' : zM} {P P' : zP} {M M' : zM} {n np nf nt nr : Nat} {par wt ans ad kd kn hd su td pt fc tp rw : Nat → Nat}
theorem zx_fShares (hT : zIT T M n par wt ans) (hW : zWh n par ans) : ∃ r, xX12_findShares M = some r ∧ r.1 = M.1 ∧ zFS r n par wt ans := by
  obtain ⟨r, hr, h1, h2, -⟩ := zx_findShares hT.1 hW hT.2.2.1
  exact ⟨r, hr, h1, h2⟩
theorem zbM_1 (h : M'.1 = M.1) : zbM M M' := fun j k _ => by rw [h]
theorem zx_finds (hT : zIT T M n par wt ans) (hW : zWh n par ans) (hP : zIP R P M np ad kd kn hd su td) (hQ : zIQ R M pt) : ∃ r, xX12_finds M = some r ∧ zbM M r ∧ zFS r n par wt ans ∧ zRE r n par wt ans np hd (zcA n par wt ans pt kd kn su td) (zsA n par wt ans pt kd kn su td) pt (zgu2 n par wt ans kn) ∧ zRL r n par := by
  obtain ⟨q, hq, q1, q2⟩ := zx_fShares hT hW
  have hqT := zIT_k hT (zbM_1 q1)
  have hqP := zIP_k hP (zbR_r (R := R)) (zbM_1 q1)
  have hqQ := zIQ_k hQ (zbR_r (R := R)) (zbM_1 q1)
  obtain ⟨r, hr, r1, r2, r3⟩ := zx_findPresses hT.1 hW hP.1 hQ.1 hqT.2.2.1 hqT.2.2.2 hqQ.2.2.1 hqP.2.2.2 q2
  have hb : zbM q r := fun j k g => by
    obtain ⟨g1, g2, g3, g4, g5⟩ := zba_n g
    exact r2 j k (by omega) (by omega) (by omega) (by omega)
  have hM := zbM_t (zbM_1 q1) hb
  have hrT := zIT_k hT hM
  have hrP := zIP_k hP (zbR_r (R := R)) hM
  have hrQ := zIQ_k hQ (zbR_r (R := R)) hM
  refine ⟨r, ?_, hM, ⟨(r3 0 29 (by decide)).trans q2.1, fun i hi => (r3 20 i (by decide)).trans (q2.2.1 i hi), fun w a hw ha => (r3 21 _ (by decide)).trans (q2.2.2 w a hw ha)⟩, zRE_A hrT.2.2.1 hrT.2.2.2 hrQ.2.2.1 hrP.2.2.2 r1, hrT.2.2.2⟩
  unfold xX12_finds
  rw [hq, Option.bind_some, hr, Option.bind_some]
theorem zx_prep (hT : zIT T M n par wt ans) (hW : zWh n par ans) (hP : zIP R P M np ad kd kn hd su td) (hQ : zIQ R M pt) : ∃ r, xX6_prepare T R P = some r ∧ zbR R r ∧ zCE T r P n par wt ans np ad hd kn (zcA n par wt ans pt kd kn su td) (zsA n par wt ans pt kd kn su td) pt := by
  obtain ⟨r, hr, r1, r2, r3⟩ := zx_prepare hT.1 hW hP.1 hQ.1 hT.2.1 hQ.2.1 hP.2.1 hP.2.2.1
  have hb : zbR R r := fun j k g => r2 j k (by omega) (by omega) (by omega)
  exact ⟨r, hr, hb, zCE_A (R := R) hP.1 hT.2.1 (fun k hk => (hb 64 k (Or.inl rfl)).trans (hQ.2.1 k hk)) ((hb 62 2 (Or.inr ⟨rfl, rfl⟩)).trans hP.2.1) hP.2.2.1 r1⟩
theorem zbM_f (h : zfrM M M') : zbM M M' := fun j k g => by
  obtain ⟨g1, g2, g3, g4, g5⟩ := zba_n g
  exact h.1 j k (by omega) (by omega) (by omega)
theorem zbR_f (h : zfrR R R') : zbR R R' := fun j k g => h.1 j k (by omega) (by omega)
theorem zlg_self {x : Int64} : lg_cmp x x = 0 := by rw [zcmp0]
/-! chance -/
theorem zc_chance (h : zJA T R X F B P M n np nf nt nr par wt ans ad kd kn hd su td pt fc tp rw) (a1 a2 a3 : Int32) : zgo (xL_6 T R X F B P M a1 a2 a3) := by
  have hT := h.1
  have hV := hT.1
  have hn := hV.2.1
  unfold xL_6 xX11_chance xX12_chance
  rcases zarg_w hT a1 with ⟨w, hw, rfl, h1, h2⟩ | ⟨-, h1, h2⟩
  · simp only [h1, h2, Option.bind_some, z10, if_false]
    rcases zarg_in a2 (lo := 1) (hi := 9) 1 9 rfl (by decide) (by decide) (by decide) with ⟨a, ha1, ha2, rfl, h3⟩ | ⟨hv, h3⟩
    · have e1 : ¬ nI a < (1 : Int32) := by rw [show (1 : Int32) = nI 1 from rfl, nI_ltI (by omega) (by decide)]; omega
      have e2 : nI a < (10 : Int32) := by rw [nI_10]; exact nI_lt (by omega) (by decide)
      simp only [if_neg e1, if_pos e2, h3, Option.bind_some, z10, if_false]
      rcases zarg_part a3 with ⟨p, hp, rfl, h4, h5⟩ | ⟨h4, h5⟩
      · simp only [h4, h5, Option.bind_some, z10, if_false, if_true]
        rcases zarg_W hT with ⟨hW, h6, h7⟩ | ⟨-, h6, h7⟩
        · obtain ⟨r, hr, r1, r2⟩ := zx_fShares hT hW
          have s1 := zx_shareOf hn hT.2.1.1.1 hw (a := a) (by omega) (by omega)
          have s2 := ((hT.2.1.2.1 w hw).2.2.2.2.1 a (by omega) (by omega)).1
          have s3 := zx_belowOf hn hT.2.1 hw
          have b1 := zbl_lt hV hw
          have b2 := zsc_le hV (a := a) w hw
          have b3 := zoA_lt hV hW (a := a) hw
          have b4 := zsh_lt hV hW hw
          have l1 := zx_leastTerms (z := (zsc n par wt ans w a : Int)) (b := zbl n par wt w) (part := p) (by omega) (zbl_pos hV w hw) b1 hp
          have l2 := zx_inLeast (z := (zoA n par wt ans w a : Int)) (b := zsh n par wt ans w) (part := p) (by omega) (zsh_posw hV hW hw) (by omega) hp
          rw [← lN_lI] at l1 l2
          have hc : zlt (zoA n par wt ans w a : Int) (zsh n par wt ans w) p = zlt (zsc n par wt ans w a : Int) (zbl n par wt w) p := by
            refine zlt_eq (zsh_posw hV hW hw) (zbl_pos hV w hw) ?_
            have := zcr1 hV hW (a := a) (by omega) w hw
            have h9 : ((zoA n par wt ans w a * zbl n par wt w : Nat) : Int) = ((zsc n par wt ans w a * zsh n par wt ans w : Nat) : Int) := congrArg _ this
            rw [Int.natCast_mul, Int.natCast_mul] at h9
            exact h9
          have e3 : ((10 : Int32) * nI w) + nI a = nI (10 * w + a) := by rw [nI_10, nI_mul, nI_add]
          have m1 := r2.2.2 w a hw (by omega)
          have m2 := r2.2.1 w hw
          simp only [h6, h7, Option.bind_some, z10, if_false, hr, s1, s2, s3, l1, e3, if_neg (zin_w (show 10 * w + a < 240 by omega) (by decide)), if_neg (zin_w (show w < 24 by omega) (by decide)), nI_clamp (show 10 * w + a < 2 ^ 31 by omega), nI_clamp (show w < 2 ^ 31 by omega), m1, m2, l2, hc, if_true]
          exact zgo_i (if_pos zlg_self) (zInv_k h zbR_r zbF_r (zbM_1 r1))
        · simp only [h6, h7, Option.bind_some, if_true, zx_refL3, zx_noL3]
          exact zgo_i rfl (zInv_ref h zbR_r zbF_r (by decide))
      · simp only [h4, h5, Option.bind_some, z10, if_false, if_true, zx_refL2, zx_noL2]
        exact zgo_i rfl (zInv_ref h zbR_r zbF_r (by decide))
    · simp only [h3, Option.bind_some, if_true, zx_noL1]
      by_cases g : a2 < (1 : Int32)
      · simp only [if_pos g, zx_refL1, Option.bind_some, if_true]
        exact zgo_i rfl (zInv_ref h zbR_r zbF_r (by decide))
      · have g2 : ¬ a2 < (10 : Int32) := by
          have h8 := hv.resolve_left g
          rw [zilt]
          rw [zilt, nI_toInt (by decide)] at h8
          have : ((10 : Int32)).toInt = 10 := by decide
          omega
        simp only [if_neg g, if_neg g2, zx_refL1, Option.bind_some, if_true]
        exact zgo_i rfl (zInv_ref h zbR_r zbF_r (by decide))
  · simp only [h1, h2, Option.bind_some, if_true, zx_refL1, zx_noL1]
    exact zgo_i rfl (zInv_ref h zbR_r zbF_r (by decide))
/-! guess -/
theorem zx_guessM {r : zM} (hV : zVT n par wt ans) (hW : zWh n par ans) (hF : zFS r n par wt ans) {s w : Nat} (hs : s < 1024) (hw : w < n) : xX12_guessOf r (nI s) (nI w) = some (nI (zgu n par wt ans s w)) := by
  have hn := hV.2.1
  exact zx_guessOf (X := zoA n par wt ans w) (by omega) (by omega) (fun a ha => hF.2.2 w a hw ha) (fun a _ => by have := zoA_lt hV hW (a := a) hw; omega)
theorem zc_guess (h : zJA T R X F B P M n np nf nt nr par wt ans ad kd kn hd su td pt fc tp rw) (a1 a2 a3 : Int32) : zgo (xL_7 T R X F B P M a1 a2 a3) := by
  have hT := h.1
  have hP := h.2.1
  have hV := hT.1
  have hn := hV.2.1
  have hnp := hP.1.1
  unfold xL_7 xX11_guess xX12_guess
  rcases zarg_p hP a1 with ⟨p, hp, rfl, h1, h2⟩ | ⟨h1, h2⟩
  · obtain ⟨c1, c2, c3, c4, c5, c6, c7, c8⟩ := hP.2.2.1 p hp
    obtain ⟨v1, v2, v3, v4, v5, v6⟩ := hP.1.2 p hp
    simp only [h1, h2, Option.bind_some, z10, if_false, zon, if_neg (show ¬ P.2.2.2 ≤ ad p by omega), c6]
    rcases zarg_w hT a2 with ⟨w, hw, rfl, h3, h4⟩ | ⟨-, h3, h4⟩
    · simp only [h3, h4, Option.bind_some, z10, if_false]
      rcases zarg_W hT with ⟨hW, h6, h7⟩ | ⟨-, h6, h7⟩
      · obtain ⟨r, hr, r1, r2⟩ := zx_fShares hT hW
        have hrP := zIP_k hP (zbR_r (R := R)) (zbM_1 r1)
        have m7 := (hrP.2.2.2.2 p hp).2.1
        simp only [h6, h7, Option.bind_some, z10, if_false, hr, zx_guessC hV hW hT.2.1 v2 hw, if_neg (zin_w (show p < 4 by omega) (by decide)), nI_clamp (show p < 2 ^ 31 by omega), m7, zx_guessM hV hW r2 v2 hw, if_true]
        exact zgo_i rfl (zInv_k h zbR_r zbF_r (zbM_1 r1))
      · simp only [h6, h7, Option.bind_some, if_true, zx_ref3, zx_no3]
        exact zgo_i rfl (zInv_ref h zbR_r zbF_r (by decide))
    · simp only [h3, h4, Option.bind_some, if_true, zx_ref1, zx_no1]
      exact zgo_i rfl (zInv_ref h zbR_r zbF_r (by decide))
  · simp only [h1, h2, Option.bind_some, if_true, zon, zx_ref1, zx_no1]
    exact zgo_i rfl (zInv_ref h zbR_r zbF_r (by decide))
/-! presses -/
theorem zc_presses (h : zJA T R X F B P M n np nf nt nr par wt ans ad kd kn hd su td pt fc tp rw) (a1 a2 a3 : Int32) : zgo (xL_10 T R X F B P M a1 a2 a3) := by
  have hT := h.1
  have hP := h.2.1
  have hQ := h.2.2.1
  have hnp := hP.1.1
  unfold xL_10 xX11_presses xX12_presses
  rcases zarg_p hP a1 with ⟨p, hp, rfl, h1, h2⟩ | ⟨h1, h2⟩
  · obtain ⟨c1, c2, c3, c4, c5, c6, c7, c8⟩ := hP.2.2.1 p hp
    simp only [h1, h2, Option.bind_some, z10, if_false, zon, if_neg (show ¬ P.2.2.2 ≤ ad p by omega)]
    rcases zarg_w hT a2 with ⟨w, hw, rfl, h3, h4⟩ | ⟨-, h3, h4⟩
    · simp only [h3, h4, Option.bind_some, z10, if_false]
      rcases zarg_W hT with ⟨hW, h6, h7⟩ | ⟨-, h6, h7⟩
      · obtain ⟨r, hr, r1, r2, r3, -⟩ := zx_finds hT hW hP hQ
        obtain ⟨q, hq, q1, q2⟩ := zx_prep hT hW hP hQ
        have m1 := (r3.2.2.2.2 p hp).2.1
        have m2 := (q2.2.2.2 p hp).1
        have m3 : xX6_calmBits q (nI p) = some (nI (zcA n par wt ans pt kd kn su td p)) := by
          unfold xX6_calmBits
          rw [if_neg (nI_pos (by omega)), zl4, if_neg (by rw [nI_leI (by omega) (by omega)]; omega), if_neg (nI_in (by omega) (by decide)), nI_clamp (by omega), m2]
        simp only [h6, h7, Option.bind_some, z10, if_false, hr, hq, m3, if_neg (zin_w (show p < 4 by omega) (by decide)), nI_clamp (show p < 2 ^ 31 by omega), m1, if_true]
        exact zgo_i rfl (zInv_k h q1 zbF_r r1)
      · simp only [h6, h7, Option.bind_some, if_true, zx_ref3, zx_no3]
        exact zgo_i rfl (zInv_ref h zbR_r zbF_r (by decide))
    · simp only [h3, h4, Option.bind_some, if_true, zx_ref1, zx_no1]
      exact zgo_i rfl (zInv_ref h zbR_r zbF_r (by decide))
  · simp only [h1, h2, Option.bind_some, if_true, zon, zx_ref1, zx_no1]
    exact zgo_i rfl (zInv_ref h zbR_r zbF_r (by decide))
/-! run -/
theorem zpop_pc : ∀ s, s < 16 → zpc10 s = zpop s := by decide
theorem zc_run (h : zJA T R X F B P M n np nf nt nr par wt ans ad kd kn hd su td pt fc tp rw) (a1 a2 a3 : Int32) : zgo (xL_11 T R X F B P M a1 a2 a3) := by
  have hT := h.1
  have hP := h.2.1
  have hQ := h.2.2.1
  have hV := hT.1
  have hn := hV.2.1
  have hnp := hP.1.1
  unfold xL_11 xX11_run xX12_run
  rcases zarg_w hT a1 with ⟨e, he, rfl, h1, h2⟩ | ⟨hv, h1, h2⟩
  · have hie := zx_isEnd hV hT.2.1.1 he
    have t3 := (hT.2.2.1.2 e he).2.2
    have ha := zans_le hV he
    simp only [hie, h2, Option.bind_some, z10, if_false, if_neg (zin_w (show e < 24 by omega) (by decide)), nI_clamp (show e < 2 ^ 31 by omega), t3, nI_eq0 (show ans e < 2 ^ 31 by omega)]
    by_cases q : ans e = 0
    · simp only [if_pos q, if_true, zx_ref1, zx_no1, Option.bind_some]
      exact zgo_i rfl (zInv_ref h zbR_r zbF_r (by decide))
    · have h0 : 0 < e := Nat.pos_of_ne_zero (fun z => q (z ▸ hV.2.2.2))
      simp only [if_neg q, z10, if_false]
      rcases zarg_in a2 (lo := 0) (hi := 2) 0 2 rfl rfl (by decide) (by decide) with ⟨k, -, hk, rfl, h3⟩ | ⟨hv2, h3⟩
      · have e2 : nI k ≤ (2 : Int32) := by rw [zl2]; exact nI_le hk (by decide)
        simp only [if_neg (nI_pos (show k < 2 ^ 31 by omega)), if_pos e2, h3, Option.bind_some, z10, if_false]
        rcases zarg_W hT with ⟨hW, h6, h7⟩ | ⟨-, h6, h7⟩
        · obtain ⟨r, hr, r1, r2, r3, -⟩ := zx_finds hT hW hP hQ
          obtain ⟨c, hc, c1, c2⟩ := zx_prep hT hW hP hQ
          have hB := zBE_A (pt := pt) hV hP.1
          obtain ⟨r', hr', s1, s2⟩ := zx_runs hV hQ.1 hB r3 h0 he
          obtain ⟨c', hc', s3, s4⟩ := zx_runTo hV hW hQ.1 hB c2 h0 he
          have hWS := zWS_run (np := np) (hd := hd) (cm := zcA n par wt ans pt kd kn su td) (sr := zsA n par wt ans pt kd kn su td) (gu := zgu2 n par wt ans kn) hV hQ.1 hnp h0 he
          have bc := zx_bitCount _ (Nat.lt_trans hWS.1 (by decide))
          rw [zpop_pc _ hWS.1, ← hWS.2.1] at bc
          simp only [h6, h7, Option.bind_some, z10, if_false, hr, hc, hr', hc', s1.1, s1.2.1, s1.2.2.2.1, s3.1, s3.2.1, s3.2.2.2.1, bc]
          by_cases d0 : nI k = 0
          · simp only [if_pos d0, Option.bind_some, if_true]
            exact zgo_i rfl (zInv_k h (zbR_t c1 (zbR_f s4)) zbF_r (zbM_t r1 (zbM_f s2)))
          by_cases d1 : nI k = 1
          · simp only [if_neg d0, if_pos d1, Option.bind_some, if_true]
            exact zgo_i rfl (zInv_k h (zbR_t c1 (zbR_f s4)) zbF_r (zbM_t r1 (zbM_f s2)))
          · simp only [if_neg d0, if_neg d1, Option.bind_some, if_true]
            exact zgo_i rfl (zInv_k h (zbR_t c1 (zbR_f s4)) zbF_r (zbM_t r1 (zbM_f s2)))
        · simp only [h6, h7, Option.bind_some, if_true, zx_ref3, zx_no3]
          exact zgo_i rfl (zInv_ref h zbR_r zbF_r (by decide))
      · simp only [h3, Option.bind_some, if_true, zx_no2]
        by_cases g : a2 < 0
        · simp only [if_pos g, zx_ref2, Option.bind_some, if_true]
          exact zgo_i rfl (zInv_ref h zbR_r zbF_r (by decide))
        · have g2 : ¬ a2 ≤ (2 : Int32) := by
            have h8 := hv2.resolve_left g
            rw [zile]
            rw [zilt, nI_toInt (by decide)] at h8
            have : ((2 : Int32)).toInt = 2 := by decide
            omega
          simp only [if_neg g, if_neg g2, zx_ref2, Option.bind_some, if_true]
          exact zgo_i rfl (zInv_ref h zbR_r zbF_r (by decide))
  · have hie := zx_isEndn hn hT.2.1.1.1 hv
    simp only [hie, h2, Option.bind_some, if_true, zx_ref1, zx_no1]
    exact zgo_i rfl (zInv_ref h zbR_r zbF_r (by decide))
/-! wins, worth, nobody, dull -/
theorem zx_both (hT : zIT T M n par wt ans) (hW : zWh n par ans) (hP : zIP R P M np ad kd kn hd su td) (hQ : zIQ R M pt) {what p part : Nat} (hp : p < 4) (hpt : part ≤ 1) {zc : Int} (hz : zc = zSm (zsv n ans (ztm n par wt) (zrun par np hd (zcA n par wt ans pt kd kn su td) (zsA n par wt ans pt kd kn su td) pt (zwlen par) ans (zgu2 n par wt ans kn)) what p) n) (hwh : what ≤ 3) : ∃ r v s, xX12_finds M = some r ∧ xX12_sumOver r (nI what) (nI p) = some s ∧ zbM M s.2 ∧ xX12_inLeast s.1 (s.2.2 0 29) (nI part) = some v ∧ xX11_leastTerms (lI zc) (lN (zbl n par wt 0)) (nI part) = some v := by
  have hV := hT.1
  have hB := zBE_A (pt := pt) hV hP.1
  obtain ⟨r, hr, r1, r2, r3, -⟩ := zx_finds hT hW hP hQ
  obtain ⟨s, hs, s1, s2⟩ := zx_sumOver hV hQ.1 hB r3 r2.2.1 hwh hp
  have hWS : ∀ e, 0 < e → e < n → zWS (zrun par np hd (zcA n par wt ans pt kd kn su td) (zsA n par wt ans pt kd kn su td) pt (zwlen par) ans (zgu2 n par wt ans kn) e) := fun e h0 he => zWS_run hV hQ.1 hP.1.1 h0 he
  have b1 := zsumM_abs (what := what) (p := p) hV hW hWS
  have b2 := zsumC_abs (what := what) (p := p) hV hWS n (Nat.le_refl _)
  have hcr := zsum_cross (what := what) (p := p) (run := zrun par np hd (zcA n par wt ans pt kd kn su td) (zsA n par wt ans pt kd kn su td) pt (zwlen par) ans (zgu2 n par wt ans kn)) hV hW
  rw [← hz] at b2 hcr
  have u1 := zun_lt hV hW
  have u2 := zun_pos hV hW
  have u3 := zbl_lt hV (w := 0) hV.1
  have u4 := zbl_pos hV 0 hV.1
  refine ⟨r, _, s, hr, hs, zbM_t r1 (zbM_f s2), ?_, zx_leastTerms (by omega) u4 u3 hpt⟩
  rw [s1, s2.2, r2.1, zx_inLeast (by omega) u2 (by omega) hpt]
  congr 2
  exact zlt_eq u2 u4 hcr
theorem zc_mean (h : zJA T R X F B P M n np nf nt nr par wt ans ad kd kn hd su td pt fc tp rw) (what : Nat) (hwh : what ≤ 1) (a1 a2 : Int32) : ∃ c m, xX11_meanOf T R B P (nI what) a1 a2 = some c ∧ xX12_inAll M (nI what) a1 a2 = some m ∧ c.1 = m.1 ∧ zInv T c.2.1 X F c.2.2 P m.2 := by
  have hT := h.1
  have hP := h.2.1
  have hQ := h.2.2.1
  have hV := hT.1
  have hn := hV.2.1
  have hnp := hP.1.1
  have e2 : ¬ (2 : Int32) ≤ nI what := by rw [zl2, nI_leI (by decide) (by omega)]; omega
  unfold xX11_meanOf xX12_inAll
  rcases zarg_p hP a1 with ⟨p, hp, rfl, h1, h2⟩ | ⟨h1, h2⟩
  · obtain ⟨c1, c2, c3, c4, c5, c6, c7, c8⟩ := hP.2.2.1 p hp
    simp only [h1, h2, Option.bind_some, z10, if_false, zon, if_neg (show ¬ P.2.2.2 ≤ ad p by omega), if_neg e2]
    rcases zarg_part a2 with ⟨q, hq, rfl, h4, h5⟩ | ⟨h4, h5⟩
    · simp only [h4, h5, Option.bind_some, z10, if_false, if_true]
      rcases zarg_W hT with ⟨hW, h6, h7⟩ | ⟨-, h6, h7⟩
      · obtain ⟨c, hc, k1, k2⟩ := zx_prep hT hW hP hQ
        obtain ⟨t, ht, t1, t2⟩ := zx_total hV hW hQ.1 (zBE_A (pt := pt) hV hP.1) k2 (what := what) (p := p) (v2 := nI p) (by omega) (fun _ => ⟨rfl, hp⟩)
        obtain ⟨r, v, s, d1, d2, d3, d4, d5⟩ := zx_both hT hW hP hQ (what := what) (p := p) (part := q) (by omega) hq rfl (by omega)
        rw [← t1] at d5
        have hbl := zx_belowOf hn hT.2.1 hV.1
        rw [nI_0] at hbl
        simp only [h6, h7, Option.bind_some, z10, if_false, hc, ht, hbl, d5, d1, d2, d4]
        exact ⟨_, _, rfl, rfl, rfl, zInv_k h (zbR_t k1 (zbR_f t2)) zbF_r d3⟩
      · simp only [h6, h7, Option.bind_some, if_true, zx_refL3, zx_noL3]
        exact ⟨_, _, rfl, rfl, rfl, zInv_ref h zbR_r zbF_r (by decide)⟩
    · simp only [h4, h5, Option.bind_some, z10, if_false, if_true, zx_refL2, zx_noL2]
      exact ⟨_, _, rfl, rfl, rfl, zInv_ref h zbR_r zbF_r (by decide)⟩
  · simp only [h1, h2, Option.bind_some, if_true, zon, if_neg e2, zx_refL1, zx_noL1]
    exact ⟨_, _, rfl, rfl, rfl, zInv_ref h zbR_r zbF_r (by decide)⟩
theorem zc_wins (h : zJA T R X F B P M n np nf nt nr par wt ans ad kd kn hd su td pt fc tp rw) (a1 a2 a3 : Int32) : zgo (xL_12 T R X F B P M a1 a2 a3) := by
  obtain ⟨c, m, h1, h2, h3, h4⟩ := zc_mean h 0 (by decide) a1 a2
  rw [nI_0] at h1 h2
  unfold xL_12 xX11_wins xX12_wins
  simp only [h1, h2, Option.bind_some]
  exact zgo_i (if_pos (by rw [h3]; exact zlg_self)) h4
theorem zc_worth (h : zJA T R X F B P M n np nf nt nr par wt ans ad kd kn hd su td pt fc tp rw) (a1 a2 a3 : Int32) : zgo (xL_13 T R X F B P M a1 a2 a3) := by
  obtain ⟨c, m, h1, h2, h3, h4⟩ := zc_mean h 1 (by decide) a1 a2
  rw [show nI 1 = (1 : Int32) from rfl] at h1 h2
  unfold xL_13 xX11_worth xX12_worth
  simp only [h1, h2, Option.bind_some]
  exact zgo_i (if_pos (by rw [h3]; exact zlg_self)) h4
theorem zc_nobody (h : zJA T R X F B P M n np nf nt nr par wt ans ad kd kn hd su td pt fc tp rw) (a1 a2 a3 : Int32) : zgo (xL_14 T R X F B P M a1 a2 a3) := by
  have hT := h.1
  have hP := h.2.1
  have hQ := h.2.2.1
  have hV := hT.1
  have hn := hV.2.1
  unfold xL_14 xX11_nobody xX12_nobody xX12_inAll
  rcases zarg_part a1 with ⟨q, hq, rfl, h4, h5⟩ | ⟨h4, h5⟩
  · simp only [h4, h5, Option.bind_some, z10, if_false, if_true, if_pos (show (2 : Int32) ≤ 2 by decide)]
    rcases zarg_W hT with ⟨hW, h6, h7⟩ | ⟨-, h6, h7⟩
    · obtain ⟨c, hc, k1, k2⟩ := zx_prep hT hW hP hQ
      obtain ⟨t, ht, t1, t2⟩ := zx_total hV hW hQ.1 (zBE_A (pt := pt) hV hP.1) k2 (what := 2) (p := 0) (v2 := -9) (by decide) (fun z => absurd z (by decide))
      obtain ⟨r, v, s, d1, d2, d3, d4, d5⟩ := zx_both hT hW hP hQ (what := 2) (p := 0) (part := q) (by decide) hq rfl (by decide)
      rw [← t1] at d5
      have hbl := zx_belowOf hn hT.2.1 hV.1
      rw [nI_0] at hbl d2
      rw [← zl2] at ht d2
      simp only [h6, h7, Option.bind_some, z10, if_false, hc, ht, hbl, d5, d1, d2, d4, if_true]
      exact zgo_i (if_pos zlg_self) (zInv_k h (zbR_t k1 (zbR_f t2)) zbF_r d3)
    · simp only [h6, h7, Option.bind_some, if_true, zx_refL3, zx_noL3]
      exact zgo_i rfl (zInv_ref h zbR_r zbF_r (by decide))
  · simp only [h4, h5, Option.bind_some, z10, if_false, if_true, if_pos (show (2 : Int32) ≤ 2 by decide), zx_refL2, zx_noL2]
    exact zgo_i rfl (zInv_ref h zbR_r zbF_r (by decide))
theorem zc_dull (h : zJA T R X F B P M n np nf nt nr par wt ans ad kd kn hd su td pt fc tp rw) (a1 a2 a3 : Int32) : zgo (xL_15 T R X F B P M a1 a2 a3) := by
  have hT := h.1
  have hP := h.2.1
  have hQ := h.2.2.1
  have hV := hT.1
  have hn := hV.2.1
  unfold xL_15 xX11_dull xX12_dull xX12_inAll
  rcases zarg_part a1 with ⟨q, hq, rfl, h4, h5⟩ | ⟨h4, h5⟩
  · simp only [h4, h5, Option.bind_some, z10, if_false, if_true, if_pos (show (2 : Int32) ≤ 3 by decide)]
    rcases zarg_W hT with ⟨hW, h6, h7⟩ | ⟨-, h6, h7⟩
    · obtain ⟨c, hc, k1, k2⟩ := zx_prep hT hW hP hQ
      have ht := zx_dullTotal hV hQ.1 (zBE_A (pt := pt) hV hP.1) k2
      obtain ⟨r, v, s, d1, d2, d3, d4, d5⟩ := zx_both hT hW hP hQ (what := 3) (p := 0) (part := q) (by decide) hq rfl (by decide)
      have hbl := zx_belowOf hn hT.2.1 hV.1
      rw [nI_0] at hbl d2
      rw [← zl3] at d2
      simp only [h6, h7, Option.bind_some, z10, if_false, hc, ht, hbl, d5, d1, d2, d4, if_true]
      exact zgo_i (if_pos zlg_self) (zInv_k h k1 zbF_r d3)
    · simp only [h6, h7, Option.bind_some, if_true, zx_refL3, zx_noL3]
      exact zgo_i rfl (zInv_ref h zbR_r zbF_r (by decide))
  · simp only [h4, h5, Option.bind_some, z10, if_false, if_true, if_pos (show (2 : Int32) ≤ 3 by decide), zx_refL2, zx_noL2]
    exact zgo_i rfl (zInv_ref h zbR_r zbF_r (by decide))
end
