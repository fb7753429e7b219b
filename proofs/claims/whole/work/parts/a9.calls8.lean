/-! single calls: replies, the rest -/
section
variable {T T' R R' X X' F F' B B' : zM} {P P' : zP} {M M' : zM} {n np nf nt nr : Nat} {par wt ans ad kd kn hd su td pt fc tp rw : Nat → Nat}
theorem zbM_y {p : Nat} (h : zfrY p M M') : zbM M M' := fun j k g => by
  obtain ⟨g1, g2, g3, g4, g5⟩ := zba_n g
  exact h.1 j k (by omega) (by omega) (by omega) (by omega) (by omega)
theorem zx_rep (h : zJA T R X F B P M n np nf nt nr par wt ans ad kd kn hd su td pt fc tp rw) (hW : zWh n par ans) {p most : Nat} (hp : p < np) (hm : most ≤ 2) : ∃ c r m v, xX6_bestReply T R P (nI p) (nI most) = some c ∧ xX12_finds M = some r ∧ xX12_replyOf r (nI p) (nI most) = some m ∧ c.1 = nI v ∧ m.1 = nI v ∧ v < 2 ^ 24 ∧ zbR R c.2 ∧ zbM M m.2 := by
  have hT := h.1
  have hP := h.2.1
  have hQ := h.2.2.1
  have hV := hT.1
  obtain ⟨c, hc, c1, c2⟩ := zx_bestReply hV hW hQ.1 hP.1 hT.2.1 hQ.2.1 hP.2.1 hP.2.2.1 hp hm
  obtain ⟨r, hr, r1, r2, r3, r4⟩ := zx_finds hT hW hP hQ
  obtain ⟨m, hmm, m1, m2⟩ := zx_replyOf hV hW hQ.1 (zBE_A (pt := pt) hV hP.1) r3 r2.2.1 hp hm
  exact ⟨c, r, m, _, hc, hr, hmm, c1, m1, zrB_o.2.2.1, fun j k g => c2 j k (by omega) (by omega) (by omega) (by omega) (by omega), zbM_t r1 (zbM_y m2)⟩
theorem zc_reply (h : zJA T R X F B P M n np nf nt nr par wt ans ad kd kn hd su td pt fc tp rw) (a1 a2 a3 : Int32) : zgo (xL_18 T R X F B P M a1 a2 a3) := by
  have hT := h.1
  have hP := h.2.1
  unfold xL_18 xX11_reply xX12_reply
  rcases zarg_p hP a1 with ⟨p, hp, rfl, h1, h2⟩ | ⟨h1, h2⟩
  · obtain ⟨c1, c2, c3, c4, c5, c6, c7, c8⟩ := hP.2.2.1 p hp
    simp only [h1, h2, Option.bind_some, z10, if_false, zon, if_neg (show ¬ P.2.2.2 ≤ ad p by omega)]
    have hb := zarg_b a2 (lo := 0) (hi := 2) (by decide) (by decide)
    rw [nI_0, ← zl2] at hb
    rcases hb with ⟨g, b1⟩ | ⟨k, -, hk, rfl, b1⟩ | ⟨g, b1⟩
    · have g0 : ¬ 0 ≤ a2 := by rw [zile]; rw [zilt] at g; omega
      simp only [if_neg g0, b1, Option.bind_some, zx_ref4, if_neg (show ¬ (-4 : Int32) = 0 by decide), zx_no4, if_true]
      exact zgo_i rfl (zInv_ref h zbR_r zbF_r (by decide))
    · have g9 : nI k ≤ (2 : Int32) := by rw [zl2]; exact nI_le hk (by decide)
      simp only [if_pos (nI_pos' (show k < 2 ^ 31 by omega)), if_pos g9, b1, Option.bind_some, if_true]
      rcases zarg_W hT with ⟨hW, h6, h7⟩ | ⟨-, h6, h7⟩
      · obtain ⟨c, r, m, v, hc, hr, hm, e1, e2, e3, e4, e5⟩ := zx_rep h hW hp hk
        simp only [h6, h7, Option.bind_some, z10, if_false, hr, hm, hc, e1, e2, if_true]
        exact zgo_i rfl (zInv_k h e4 zbF_r e5)
      · simp only [h6, h7, Option.bind_some, if_true, zx_ref3, zx_no3]
        exact zgo_i rfl (zInv_ref h zbR_r zbF_r (by decide))
    · have g0 : 0 ≤ a2 := by
        rw [zile]
        rw [zilt] at g
        have h9 : ((2 : Int32)).toInt = 2 := by decide
        have h0 : ((0 : Int32)).toInt = 0 := by decide
        omega
      have g1 : ¬ a2 ≤ (2 : Int32) := by rw [zile]; rw [zilt] at g; omega
      simp only [if_pos g0, if_neg g1, b1, Option.bind_some, zx_ref6, if_neg (show ¬ (-6 : Int32) = 0 by decide), zx_no6, if_true]
      exact zgo_i rfl (zInv_ref h zbR_r zbF_r (by decide))
  · simp only [h1, h2, Option.bind_some, if_true, zon, zx_ref1, zx_no1]
    exact zgo_i rfl (zInv_ref h zbR_r zbF_r (by decide))
/-! the rest -/
theorem zx_takesR (h : zJA T R X F B P M n np nf nt nr par wt ans ad kd kn hd su td pt fc tp rw) (hW : zWh n par ans) {p : Nat} (hp : p < np) (hk : kd p = 4) : ∃ c m v, xX6_bestReply T R P (nI p) (2 : Int32) = some c ∧ xX12_takesReply M (nI p) = some ((if v = td p then 0 else 1), m) ∧ xv_tell P (ad p) c.1 = some (zpf P (ad p) 3 c.1) ∧ c.1 = nI v ∧ v < 2 ^ 24 ∧ zJA T c.2 X F B (zpf P (ad p) 3 c.1) m n np nf nt nr par wt ans ad kd kn hd su (zup td p v) pt fc tp rw := by
  have hP := h.2.1
  have hnp := hP.1.1
  obtain ⟨c, r, m, v, hc, hr, hm, e1, e2, e3, e4, e5⟩ := zx_rep h hW hp (show 2 ≤ 2 by decide)
  rw [← zl2] at hc hm
  obtain ⟨c1, c2, c3, c4, c5, c6, c7, c8⟩ := hP.2.2.1 p hp
  obtain ⟨v1, v2, v3, v4, v5, v6⟩ := hP.1.2 p hp
  have k10 := (zIP_k hP (zbR_r (R := R)) e5).2.2.2.2 p hp
  have fin : zJA T c.2 X F B (zpf P (ad p) 3 c.1) (zsi m.2 10 p (nI v)) n np nf nt nr par wt ans ad kd kn hd su (zup td p v) pt fc tp rw := by
    rw [e1]
    exact zJA_told h hp hk e3 e4 (fun j k g1 g2 => by rw [zsi_ne g2]; exact e5 j k g1) (zsi_y ⟨rfl, rfl⟩)
  refine ⟨c, zsi m.2 10 p (nI v), v, hc, ?_, zx_tell4 (by rw [c3, hk]), e1, e3, fin⟩
  unfold xX12_takesReply
  simp only [hr, hm, Option.bind_some, if_neg (zin_w (show p < 4 by omega) (by decide)), nI_clamp (show p < 2 ^ 31 by omega), e2, k10.2.2.2.2, nI_eq (show v < 2 ^ 31 by omega) (show td p < 2 ^ 31 by omega), zlet]
  by_cases y : v = td p
  · rw [if_pos y, if_pos y]
  · rw [if_neg y, if_neg y]
theorem zx_rests (h : zJA T R X F B P M n np nf nt nr par wt ans ad kd kn hd su td pt fc tp rw) (hW : zWh n par ans) {p p' : Nat} (hp : p < np) (hp' : p' < np) (hne : p ≠ p') (hk : kd p = 4) (hk' : kd p' = 4) : ∃ a b, x_it (fun a9 => xX11_rest_L83 T B (nI p) (nI p') (ad p) (ad p') a9.1 a9.2.1 a9.2.2) zFU (R, P, (1 : Int32)) = some a ∧ x_it (fun a9 => xX12_rest_L70 (nI p) (nI p') a9.1 a9.2) zFU (M, (1 : Int32)) = some b ∧ ((∃ R' P' M' w, a = .inl (R', P', w) ∧ b = .inl (M', w) ∧ zInv T R' X F B P' M') ∨ ∃ R' P' M', a = .inr (R', P') ∧ b = .inr M' ∧ zInv T R' X F B P' M') := by
  refine zlock (α := zM × zP × Int32) (γ := zM × Int32) (fun k a c => ∃ (w : Nat) (R' : zM) (P' : zP) (M' : zM) (td' : Nat → Nat), 1 ≤ w ∧ w ≤ 11 ∧ k = 11 - w ∧ a = (R', P', nI w) ∧ c = (M', nI w) ∧ zJA T R' X F B P' M' n np nf nt nr par wt ans ad kd kn hd su td' pt fc tp rw) ?_ zFU 10 (R, P, (1 : Int32)) (M, (1 : Int32)) ⟨1, R, P, M, td, by decide, by decide, rfl, rfl, rfl, h⟩ (by decide)
  rintro k a c ⟨w, R', P', M', td', hw1, hw2, rfl, rfl, rfl, hJ⟩
  by_cases g : w = 11
  · subst g
    refine Or.inr ⟨.inr (R', P'), .inr M', ?_, ?_, Or.inr ⟨R', P', M', rfl, rfl, zInv_i hJ⟩⟩
    · try dsimp only
      unfold xX11_rest_L83
      rw [if_pos (show (10 : Int32) < nI 11 by decide)]
    · try dsimp only
      unfold xX12_rest_L70
      rw [if_pos (show (10 : Int32) < nI 11 by decide)]
  · have gw : ¬ (10 : Int32) < nI w := by rw [nI_10, nI_ltI (by decide) (by omega)]; omega
    obtain ⟨c1, m1, v1, hc1, hm1, ht1, e1, l1, J1⟩ := zx_takesR hJ hW hp hk
    obtain ⟨c2, m2, v2, hc2, hm2, ht2, e2, l2, J2⟩ := zx_takesR J1 hW hp' hk'
    have b1 := (hJ.2.1.2.2.1 p hp).2.1
    have b2 := (hJ.2.1.2.2.1 p' hp').2.1
    have b3 := (J1.2.1.2.2.1 p' hp').2.1
    have b4 := (J2.2.1.2.2.1 p hp).2.1
    have b5 := (J2.2.1.2.2.1 p' hp').2.1
    have s1 := zx_toldSet hJ.2.1 hp
    have s2 := zx_toldSet hJ.2.1 hp'
    have s3 := zx_toldSet J2.2.1 hp
    have s4 := zx_toldSet J2.2.1 hp'
    have t1 := (hJ.2.1.1.2 p hp).2.2.2.2.1
    have t2 := (hJ.2.1.1.2 p' hp').2.2.2.2.1
    have u1 : zup (zup td' p v1) p' v2 p = v1 := by rw [zup_n hne, zup_s]
    have u2 : zup (zup td' p v1) p' v2 p' = v2 := zup_s
    have u3 : zup td' p v1 p' = td' p' := zup_n (Ne.symm hne)
    rw [u1] at s3
    rw [u2] at s4
    rw [u3] at hm2
    have rC : xX11_rest_L83 T B (nI p) (nI p') (ad p) (ad p') R' P' (nI w) = (if v1 = td' p then (if v2 = td' p' then (some (.inr (.inl (c2.2, zpf (zpf P' (ad p) 3 c1.1) (ad p') 3 c2.1, nI w)))) else some (.inl (c2.2, zpf (zpf P' (ad p) 3 c1.1) (ad p') 3 c2.1, nI (w + 1)))) else some (.inl (c2.2, zpf (zpf P' (ad p) 3 c1.1) (ad p') 3 c2.1, nI (w + 1)))) := by
      unfold xX11_rest_L83
      simp only [if_neg gw, if_neg (show ¬ P'.2.2.2 ≤ ad p by omega), if_neg (show ¬ P'.2.2.2 ≤ ad p' by omega), s1, s2, Option.bind_some, hc1, ht1, hc2, ht2, if_neg (show ¬ (zpf P' (ad p) 3 c1.1).2.2.2 ≤ ad p' by omega), if_neg (show ¬ (zpf (zpf P' (ad p) 3 c1.1) (ad p') 3 c2.1).2.2.2 ≤ ad p by omega), if_neg (show ¬ (zpf (zpf P' (ad p) 3 c1.1) (ad p') 3 c2.1).2.2.2 ≤ ad p' by omega), s3, s4, nI_eq (show v1 < 2 ^ 31 by omega) (show td' p < 2 ^ 31 by omega), nI_eq (show v2 < 2 ^ 31 by omega) (show td' p' < 2 ^ 31 by omega), nI_1]
    have rM : xX12_rest_L70 (nI p) (nI p') M' (nI w) = (if v1 = td' p then (if v2 = td' p' then (some (.inr (.inl (m2, nI w)))) else some (.inl (m2, nI (w + 1)))) else some (.inl (m2, nI (w + 1)))) := by
      unfold xX12_rest_L70
      simp only [if_neg gw, hm1, hm2, Option.bind_some, nI_1]
      by_cases y1 : v1 = td' p
      · by_cases y2 : v2 = td' p'
        · simp only [if_pos y1, if_pos y2, if_true]
        · simp only [if_pos y1, if_neg y2, if_true, z10, if_false]
      · simp only [if_neg y1, z10, if_false]
    try dsimp only
    rw [rC, rM]
    by_cases y1 : v1 = td' p
    · by_cases y2 : v2 = td' p'
      · rw [if_pos y1, if_pos y2, if_pos y1, if_pos y2]
        exact Or.inr ⟨_, _, rfl, rfl, Or.inl ⟨_, _, _, _, rfl, rfl, zInv_i J2⟩⟩
      · rw [if_pos y1, if_neg y2, if_pos y1, if_neg y2]
        exact Or.inl ⟨_, _, 11 - (w + 1), rfl, rfl, by omega, w + 1, _, _, _, _, by omega, by omega, rfl, rfl, rfl, J2⟩
    · rw [if_neg y1, if_neg y1]
      exact Or.inl ⟨_, _, 11 - (w + 1), rfl, rfl, by omega, w + 1, _, _, _, _, by omega, by omega, rfl, rfl, rfl, J2⟩
theorem zc_rest (h : zJA T R X F B P M n np nf nt nr par wt ans ad kd kn hd su td pt fc tp rw) (a1 a2 a3 : Int32) : zgo (xL_19 T R X F B P M a1 a2 a3) := by
  have hT := h.1
  have hP := h.2.1
  have hnp := hP.1.1
  unfold xL_19 xX11_rest xX12_rest
  rcases zarg_p hP a1 with ⟨p, hp, rfl, h1, h2⟩ | ⟨h1, h2⟩
  · obtain ⟨c1, c2, c3, c4, c5, c6, c7, c8⟩ := hP.2.2.1 p hp
    have v1 := (hP.1.2 p hp).1
    have m6 := (hP.2.2.2.2 p hp).1
    rcases zarg_p hP a2 with ⟨p', hp', rfl, h1', h2'⟩ | ⟨h1', h2'⟩
    · obtain ⟨d1, d2, d3, d4, d5, d6, d7, d8⟩ := hP.2.2.1 p' hp'
      have v1' := (hP.1.2 p' hp').1
      have m6' := (hP.2.2.2.2 p' hp').1
      simp only [h1, h2, h1', h2', Option.bind_some, z10, if_false, zon, if_neg (show ¬ P.2.2.2 ≤ ad p by omega), if_neg (show ¬ P.2.2.2 ≤ ad p' by omega)]
      by_cases e : nI p = nI p'
      · simp only [if_pos e, zx_ref1, zx_no1, Option.bind_some, if_true]
        exact zgo_i rfl (zInv_ref h zbR_r zbF_r (by decide))
      simp only [if_neg e, zx_kind c3 v1, zx_kind d3 v1', Option.bind_some, if_neg (zin_w (show p < 4 by omega) (by decide)), if_neg (zin_w (show p' < 4 by omega) (by decide)), nI_clamp (show p < 2 ^ 31 by omega), nI_clamp (show p' < 2 ^ 31 by omega), m6, m6', show (4 : Int32) = nI 4 from rfl, nI_eq (show kd p < 2 ^ 31 by omega) (show 4 < 2 ^ 31 by decide), nI_eq (show kd p' < 2 ^ 31 by omega) (show 4 < 2 ^ 31 by decide)]
      by_cases k1 : kd p = 4
      · by_cases k2 : kd p' = 4
        · simp only [if_pos k1, if_pos k2]
          rcases zarg_W hT with ⟨hW, h6, h7⟩ | ⟨-, h6, h7⟩
          · obtain ⟨a, b, ha, hb, g⟩ := zx_rests h hW hp hp' (fun z => e (by rw [z])) k1 k2
            simp only [h6, h7, Option.bind_some, z10, if_false, ha, hb]
            rcases g with ⟨R', P', M', w, rfl, rfl, hI⟩ | ⟨R', P', M', rfl, rfl, hI⟩
            · simp only [Sum.elim_inl, Option.bind_some, if_true]
              exact zgo_i rfl hI
            · simp only [Sum.elim_inr, Option.bind_some, if_true]
              exact zgo_i rfl hI
          · simp only [h6, h7, Option.bind_some, if_true, zx_ref3, zx_no3]
            exact zgo_i rfl (zInv_ref h zbR_r zbF_r (by decide))
        · simp only [if_pos k1, if_neg k2, Option.bind_some, if_true, zx_ref2, zx_no2]
          exact zgo_i rfl (zInv_ref h zbR_r zbF_r (by decide))
      · simp only [if_neg k1, Option.bind_some, if_true, zx_ref2, zx_no2]
        exact zgo_i rfl (zInv_ref h zbR_r zbF_r (by decide))
    · simp only [h1, h2, h1', h2', Option.bind_some, z10, if_false, if_true, zon, if_neg (show ¬ P.2.2.2 ≤ ad p by omega), zx_ref1, zx_no1]
      exact zgo_i rfl (zInv_ref h zbR_r zbF_r (by decide))
  · rcases zarg_p hP a2 with ⟨p', hp', rfl, h1', h2'⟩ | ⟨h1', h2'⟩
    · simp only [h1, h2, h1', Option.bind_some, if_true, zon, zx_ref1, zx_no1]
      exact zgo_i rfl (zInv_ref h zbR_r zbF_r (by decide))
    · simp only [h1, h2, h1', Option.bind_some, if_true, zon, zx_ref1, zx_no1]
      exact zgo_i rfl (zInv_ref h zbR_r zbF_r (by decide))
end
