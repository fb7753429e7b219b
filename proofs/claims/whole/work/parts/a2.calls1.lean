/-! single calls, the simple ones -/
def zInvS (S : zSt) : Prop := zInv S.1 S.2.1 S.2.2.1 S.2.2.2.1 S.2.2.2.2.1 S.2.2.2.2.2.1 S.2.2.2.2.2.2
def zgo (x : Option zSt) : Prop := ∃ S9, x = some S9 ∧ zInvS S9
section
variable {T T' R R' X X' F F' B B' : zM} {P P' : zP} {M M' : zM} {n np nf nt nr : Nat} {par wt ans ad kd kn hd su td pt fc tp rw : Nat → Nat}
theorem zgo_i {x : Option zSt} (h : x = some (T, R, X, F, B, P, M)) (hI : zInv T R X F B P M) : zgo x := ⟨_, h, hI⟩
theorem zInv_i (h : zJA T R X F B P M n np nf nt nr par wt ans ad kd kn hd su td pt fc tp rw) : zInv T R X F B P M := ⟨_, _, _, _, _, _, _, _, _, _, _, _, _, _, _, _, _, _, h⟩
theorem zIT_c (h : zIT T M n par wt ans) (hM : ∀ j k, (j = 0 ∧ k = 12) ∨ (2 ≤ j ∧ j ≤ 5) → M'.1 j k = M.1 j k) : zIT T M' n par wt ans := by
  obtain ⟨h1, h2, h3, h4⟩ := h
  refine ⟨h1, h2, ⟨(hM 0 12 (by decide)).trans h3.1, fun i hi => ?_⟩, fun i hi => (hM 5 i (by omega)).trans (h4 i hi)⟩
  rw [hM 2 i (by omega), hM 3 i (by omega), hM 4 i (by omega)]
  exact h3.2 i hi
theorem zIP_c (h : zIP R P M np ad kd kn hd su td) (hR : R'.1 62 2 = R.1 62 2) (hM : ∀ j k, (j = 0 ∧ k = 13) ∨ (6 ≤ j ∧ j ≤ 10) → M'.1 j k = M.1 j k) : zIP R' P M' np ad kd kn hd su td := by
  obtain ⟨h1, h2, h3, h4⟩ := h
  refine ⟨h1, hR.trans h2, h3, (hM 0 13 (by decide)).trans h4.1, fun p hp => ?_⟩
  rw [hM 6 p (by omega), hM 7 p (by omega), hM 8 p (by omega), hM 9 p (by omega), hM 10 p (by omega)]
  exact h4.2 p hp
theorem zIQ_c (h : zIQ R M pt) (hR : ∀ k, R'.1 64 k = R.1 64 k) (hM : ∀ j k, (11 ≤ j ∧ j ≤ 12) → M'.1 j k = M.1 j k) : zIQ R' M' pt := by
  obtain ⟨h1, h2, h3, h4, h5, h6, h7⟩ := h
  exact ⟨h1, fun k hk => (hR k).trans (h2 k hk), fun k hk => (hM 11 k (by omega)).trans (h3 k hk), (hM 12 0 (by decide)).trans h4, (hM 12 1 (by decide)).trans h5, (hM 12 2 (by decide)).trans h6, (hM 12 3 (by decide)).trans h7⟩
theorem zIF_c (h : zIF F M nf fc) (hM : ∀ j k, (j = 0 ∧ k = 44) ∨ j = 28 → M'.1 j k = M.1 j k) : zIF F M' nf fc := by
  obtain ⟨h1, h2, h3, h4, h5, h6⟩ := h
  exact ⟨h1, h2, h3, h4, (hM 0 44 (by decide)).trans h5, fun i hi => (hM 28 i (Or.inr rfl)).trans (h6 i hi)⟩
theorem zIX_c (h : zIX X M nt tp) (hM : ∀ j k, (j = 0 ∧ k = 21) ∨ j = 13 → M'.1 j k = M.1 j k) : zIX X M' nt tp := by
  obtain ⟨h1, h2, h3, h4⟩ := h
  exact ⟨h1, h2, (hM 0 21 (by decide)).trans h3, h4.1, fun i hi => by rw [hM 13 i (Or.inr rfl)]; exact h4.2 i hi⟩
theorem zIB_c (h : zIB B M nr rw) (hM : ∀ j k, (j = 0 ∧ k = 47) ∨ j = 31 ∨ j = 1 → M'.1 j k = M.1 j k) : zIB B M' nr rw := by
  obtain ⟨h1, h2, h3, h4, h5, h6, h7⟩ := h
  exact ⟨h1, h2, h3, h4, (hM 0 47 (by decide)).trans h5, fun i hi => (hM 31 i (by omega)).trans (h6 i hi), fun k hk => (h7 k hk).trans (hM 1 k (by omega)).symm⟩
theorem zImg_c (h : zImg n np nf par wt ans kd kn hd su fc B M) (hM : ∀ j k, (j = 0 ∧ k = 49) ∨ j = 32 → M'.1 j k = M.1 j k) : zImg n np nf par wt ans kd kn hd su fc B M' := zImg_k h (fun k => hM 32 k (Or.inr rfl)) (hM 0 49 (by decide)) (fun _ _ _ _ _ => rfl)
theorem z10 : ((1 : Int32) = 0) = False := by decide
/-! word -/
theorem zx_parentOf (hT : zIT T M n par wt ans) {w : Nat} (hw : w < n) : xX10_parentOf T (nI w) = some (nI (par w)) := by
  have hn := hT.1.2.1
  have h1 := zx_has hn hT.2.1.1.1 hw
  have h3 := (hT.2.1.1.2 w hw).1
  simp (disch := first | assumption | omega) only [zlet, nI_leI, nI_ltI, nI_eq, nI_eq0, nI_clamp, nI_neg0, nI_add, nI_1, false_or, or_false, if_pos, if_neg, Int32.add_zero, Nat.add_zero, Option.bind_some, if_true, if_false, and_true, true_and, and_false, false_and, nI_10, nI_mul, zl2, zl3, zl4, zl5, zl6, zl8, zl9, zl20, zl24, zor0, zsi_g, zsj_g, zsi_2, zsj_1, xX10_parentOf, h1, z10, h3]
theorem zx_weightOf (hT : zIT T M n par wt ans) {w : Nat} (hw : w < n) : xX10_weightOf T (nI w) = some (nI (wt w)) := by
  have hn := hT.1.2.1
  have h1 := zx_has hn hT.2.1.1.1 hw
  have h3 := (hT.2.1.1.2 w hw).2.1
  simp (disch := first | assumption | omega) only [zlet, nI_leI, nI_ltI, nI_eq, nI_eq0, nI_clamp, nI_neg0, nI_add, nI_1, false_or, or_false, if_pos, if_neg, Int32.add_zero, Nat.add_zero, Option.bind_some, if_true, if_false, and_true, true_and, and_false, false_and, nI_10, nI_mul, zl2, zl3, zl4, zl5, zl6, zl8, zl9, zl20, zl24, zor0, zsi_g, zsj_g, zsi_2, zsj_1, xX10_weightOf, h1, z10, h3]
theorem zx_nextsOf (hT : zIT T M n par wt ans) {w : Nat} (hw : w < n) : xX10_nextsOf T (nI w) = some (nI (znx n par w)) := by
  have hn := hT.1.2.1
  have h1 := zx_has hn hT.2.1.1.1 hw
  have h3 := (hT.2.1.2.1 w hw).1
  simp (disch := first | assumption | omega) only [zlet, nI_leI, nI_ltI, nI_eq, nI_eq0, nI_clamp, nI_neg0, nI_add, nI_1, false_or, or_false, if_pos, if_neg, Int32.add_zero, Nat.add_zero, Option.bind_some, if_true, if_false, and_true, true_and, and_false, false_and, nI_10, nI_mul, zl2, zl3, zl4, zl5, zl6, zl8, zl9, zl20, zl24, zor0, zsi_g, zsj_g, zsi_2, zsj_1, xX10_nextsOf, h1, z10, h3]
theorem zx_nextSumOf (hT : zIT T M n par wt ans) {w : Nat} (hw : w < n) : xX10_nextSumOf T (nI w) = some (nI (zsw n par wt w)) := by
  have hn := hT.1.2.1
  have h1 := zx_has hn hT.2.1.1.1 hw
  have h3 := (hT.2.1.2.1 w hw).2.1
  simp (disch := first | assumption | omega) only [zlet, nI_leI, nI_ltI, nI_eq, nI_eq0, nI_clamp, nI_neg0, nI_add, nI_1, false_or, or_false, if_pos, if_neg, Int32.add_zero, Nat.add_zero, Option.bind_some, if_true, if_false, and_true, true_and, and_false, false_and, nI_10, nI_mul, zl2, zl3, zl4, zl5, zl6, zl8, zl9, zl20, zl24, zor0, zsi_g, zsj_g, zsi_2, zsj_1, xX10_nextSumOf, h1, z10, h3]
theorem zx_behindOf (hT : zIT T M n par wt ans) {w : Nat} (hw : w < n) : xX10_behindOf T (nI w) = some (nI (zbh n par ans w)) := by
  have hn := hT.1.2.1
  have h1 := zx_has hn hT.2.1.1.1 hw
  have h3 := (hT.2.1.2.1 w hw).2.2.1
  simp (disch := first | assumption | omega) only [zlet, nI_leI, nI_ltI, nI_eq, nI_eq0, nI_clamp, nI_neg0, nI_add, nI_1, false_or, or_false, if_pos, if_neg, Int32.add_zero, Nat.add_zero, Option.bind_some, if_true, if_false, and_true, true_and, and_false, false_and, nI_10, nI_mul, zl2, zl3, zl4, zl5, zl6, zl8, zl9, zl20, zl24, zor0, zsi_g, zsj_g, zsi_2, zsj_1, xX10_behindOf, h1, z10, h3]
theorem zc_word (h : zJA T R X F B P M n np nf nt nr par wt ans ad kd kn hd su td pt fc tp rw) (a1 a2 a3 : Int32) : zgo (xL_2 T R X F B P M a1 a2 a3) := by
  have hT := h.1
  have hn := hT.1.2.1
  unfold xL_2 xX11_word xX12_word
  rcases zarg_w hT a1 with ⟨w, hw, rfl, h1, h2⟩ | ⟨-, h1, h2⟩
  · simp only [h1, h2, Option.bind_some, z10, if_false, zx_parentOf hT hw, zx_weightOf hT hw, zx_answerOf hn hT.2.1.1 hw, zx_lengthOf hn hT.2.1 hw, zx_nextsOf hT hw, zx_nexts hT.1 hT.2.2.1 hw, if_neg (zin_w (show w < 24 by omega) (by decide)), nI_clamp (show w < 2 ^ 31 by omega), (hT.2.2.1.2 w hw).1, (hT.2.2.1.2 w hw).2.1, (hT.2.2.1.2 w hw).2.2, hT.2.2.2 w hw, zx_ref2, zx_no2]
    by_cases c0 : a2 = 0
    · simp only [if_pos c0, Option.bind_some, if_true]
      exact zgo_i rfl (zInv_i h)
    by_cases c1 : a2 = 1
    · simp only [if_neg c0, if_pos c1, Option.bind_some, if_true]
      exact zgo_i rfl (zInv_i h)
    by_cases c2 : a2 = 2
    · simp only [if_neg c0, if_neg c1, if_pos c2, Option.bind_some, if_true]
      exact zgo_i rfl (zInv_i h)
    by_cases c3 : a2 = 3
    · simp only [if_neg c0, if_neg c1, if_neg c2, if_pos c3, Option.bind_some, if_true]
      exact zgo_i rfl (zInv_i h)
    by_cases c4 : a2 = 4
    · simp only [if_neg c0, if_neg c1, if_neg c2, if_neg c3, if_pos c4, Option.bind_some, if_true]
      exact zgo_i rfl (zInv_i h)
    · simp only [if_neg c0, if_neg c1, if_neg c2, if_neg c3, if_neg c4, Option.bind_some, if_true]
      exact zgo_i rfl (zInv_ref h zbR_r zbF_r (by decide))
  · simp only [h1, h2, Option.bind_some, if_true, zx_ref1, zx_no1]
    exact zgo_i rfl (zInv_ref h zbR_r zbF_r (by decide))
/-! player -/
theorem zx_kind {a k : Nat} (h : P.2.1 a = k) (hk : k ≤ 5) : xv_kind P a = some (nI k) := by
  have hc : k = 0 ∨ k = 1 ∨ k = 2 ∨ k = 3 ∨ k = 4 ∨ k = 5 := by omega
  unfold xv_kind
  rw [h]
  rcases hc with rfl | rfl | rfl | rfl | rfl | rfl <;> rfl
theorem zx_toldSet (hP : zIP R P M np ad kd kn hd su td) {p : Nat} (hp : p < np) : xv_toldSet P (ad p) = some (nI (td p)) := by
  obtain ⟨c1, c2, c3, c4, c5, c6, c7, c8⟩ := hP.2.2.1 p hp
  obtain ⟨v1, v2, v3, v4, v5, v6⟩ := hP.1.2 p hp
  unfold xv_toldSet
  rw [c3]
  have hc : kd p = 0 ∨ kd p = 1 ∨ kd p = 2 ∨ kd p = 3 ∨ kd p = 4 ∨ kd p = 5 := by omega
  rcases hc with q | q | q | q | q | q
  · rw [v6 (by omega), if_pos q]; rfl
  · rw [v6 (by omega), if_neg (by omega), if_pos q]; rfl
  · rw [v6 (by omega), if_neg (by omega), if_neg (by omega), if_pos q]; rfl
  · rw [v6 (by omega), if_neg (by omega), if_neg (by omega), if_neg (by omega), if_pos q]; rfl
  · rw [if_neg (by omega), if_neg (by omega), if_neg (by omega), if_neg (by omega), if_pos q]
    unfold xX9_toldSet_k4
    rw [c7 (by omega)]
    rfl
  · rw [if_neg (by omega), if_neg (by omega), if_neg (by omega), if_neg (by omega), if_neg (by omega)]
    unfold xX9_toldSet_k5
    rw [c7 (by omega)]
    rfl
theorem zc_player (h : zJA T R X F B P M n np nf nt nr par wt ans ad kd kn hd su td pt fc tp rw) (a1 a2 a3 : Int32) : zgo (xL_3 T R X F B P M a1 a2 a3) := by
  have hP := h.2.1
  have hnp := hP.1.1
  unfold xL_3 xX11_player xX12_player
  rcases zarg_p hP a1 with ⟨p, hp, rfl, h1, h2⟩ | ⟨h1, h2⟩
  · obtain ⟨c1, c2, c3, c4, c5, c6, c7, c8⟩ := hP.2.2.1 p hp
    obtain ⟨v1, v2, v3, v4, v5, v6⟩ := hP.1.2 p hp
    obtain ⟨m1, m2, m3, m4, m5⟩ := hP.2.2.2.2 p hp
    have hm : (if nI (kd p) = (4 : Int32) then (some (nI (td p), M) : Option (Int32 × zM)) else some ((0 : Int32), M)) = some (nI (td p), M) := by
      by_cases q : kd p = 4
      · rw [if_pos (by rw [q]; rfl)]
      · rw [if_neg (by rw [zl4, nI_eq (by omega) (by decide)]; exact q), v6 q]
        rfl
    simp only [h1, h2, Option.bind_some, z10, if_false, zon, if_neg (show ¬ P.2.2.2 ≤ ad p by omega), zx_kind c3 v1, c4, c5, c6, zx_toldSet hP hp, if_neg (zin_w (show p < 4 by omega) (by decide)), nI_clamp (show p < 2 ^ 31 by omega), m1, m2, m3, m4, m5, zx_ref2, zx_no2, hm]
    by_cases d0 : a2 = 0
    · simp only [if_pos d0, Option.bind_some, if_true]
      exact zgo_i rfl (zInv_i h)
    by_cases d1 : a2 = 1
    · simp only [if_neg d0, if_pos d1, Option.bind_some, if_true]
      exact zgo_i rfl (zInv_i h)
    by_cases d2 : a2 = 2
    · simp only [if_neg d0, if_neg d1, if_pos d2, Option.bind_some, if_true]
      exact zgo_i rfl (zInv_i h)
    by_cases d3 : a2 = 3
    · simp only [if_neg d0, if_neg d1, if_neg d2, if_pos d3, Option.bind_some, if_true]
      exact zgo_i rfl (zInv_i h)
    by_cases d4 : a2 = 4
    · simp only [if_neg d0, if_neg d1, if_neg d2, if_neg d3, if_pos d4, Option.bind_some, if_true]
      exact zgo_i rfl (zInv_i h)
    · simp only [if_neg d0, if_neg d1, if_neg d2, if_neg d3, if_neg d4, Option.bind_some, if_true]
      exact zgo_i rfl (zInv_ref h zbR_r zbF_r (by decide))
  · simp only [h1, h2, Option.bind_some, if_true, zon, zx_ref1, zx_no1]
    exact zgo_i rfl (zInv_ref h zbR_r zbF_r (by decide))
/-! whole, left -/
theorem zc_whole (h : zJA T R X F B P M n np nf nt nr par wt ans ad kd kn hd su td pt fc tp rw) (a1 a2 a3 : Int32) : zgo (xL_4 T R X F B P M a1 a2 a3) := by
  unfold xL_4 xX11_whole xX12_whole
  rcases zarg_W h.1 with ⟨-, h1, h2⟩ | ⟨-, h1, h2⟩
  · simp only [h1, h2, Option.bind_some, z10, if_false, if_true]
    exact zgo_i rfl (zInv_i h)
  · simp only [h1, h2, Option.bind_some, if_true]
    exact zgo_i rfl (zInv_i h)
theorem zx_left (hT : zIT T M n par wt ans) {w : Nat} (hw : w < n) : x_it (fun a9 => xX12_left_L18 M (nI w) a9.1 a9.2) zFU ((0 : Int32), nI w) = some (nI (zbh n par ans w)) := by
  have hV := hT.1
  have hn := hV.2.1
  refine zfor (fun c => (nI (zop (· ||| ·) 0 (fun e => if zbe par e w = true then (if ans e = 0 then 0 else 2 ^ ans e) else 0) c), nI c)) w n (by omega) (by omega) ?_ ?_ ?_
  · rw [zop_u Nat.or_zero]
    · rfl
    · intro i hi
      refine if_neg (fun z => ?_)
      have := zbe_le hV i i w (Nat.le_refl _) (by omega) z
      omega
  · intro c h1 h2
    have ha := zans_le hV h2
    have t3 := (hT.2.2.1.2 c h2).2.2
    have hb := zx_isBehind hV hT.2.2.1 h2 hw
    have es : zop (· ||| ·) 0 (fun e => if zbe par e w = true then (if ans e = 0 then 0 else 2 ^ ans e) else 0) (c + 1) = zop (· ||| ·) 0 (fun e => if zbe par e w = true then (if ans e = 0 then 0 else 2 ^ ans e) else 0) c ||| (if zbe par c w = true then (if ans c = 0 then 0 else 2 ^ ans c) else 0) := rfl
    rw [es]
    by_cases q : ans c = 0
    · rw [if_pos q, ite_self, Nat.or_zero]
      simp (disch := first | assumption | omega) only [zlet, nI_leI, nI_ltI, nI_eq, nI_eq0, nI_clamp, nI_neg0, nI_add, nI_1, false_or, or_false, if_pos, if_neg, Int32.add_zero, Nat.add_zero, Option.bind_some, if_true, if_false, and_true, true_and, and_false, false_and, nI_10, nI_mul, zl2, zl3, zl4, zl5, zl6, zl8, zl9, zl20, zl24, zor0, zsi_g, zsj_g, zsi_2, zsj_1, xX12_left_L18, hT.2.2.1.1, t3]
    · by_cases r : zbe par c w = true
      · rw [if_pos r] at hb
        rw [if_pos r, if_neg q]
        simp (disch := first | assumption | omega) only [zlet, nI_leI, nI_ltI, nI_eq, nI_eq0, nI_clamp, nI_neg0, nI_add, nI_1, false_or, or_false, if_pos, if_neg, Int32.add_zero, Nat.add_zero, Option.bind_some, if_true, if_false, and_true, true_and, and_false, false_and, nI_10, nI_mul, zl2, zl3, zl4, zl5, zl6, zl8, zl9, zl20, zl24, zor0, zsi_g, zsj_g, zsi_2, zsj_1, xX12_left_L18, hT.2.2.1.1, t3, hb, z10, zshl, zor]
      · rw [if_neg r] at hb
        rw [if_neg r, Nat.or_zero]
        simp (disch := first | assumption | omega) only [zlet, nI_leI, nI_ltI, nI_eq, nI_eq0, nI_clamp, nI_neg0, nI_add, nI_1, false_or, or_false, if_pos, if_neg, Int32.add_zero, Nat.add_zero, Option.bind_some, if_true, if_false, and_true, true_and, and_false, false_and, nI_10, nI_mul, zl2, zl3, zl4, zl5, zl6, zl8, zl9, zl20, zl24, zor0, zsi_g, zsj_g, zsi_2, zsj_1, xX12_left_L18, hT.2.2.1.1, t3, hb]
  · simp (disch := first | assumption | omega) only [zlet, nI_leI, nI_ltI, nI_eq, nI_eq0, nI_clamp, nI_neg0, nI_add, nI_1, false_or, or_false, if_pos, if_neg, Int32.add_zero, Nat.add_zero, Option.bind_some, if_true, if_false, and_true, true_and, and_false, false_and, nI_10, nI_mul, zl2, zl3, zl4, zl5, zl6, zl8, zl9, zl20, zl24, zor0, zsi_g, zsj_g, zsi_2, zsj_1, xX12_left_L18, hT.2.2.1.1, zbh]
theorem zc_left (h : zJA T R X F B P M n np nf nt nr par wt ans ad kd kn hd su td pt fc tp rw) (a1 a2 a3 : Int32) : zgo (xL_5 T R X F B P M a1 a2 a3) := by
  unfold xL_5 xX11_left xX12_left
  rcases zarg_w h.1 a1 with ⟨w, hw, rfl, h1, h2⟩ | ⟨-, h1, h2⟩
  · simp only [h1, h2, Option.bind_some, z10, if_false, zx_behindOf h.1 hw, zx_left h.1 hw, if_true]
    exact zgo_i rfl (zInv_i h)
  · simp only [h1, h2, Option.bind_some, if_true, zx_ref1, zx_no1]
    exact zgo_i rfl (zInv_ref h zbR_r zbF_r (by decide))
end
