/-! single calls: points, sets, facts, the row, counts, feed -/
section
variable {T T' R R' X X' F F' B B' : zM} {P P' : zP} {M M' : zM} {n np nf nt nr : Nat} {par wt ans ad kd kn hd su td pt fc tp rw : Nat → Nat}
theorem zarg_in (v : Int32) {lo hi : Nat} (L H : Int32) (hL : L = nI lo) (hH : H = nI hi) (h1 : lo ≤ hi) (h2 : hi < 2000) : (∃ k, lo ≤ k ∧ k ≤ hi ∧ v = nI k ∧ xX12_isIn v L H = some 1) ∨ ((v < nI lo ∨ nI hi < v) ∧ xX12_isIn v L H = some 0) := by
  subst hL hH
  unfold xX12_isIn
  by_cases g1 : v < nI lo
  · exact Or.inr ⟨Or.inl g1, by rw [if_pos g1]⟩
  · by_cases g2 : nI hi < v
    · exact Or.inr ⟨Or.inr g2, by rw [if_neg g1, if_pos g2]⟩
    · left
      have hv0 : ¬ v < 0 := by
        rw [Int32.lt_iff_toInt_lt, nI_toInt (by omega)] at g1
        rw [Int32.lt_iff_toInt_lt]
        have : ((0 : Int32)).toInt = 0 := by decide
        omega
      obtain ⟨k, hk, rfl⟩ := nI_of hv0
      refine ⟨k, ?_, ?_, rfl, by rw [if_neg g1, if_neg g2]⟩
      · rw [nI_ltI hk (by omega)] at g1
        omega
      · rw [nI_ltI (by omega) hk] at g2
        omega
def zmx (k : Nat) : Nat := if k = 0 then 20 else if k = 1 then 20 else if k = 2 then 5 else 1
theorem zVQ_mx (h : zVQ pt) {k j : Nat} (hk : k < 4) (hj : j ≤ zmx k) : zVQ (zup pt k j) := by
  obtain ⟨h0, h1, h2, h3⟩ := h
  have hc : k = 0 ∨ k = 1 ∨ k = 2 ∨ k = 3 := by omega
  rcases hc with rfl | rfl | rfl | rfl
  · exact ⟨hj, h1, h2, h3⟩
  · exact ⟨h0, hj, h2, h3⟩
  · exact ⟨h0, h1, hj, h3⟩
  · exact ⟨h0, h1, h2, hj⟩
theorem zIQ_pt (h : zIQ R M pt) {k j : Nat} (hk : k < 4) (hj : j ≤ zmx k) : zIQ (zsi R 64 k (nI j)) (zsi M 11 k (nI j)) (zup pt k j) := by
  obtain ⟨h1, h2, h3, h4, h5, h6, h7⟩ := h
  refine ⟨zVQ_mx h1 hk hj, fun q hq => ?_, fun q hq => ?_, (zsi_ne (by omega)).trans h4, (zsi_ne (by omega)).trans h5, (zsi_ne (by omega)).trans h6, (zsi_ne (by omega)).trans h7⟩
  · by_cases g : q = k
    · rw [zsi_y ⟨rfl, g⟩, g, zup_s]
    · rw [zsi_ne (fun z => g z.2), zup_n g]
      exact h2 q hq
  · by_cases g : q = k
    · rw [zsi_y ⟨rfl, g⟩, g, zup_s]
    · rw [zsi_ne (fun z => g z.2), zup_n g]
      exact h3 q hq
theorem zJA_pt (h : zJA T R X F B P M n np nf nt nr par wt ans ad kd kn hd su td pt fc tp rw) {k j : Nat} (hk : k < 4) (hj : j ≤ zmx k) : zJA T (zsi R 64 k (nI j)) X F B P (zsi M 11 k (nI j)) n np nf nt nr par wt ans ad kd kn hd su td (zup pt k j) fc tp rw := by
  obtain ⟨h1, h2, h3, h4, h5, h6, h7⟩ := h
  exact ⟨zIT_c h1 (fun a b g => zsi_ne (by omega)), zIP_c h2 (zsi_ne (by omega)) (fun a b g => zsi_ne (by omega)), zIQ_pt h3 hk hj, zIF_c h4 (fun a b g => zsi_ne (by omega)), zIX_c h5 (fun a b g => zsi_ne (by omega)), zIB_c h6 (fun a b g => zsi_ne (by omega)), zImg_c h7 (fun a b g => zsi_ne (by omega))⟩
theorem zGP_mx : ∀ k, k < 4 → zGP (nI k) = nI (zmx k) := by decide
theorem zmx_le {k : Nat} : zmx k ≤ 20 := by
  unfold zmx
  split
  · omega
  · split
    · omega
    · split <;> omega
theorem zc_points (h : zJA T R X F B P M n np nf nt nr par wt ans ad kd kn hd su td pt fc tp rw) (a1 a2 a3 : Int32) : zgo (xL_8 T R X F B P M a1 a2 a3) := by
  have hQ := h.2.2.1
  unfold xL_8 xX11_points xX12_points
  rcases zarg_in a1 (lo := 0) (hi := 3) 0 3 rfl rfl (by decide) (by decide) with ⟨k, -, hk, rfl, h1⟩ | ⟨hv, h1⟩
  · have hk4 : k < 4 := by omega
    have hmx : M.1 12 k = nI (zmx k) := by
      obtain ⟨-, -, -, e0, e1, e2, e3⟩ := hQ
      have hc : k = 0 ∨ k = 1 ∨ k = 2 ∨ k = 3 := by omega
      rcases hc with rfl | rfl | rfl | rfl
      · exact e0
      · exact e1
      · exact e2
      · exact e3
    have hl := zmx_le (k := k)
    have e4 : nI k < (4 : Int32) := by rw [zl4]; exact nI_lt hk4 (by decide)
    have hb := zarg_b a2 (lo := 0) (hi := zmx k) (Nat.zero_le _) (by omega)
    rw [nI_0] at hb
    simp only [h1, Option.bind_some, z10, if_false, if_neg (nI_pos (show k < 2 ^ 31 by omega)), if_pos e4, if_neg (zin_w hk4 (by decide)), nI_clamp (show k < 2 ^ 31 by omega), hmx, zGP_mx k hk4]
    rcases hb with ⟨g, b1⟩ | ⟨j, -, hj, rfl, b1⟩ | ⟨g, b1⟩
    · have g0 : ¬ 0 ≤ a2 := by rw [zile]; rw [zilt] at g; omega
      simp only [if_neg g0, b1, Option.bind_some, zx_ref4, if_neg (show ¬ (-4 : Int32) = 0 by decide), zx_no4, if_true]
      exact zgo_i rfl (zInv_ref h zbR_r zbF_r (by decide))
    · have g1 : xX6_pointOf R (nI k) = some (nI (pt k)) := by
        unfold xX6_pointOf
        rw [if_neg (nI_pos (by omega)), zl4, if_neg (by rw [nI_leI (by omega) (by omega)]; omega), if_neg (nI_in hk4 (by decide)), nI_clamp (by omega), hQ.2.1 k hk4]
      have g2 : xX6_setPoint R (nI k) (nI j) = some (zsi R 64 k (nI j)) := by
        unfold xX6_setPoint
        simp only [zlet]
        rw [if_neg (nI_pos (by omega)), zl4, if_neg (by rw [nI_leI (by omega) (by omega)]; omega), if_neg (nI_in hk4 (by decide)), nI_clamp (by omega)]
      simp only [if_pos (nI_pos' (show j < 2 ^ 31 by omega)), if_pos (nI_le hj (by omega)), b1, Option.bind_some, g1, g2, if_true, zlet, hQ.2.2.1 k hk4]
      exact zgo_i rfl (zInv_i (zJA_pt h hk4 hj))
    · have g0 : 0 ≤ a2 := by
        rw [zile]
        rw [zilt, nI_toInt (by omega)] at g
        have : ((0 : Int32)).toInt = 0 := by decide
        omega
      have g2 : ¬ a2 ≤ nI (zmx k) := by rw [zile]; rw [zilt] at g; omega
      simp only [if_pos g0, if_neg g2, b1, Option.bind_some, zx_ref6, if_neg (show ¬ (-6 : Int32) = 0 by decide), zx_no6, if_true]
      exact zgo_i rfl (zInv_ref h zbR_r zbF_r (by decide))
  · simp only [h1, Option.bind_some, if_true, zx_no2]
    by_cases g : a1 < 0
    · simp only [if_pos g, zx_ref2, Option.bind_some, if_true]
      exact zgo_i rfl (zInv_ref h zbR_r zbF_r (by decide))
    · have g2 : ¬ a1 < (4 : Int32) := by
        have h3 := hv.resolve_left g
        rw [zilt]
        rw [zilt, nI_toInt (by decide)] at h3
        have : ((4 : Int32)).toInt = 4 := by decide
        omega
      simp only [if_neg g, if_neg g2, zx_ref2, Option.bind_some, if_true]
      exact zgo_i rfl (zInv_ref h zbR_r zbF_r (by decide))
/-! setOf -/
theorem zI_nat (v : Int32) : ∃ s : Nat, s < 2 ^ 32 ∧ v = nI s := by
  refine ⟨v.toBitVec.toNat, v.toBitVec.isLt, Int32.toBitVec_inj.mp ?_⟩
  show v.toBitVec = BitVec.ofNat 32 v.toBitVec.toNat
  rw [BitVec.ofNat_toNat, BitVec.setWidth_eq]
theorem nI_zero {x : Nat} (hx : x < 2 ^ 32) (h : nI x = 0) : x = 0 := by
  have := congrArg (fun v : Int32 => v.toBitVec.toNat) h
  have h2 : (BitVec.ofNat 32 x).toNat = 0 := this
  rw [BitVec.toNat_ofNat, Nat.mod_eq_of_lt hx] at h2
  exact h2
theorem zneg_bits {v : Int32} (hv : v < 0) {a : Nat} (ha : a < 2 ^ 31) : ¬ (v &&& (nI a ^^^ (-1 : Int32))) = 0 := by
  obtain ⟨s, hs, rfl⟩ := zI_nat v
  have hs2 : 2 ^ 31 ≤ s := by
    rcases Nat.lt_or_ge s (2 ^ 31) with g | g
    · exact absurd hv (nI_pos g)
    · exact g
  rw [show (-1 : Int32) = nI (2 ^ 32 - 1) by decide, zxor, zand]
  intro h
  have h0 := nI_zero (Nat.lt_of_le_of_lt Nat.and_le_left hs) h
  have h1 : (s &&& (a ^^^ (2 ^ 32 - 1))).testBit 31 = false := by rw [h0]; exact Nat.zero_testBit _
  rw [Nat.testBit_and, Nat.testBit_xor, Nat.testBit_two_pow_sub_one, Nat.testBit_lt_two_pow ha] at h1
  have h2 : s.testBit 31 = true := by
    rw [Nat.testBit, Nat.shiftRight_eq_div_pow]
    have : s / 2 ^ 31 = 1 := by omega
    rw [this]
    decide
  rw [h2] at h1
  revert h1
  decide
theorem zall_bits {n s : Nat} (hs : s < 2 ^ 31) : ((nI s &&& (nI (2 ^ n - 1) ^^^ (-1 : Int32))) = 0) = (s < 2 ^ n) := by
  rw [zsub_bits hs]
  refine propext ⟨fun h => ?_, fun h k hk => ?_⟩
  · refine Nat.lt_pow_two_of_testBit s (fun i hi => ?_)
    cases hb : s.testBit i with
    | false => rfl
    | true =>
      have := h i hb
      rw [Nat.testBit_two_pow_sub_one] at this
      have := of_decide_eq_true this
      omega
  · rw [Nat.testBit_two_pow_sub_one]
    refine decide_eq_true ?_
    rcases Nat.lt_or_ge k n with g | g
    · exact g
    · rw [Nat.testBit_lt_two_pow (Nat.lt_of_lt_of_le h (Nat.pow_le_pow_right (by decide) g))] at hk
      cases hk
theorem zx_allWords (hT : zIT T M n par wt ans) : xX10_allWords T = some (nI (2 ^ n - 1)) := by
  have hn := hT.1.2.1
  unfold xX10_allWords
  rw [hT.2.1.1.1, zshl n (by omega), show (1 : Int32) = nI 1 from rfl, nI_sub (Nat.two_pow_pos n)]
theorem zx_tell4 {a : Nat} {v : Int32} (h : P.2.1 a = 4) : xv_tell P a v = some (zpf P a 3 v) := by
  unfold xv_tell
  rw [h]
  rfl
theorem zIP_told (hP : zIP R P M np ad kd kn hd su td) {p t : Nat} (hp : p < np) (hk : kd p = 4) (ht : t < 2 ^ 24) (hM : ∀ j k, (j = 0 ∧ k = 13) ∨ (6 ≤ j ∧ j ≤ 9) → M'.1 j k = M.1 j k) (h10 : ∀ q, M'.1 10 q = if q = p then nI t else M.1 10 q) (hR : R'.1 62 2 = R.1 62 2) : zIP R' (zpf P (ad p) 3 (nI t)) M' np ad kd kn hd su (zup td p t) := by
  obtain ⟨⟨v0, v⟩, h2, h3, h4, h5⟩ := hP
  refine ⟨⟨v0, fun q hq => ?_⟩, hR.trans h2, fun q hq => ?_, (hM 0 13 (by decide)).trans h4, fun q hq => ?_⟩
  · obtain ⟨v1, v2, v3, v4, v5, v6⟩ := v q hq
    refine ⟨v1, v2, v3, v4, ?_, fun g => ?_⟩
    · unfold zup
      split
      · exact ht
      · exact v5
    · have : q ≠ p := fun z => g (z ▸ hk)
      rw [zup_n this]
      exact v6 g
  · obtain ⟨c1, c2, c3, c4, c5, c6, c7, c8⟩ := h3 q hq
    have cell : ∀ f, (zpf P (ad p) 3 (nI t)).2.2.1 (ad q) f = if q = p ∧ f = 3 then nI t else P.2.2.1 (ad q) f := by
      intro f
      show (if ad q = ad p then upd (P.2.2.1 (ad q)) 3 (nI t) else P.2.2.1 (ad q)) f = _
      by_cases g : q = p
      · rw [if_pos (by rw [g])]
        unfold upd
        by_cases g2 : f = 3
        · rw [if_pos g2, if_pos ⟨g, g2⟩]
        · rw [if_neg g2, if_neg (fun z => g2 z.2)]
      · rw [if_neg (fun z => g (c8 p hp z)), if_neg (fun z => g z.1)]
    refine ⟨c1, c2, c3, ?_, ?_, ?_, fun g => ?_, c8⟩
    · rw [cell, if_neg (fun z => absurd z.2 (by decide))]; exact c4
    · rw [cell, if_neg (fun z => absurd z.2 (by decide))]; exact c5
    · rw [cell, if_neg (fun z => absurd z.2 (by decide))]; exact c6
    · rw [cell]
      by_cases g2 : q = p
      · rw [if_pos ⟨g2, rfl⟩, g2, zup_s]
      · rw [if_neg (fun z => g2 z.1), zup_n g2]
        exact c7 g
  · obtain ⟨m1, m2, m3, m4, m5⟩ := h5 q hq
    refine ⟨(hM 6 q (by omega)).trans m1, (hM 7 q (by omega)).trans m2, (hM 8 q (by omega)).trans m3, (hM 9 q (by omega)).trans m4, ?_⟩
    rw [h10]
    by_cases g : q = p
    · rw [if_pos g, g, zup_s]
    · rw [if_neg g, zup_n g]
      exact m5
theorem zJA_told (h : zJA T R X F B P M n np nf nt nr par wt ans ad kd kn hd su td pt fc tp rw) {p t : Nat} (hp : p < np) (hk : kd p = 4) (ht : t < 2 ^ 24) (hR : zbR R R') (hM : ∀ j k, zba j k = true → ¬ (j = 10 ∧ k = p) → M'.1 j k = M.1 j k) (h10 : M'.1 10 p = nI t) : zJA T R' X F B (zpf P (ad p) 3 (nI t)) M' n np nf nt nr par wt ans ad kd kn hd su (zup td p t) pt fc tp rw := by
  obtain ⟨h1, h2, h3, h4, h5, h6, h7⟩ := h
  have zb : ∀ j k, (j = 0 ∧ (k = 12 ∨ k = 13 ∨ k = 21 ∨ k = 44 ∨ k = 47 ∨ k = 49)) ∨ (1 ≤ j ∧ j ≤ 13) ∨ j = 28 ∨ j = 31 ∨ j = 32 → zba j k = true := by
    intro j k g
    unfold zba
    by_cases q : j = 0
    · rw [if_pos q]
      exact decide_eq_true (by omega)
    · rw [if_neg q]
      exact decide_eq_true (by omega)
  refine ⟨zIT_c h1 (fun a b g => hM a b (zb a b (by omega)) (by omega)), zIP_told h2 hp hk ht (fun a b g => hM a b (zb a b (by omega)) (by omega)) (fun q => ?_) (hR 62 2 (Or.inr ⟨rfl, rfl⟩)), zIQ_c h3 (fun k => hR 64 k (Or.inl rfl)) (fun a b g => hM a b (zb a b (by omega)) (by omega)), zIF_c h4 (fun a b g => hM a b (zb a b (by omega)) (by omega)), zIX_c h5 (fun a b g => hM a b (zb a b (by omega)) (by omega)), zIB_c h6 (fun a b g => hM a b (zb a b (by omega)) (by omega)), zImg_c h7 (fun a b g => hM a b (zb a b (by omega)) (by omega))⟩
  by_cases g : q = p
  · rw [if_pos g, g, h10]
  · rw [if_neg g]
    exact hM 10 q (zb 10 q (by omega)) (fun z => g z.2)
theorem zc_setOf (h : zJA T R X F B P M n np nf nt nr par wt ans ad kd kn hd su td pt fc tp rw) (a1 a2 a3 : Int32) : zgo (xL_9 T R X F B P M a1 a2 a3) := by
  have hT := h.1
  have hP := h.2.1
  have hn := hT.1.2.1
  have hnp := hP.1.1
  unfold xL_9 xX11_setOf xX12_setOf
  rcases zarg_p hP a1 with ⟨p, hp, rfl, h1, h2⟩ | ⟨h1, h2⟩
  · obtain ⟨c1, c2, c3, c4, c5, c6, c7, c8⟩ := hP.2.2.1 p hp
    obtain ⟨v1, v2, v3, v4, v5, v6⟩ := hP.1.2 p hp
    obtain ⟨m1, m2, m3, m4, m5⟩ := hP.2.2.2.2 p hp
    simp only [h1, h2, Option.bind_some, z10, if_false, zon, if_neg (show ¬ P.2.2.2 ≤ ad p by omega), zx_allWords hT, zx_kind c3 v1, zx_toldSet hP hp, if_neg (zin_w (show p < 4 by omega) (by decide)), nI_clamp (show p < 2 ^ 31 by omega), m1, m5, zx_ref1, zx_no1, zx_ref2, zx_no2, hT.2.2.1.1]
    by_cases g : a2 < 0
    · simp only [if_pos g, if_neg (zneg_bits g (show 2 ^ n - 1 < 2 ^ 31 from Nat.lt_of_lt_of_le (Nat.sub_lt (Nat.two_pow_pos n) (by decide)) (Nat.pow_le_pow_right (by decide) (by omega)))), Option.bind_some, if_true]
      exact zgo_i rfl (zInv_ref h zbR_r zbF_r (by decide))
    · obtain ⟨s, hs, rfl⟩ := nI_of g
      have e1 : (nI s >>> (nI n &&& 31) = 0) = (s < 2 ^ n) := by
        have hle : s >>> n < 2 ^ 31 := by
          rw [Nat.shiftRight_eq_div_pow]
          exact Nat.lt_of_le_of_lt (Nat.div_le_self _ _) hs
        rw [zshr hs (by omega), nI_eq0 hle, Nat.shiftRight_eq_div_pow]
        exact propext (Nat.div_eq_zero_iff.trans ⟨fun z => z.resolve_left (Nat.ne_of_gt (Nat.two_pow_pos n)), Or.inr⟩)
      simp only [if_neg g, zall_bits hs, e1]
      by_cases g2 : s < 2 ^ n
      · simp only [if_pos g2, Option.bind_some]
        by_cases q : kd p = 4
        · have q4 : nI (kd p) = (4 : Int32) := by rw [q]; rfl
          simp only [if_pos q4, zx_tell4 (c3.trans q), Option.bind_some, zlet, if_true]
          refine zgo_i rfl (zInv_i (zJA_told h hp q (Nat.lt_of_lt_of_le g2 (Nat.pow_le_pow_right (by decide) hn)) zbR_r (fun j k _ z => zsi_ne z) (zsi_y ⟨rfl, rfl⟩)))
        · have q4 : ¬ nI (kd p) = (4 : Int32) := by rw [zl4, nI_eq (by omega) (by decide)]; exact q
          simp only [if_neg q4, Option.bind_some, if_true]
          exact zgo_i rfl (zInv_ref h zbR_r zbF_r (by decide))
      · simp only [if_neg g2, Option.bind_some, if_true]
        exact zgo_i rfl (zInv_ref h zbR_r zbF_r (by decide))
  · simp only [h1, h2, Option.bind_some, if_true, zon, zx_ref1, zx_no1]
    exact zgo_i rfl (zInv_ref h zbR_r zbF_r (by decide))
end
