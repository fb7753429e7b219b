/-! single calls: facts, the row, counts, feed -/
section
variable {T T' R R' X X' F F' B B' : zM} {P P' : zP} {M M' : zM} {n np nf nt nr : Nat} {par wt ans ad kd kn hd su td pt fc tp rw : Nat → Nat}
theorem zfact_small : ∀ s, s < 1024 → (s &&& 4294966273 = 0 ↔ s % 2 = 0) := by decide +kernel
theorem zfact_bits {s : Nat} (hs : s < 2 ^ 31) : ((nI s &&& (-1023 : Int32)) = 0) = (s ≤ 1022 ∧ s % 2 = 0) := by
  rw [show (-1023 : Int32) = nI 4294966273 by decide, zand, nI_eq0 (Nat.lt_of_le_of_lt Nat.and_le_left hs)]
  rcases Nat.lt_or_ge s 1024 with g | g
  · rw [propext (zfact_small s g)]
    exact propext (by omega)
  · refine propext ⟨fun h => ?_, fun h => by omega⟩
    have h1 := congrArg (fun x => x >>> 10) h
    try dsimp only at h1
    rw [Nat.shiftRight_and_distrib, show (4294966273 : Nat) >>> 10 = 2 ^ 22 - 1 by decide, Nat.and_two_pow_sub_one_eq_mod, Nat.shiftRight_eq_div_pow, show (0 : Nat) >>> 10 = 0 by decide] at h1
    omega
theorem zJA_fact (h : zJA T R X F B P M n np nf nt nr par wt ans ad kd kn hd su td pt fc tp rw) {s : Nat} (hs : s < 1024) (hf : nf < 5) : zJA T R X (zsi (zsi F 73 nf (nI s)) 72 1 (nI (nf + 1))) B P (zsi (zsi M 28 nf (nI s)) 0 44 (nI (nf + 1))) n np (nf + 1) nt nr par wt ans ad kd kn hd su td pt (zup fc nf s) tp rw := by
  obtain ⟨h1, h2, h3, ⟨f1, f2, f3, f4, f5, f6⟩, h5, h6, h7⟩ := h
  have cM : ∀ a b, ¬ (a = 28 ∧ b = nf) → ¬ (a = 0 ∧ b = 44) → (zsi (zsi M 28 nf (nI s)) 0 44 (nI (nf + 1))).1 a b = M.1 a b := fun a b g1 g2 => by rw [zsi_ne g2, zsi_ne g1]
  refine ⟨zIT_c h1 (fun a b g => cM a b (by omega) (by omega)), zIP_c h2 rfl (fun a b g => cM a b (by omega) (by omega)), zIQ_c h3 (fun _ => rfl) (fun a b g => cM a b (by omega) (by omega)), ⟨by omega, fun i hi => ?_, zsi_y ⟨rfl, rfl⟩, fun i hi => ?_, zsi_y ⟨rfl, rfl⟩, fun i hi => ?_⟩, zIX_c h5 (fun a b g => cM a b (by omega) (by omega)), zIB_c h6 (fun a b g => cM a b (by omega) (by omega)), ?_⟩
  · by_cases g : i = nf
    · rw [g, zup_s]; exact hs
    · rw [zup_n g]; exact f2 i (by omega)
  · rw [zsi_ne (by omega)]
    by_cases g : i = nf
    · rw [zsi_y ⟨rfl, g⟩, g, zup_s]
    · rw [zsi_ne (fun z => g z.2), zup_n g]; exact f4 i (by omega)
  · rw [zsi_ne (by omega)]
    by_cases g : i = nf
    · rw [zsi_y ⟨rfl, g⟩, g, zup_s]
    · rw [zsi_ne (fun z => g z.2), zup_n g]; exact f6 i (by omega)
  · have h8 := zImg_c (M' := zsi (zsi M 28 nf (nI s)) 0 44 (nI (nf + 1))) h7 (fun a b g => cM a b (by omega) (by omega))
    rcases h8 with g | ⟨g1, g2, n1, np1, nf1, pt1, td1, k1, k2, k3, k4, k5, k6, k7, k8, k9, k10, k11, k12, k13, k14, k15, k16⟩
    · exact Or.inl g
    · exact Or.inr ⟨g1, g2, n1, np1, nf1, pt1, td1, k1, k2, k3, by omega, k5, k6, k7, k8, k9, k10, k11, k12, k13, k14, fun i hi => by rw [zup_n (show i ≠ nf by omega)]; exact k15 i hi, k16⟩
theorem zc_fact (h : zJA T R X F B P M n np nf nt nr par wt ans ad kd kn hd su td pt fc tp rw) (a1 a2 a3 : Int32) : zgo (xL_24 T R X F B P M a1 a2 a3) := by
  obtain ⟨f1, f2, f3, f4, f5, f6⟩ := h.2.2.2.1
  unfold xL_24 xX11_fact xX12_fact
  rcases zarg_in a1 (lo := 0) (hi := 1022) 0 1022 rfl (by decide) (by decide) (by decide) with ⟨s, -, hs, rfl, h1⟩ | ⟨hv, h1⟩
  · have e2 : nI s - nI s / (2 : Int32) * (2 : Int32) = nI (s % 2) := by
      rw [zl2, nI_div (by omega) (by decide), nI_mul, nI_sub (Nat.div_mul_le_self s 2), Nat.mod_eq_sub_div_mul]
    simp only [h1, Option.bind_some, z10, if_false, if_neg (nI_pos (show s < 2 ^ 31 by omega)), zfact_bits (show s < 2 ^ 31 by omega), e2, nI_eq0 (show s % 2 < 2 ^ 31 by omega), f3, f5, xX3_size]
    by_cases g : s % 2 = 0
    · by_cases g2 : nf < 5
      · have e5 : nI nf < (5 : Int32) := by rw [zl5]; exact nI_lt g2 (by decide)
        have e6 : ¬ nI nf = (5 : Int32) := by rw [zl5, nI_eq (by omega) (by decide)]; omega
        have ap : xX3_append F (nI s) = some (nI nf, zsi (zsi F 73 nf (nI s)) 72 1 (nI (nf + 1))) := by
          unfold xX3_append
          simp only [zlet]
          rw [f3, if_neg (nI_pos (by omega)), if_pos e5, if_neg (nI_in (by omega) (by decide)), nI_clamp (by omega)]
          have e9 : (zsi F 73 nf (nI s)).1 72 1 = nI nf := by rw [zsi_ne (by omega)]; exact f3
          rw [e9, nI_1, zsi_y ⟨rfl, rfl⟩, show nI (nf + 1) - (1 : Int32) = nI nf from nI_pred nf]
        have e7 : (zsi M 28 nf (nI s)).1 0 44 = nI nf := by rw [zsi_ne (by omega)]; exact f5
        have e8 : nI (nf + 1) - (1 : Int32) = nI nf := nI_pred nf
        simp only [if_pos g, if_pos (show s ≤ 1022 ∧ s % 2 = 0 from ⟨hs, g⟩), if_pos e5, if_neg e6, ap, Option.bind_some, if_neg (zin_w (show nf < 5 from g2) (by decide)), nI_clamp (show nf < 2 ^ 31 by omega), zlet, e7, nI_1, zsi_y (show (0 : Nat) = 0 ∧ (44 : Nat) = 44 from ⟨rfl, rfl⟩), e8, if_true]
        exact zgo_i rfl (zInv_i (zJA_fact h (by omega) g2))
      · have e5 : ¬ nI nf < (5 : Int32) := by rw [zl5, nI_ltI (by omega) (by decide)]; exact g2
        have e6 : nI nf = (5 : Int32) := by rw [show nf = 5 by omega]; rfl
        simp only [if_pos g, if_pos (show s ≤ 1022 ∧ s % 2 = 0 from ⟨hs, g⟩), if_neg e5, if_pos e6, zx_ref6, zx_no6, Option.bind_some, if_true]
        exact zgo_i rfl (zInv_ref h zbR_r zbF_r (by decide))
    · simp only [if_neg g, if_neg (show ¬ (s ≤ 1022 ∧ s % 2 = 0) from fun z => g z.2), zx_ref1, zx_no1, Option.bind_some, if_true]
      exact zgo_i rfl (zInv_ref h zbR_r zbF_r (by decide))
  · simp only [h1, Option.bind_some, if_true, zx_no1]
    by_cases g : a1 < 0
    · simp only [if_pos g, zx_ref1, Option.bind_some, if_true]
      exact zgo_i rfl (zInv_ref h zbR_r zbF_r (by decide))
    · obtain ⟨s, hs, rfl⟩ := nI_of g
      have h3 := hv.resolve_left g
      rw [nI_ltI (by decide) hs] at h3
      simp only [if_neg g, zfact_bits hs, if_neg (show ¬ (s ≤ 1022 ∧ s % 2 = 0) by omega), zx_ref1, Option.bind_some, if_true]
      exact zgo_i rfl (zInv_ref h zbR_r zbF_r (by decide))
/-! the row -/
theorem zJA_row (h : zJA T R X F B P M n np nf nt nr par wt ans ad kd kn hd su td pt fc tp rw) {s : Nat} (hs : s ≤ 9) (hf : nr < 20) : zJA T R X F (zsi (zsi B 77 nr (nI s)) 76 5 (nI (nr + 1))) P (zsi (zsi M 31 nr (nI s)) 0 47 (nI (nr + 1))) n np nf nt (nr + 1) par wt ans ad kd kn hd su td pt fc tp (zup rw nr s) := by
  obtain ⟨h1, h2, h3, h4, h5, ⟨f1, f2, f3, f4, f5, f6, f7⟩, h7⟩ := h
  have cM : ∀ a b, ¬ (a = 31 ∧ b = nr) → ¬ (a = 0 ∧ b = 47) → (zsi (zsi M 31 nr (nI s)) 0 47 (nI (nr + 1))).1 a b = M.1 a b := fun a b g1 g2 => by rw [zsi_ne g2, zsi_ne g1]
  have cB : ∀ a b, ¬ (a = 77 ∧ b = nr) → ¬ (a = 76 ∧ b = 5) → (zsi (zsi B 77 nr (nI s)) 76 5 (nI (nr + 1))).1 a b = B.1 a b := fun a b g1 g2 => by rw [zsi_ne g2, zsi_ne g1]
  refine ⟨zIT_c h1 (fun a b g => cM a b (by omega) (by omega)), zIP_c h2 rfl (fun a b g => cM a b (by omega) (by omega)), zIQ_c h3 (fun _ => rfl) (fun a b g => cM a b (by omega) (by omega)), zIF_c h4 (fun a b g => cM a b (by omega) (by omega)), zIX_c h5 (fun a b g => cM a b (by omega) (by omega)), ⟨by omega, fun i hi => ?_, zsi_y ⟨rfl, rfl⟩, fun i hi => ?_, zsi_y ⟨rfl, rfl⟩, fun i hi => ?_, fun k hk => ?_⟩, zImg_k h7 (fun k => cM 32 k (by omega) (by omega)) (cM 0 49 (by omega) (by omega)) (fun a b g1 g2 g3 => cB a b (by omega) (by omega))⟩
  · by_cases g : i = nr
    · rw [g, zup_s]; exact hs
    · rw [zup_n g]; exact f2 i (by omega)
  · rw [zsi_ne (by omega)]
    by_cases g : i = nr
    · rw [zsi_y ⟨rfl, g⟩, g, zup_s]
    · rw [zsi_ne (fun z => g z.2), zup_n g]; exact f4 i (by omega)
  · rw [zsi_ne (by omega)]
    by_cases g : i = nr
    · rw [zsi_y ⟨rfl, g⟩, g, zup_s]
    · rw [zsi_ne (fun z => g z.2), zup_n g]; exact f6 i (by omega)
  · rw [cB 78 k (by omega) (by omega), cM 1 k (by omega) (by omega)]
    exact f7 k hk
theorem zc_row (h : zJA T R X F B P M n np nf nt nr par wt ans ad kd kn hd su td pt fc tp rw) (a1 a2 a3 : Int32) : zgo (xL_29 T R X F B P M a1 a2 a3) := by
  obtain ⟨f1, f2, f3, f4, f5, f6, f7⟩ := h.2.2.2.2.2.1
  have hb := zarg_b a1 (lo := 0) (hi := 9) (by decide) (by decide)
  rw [nI_0, ← zl9] at hb
  unfold xL_29 xX11_row xX12_row
  rcases hb with ⟨g, b1⟩ | ⟨s, -, hs, rfl, b1⟩ | ⟨g, b1⟩
  · have g0 : ¬ 0 ≤ a1 := by rw [zile]; rw [zilt] at g; omega
    simp only [if_neg g0, b1, Option.bind_some, zx_ref4, if_neg (show ¬ (-4 : Int32) = 0 by decide), zx_no4, if_true]
    exact zgo_i rfl (zInv_ref h zbR_r zbF_r (by decide))
  · have g9 : ¬ (9 : Int32) < nI s := by rw [zl9, nI_ltI (by decide) (by omega)]; omega
    simp only [if_pos (nI_pos' (show s < 2 ^ 31 by omega)), if_neg g9, b1, Option.bind_some, if_true, f3, f5, if_neg (nI_pos (show nr < 2 ^ 31 by omega))]
    by_cases g2 : nr < 20
    · have e5 : nI nr < (20 : Int32) := by rw [zl20]; exact nI_lt g2 (by decide)
      have e6 : ¬ nI nr = (20 : Int32) := by rw [zl20, nI_eq (by omega) (by decide)]; omega
      have e7 : (zsi M 31 nr (nI s)).1 0 47 = nI nr := by rw [zsi_ne (by omega)]; exact f5
      have e8 : (zsi B 77 nr (nI s)).1 76 5 = nI nr := by rw [zsi_ne (by omega)]; exact f3
      simp only [if_pos e5, if_neg e6, if_neg (zin_w (show nr < 20 from g2) (by decide)), nI_clamp (show nr < 2 ^ 31 by omega), zlet, e7, e8, nI_1, zsi_y (show (0 : Nat) = 0 ∧ (47 : Nat) = 47 from ⟨rfl, rfl⟩), zsi_y (show (76 : Nat) = 76 ∧ (5 : Nat) = 5 from ⟨rfl, rfl⟩), Option.bind_some, if_true]
      exact zgo_i rfl (zInv_i (zJA_row h hs g2))
    · have e5 : ¬ nI nr < (20 : Int32) := by rw [zl20, nI_ltI (by omega) (by decide)]; exact g2
      have e6 : nI nr = (20 : Int32) := by rw [show nr = 20 by omega]; rfl
      simp only [if_neg e5, if_pos e6, zx_ref6, zx_no6, Option.bind_some, if_true]
      exact zgo_i rfl (zInv_ref h zbR_r zbF_r (by decide))
  · have g0 : 0 ≤ a1 := by
      rw [zile]
      rw [zilt] at g
      have h9 : ((9 : Int32)).toInt = 9 := by decide
      have h0 : ((0 : Int32)).toInt = 0 := by decide
      omega
    simp only [if_pos g0, if_pos g, b1, Option.bind_some, zx_ref6, if_neg (show ¬ (-6 : Int32) = 0 by decide), zx_no6, if_true]
    exact zgo_i rfl (zInv_ref h zbR_r zbF_r (by decide))
/-! counts -/
theorem zx_countM (hT : zIT T M n par wt ans) : x_it (fun a9 => xX12_count_L76 M a9.1 a9.2) zFU ((0 : Int32), (0 : Int32)) = some (nI (zne n ans)) := by
  have hn := hT.1.2.1
  refine zfor (fun c => (nI (zsum (fun v => if ans v = 0 then 0 else 1) c), nI c)) 0 n (Nat.zero_le _) (by omega) rfl ?_ ?_
  · intro c h1 h2
    have t3 := (hT.2.2.1.2 c h2).2.2
    have ha := zans_le hT.1 h2
    have es : zsum (fun v => if ans v = 0 then 0 else 1) (c + 1) = zsum (fun v => if ans v = 0 then 0 else 1) c + (if ans c = 0 then 0 else 1) := rfl
    rw [es]
    by_cases q : ans c = 0
    · rw [if_pos q, Nat.add_zero]
      simp (disch := first | assumption | omega) only [zlet, nI_leI, nI_ltI, nI_eq, nI_eq0, nI_clamp, nI_neg0, nI_add, nI_1, false_or, or_false, if_pos, if_neg, Int32.add_zero, Nat.add_zero, Option.bind_some, if_true, if_false, and_true, true_and, and_false, false_and, nI_10, nI_mul, zl2, zl3, zl4, zl5, zl6, zl8, zl9, zl20, zl24, zor0, zsi_g, zsj_g, zsi_2, zsj_1, xX12_count_L76, hT.2.2.1.1, t3]
    · rw [if_neg q]
      simp (disch := first | assumption | omega) only [zlet, nI_leI, nI_ltI, nI_eq, nI_eq0, nI_clamp, nI_neg0, nI_add, nI_1, false_or, or_false, if_pos, if_neg, Int32.add_zero, Nat.add_zero, Option.bind_some, if_true, if_false, and_true, true_and, and_false, false_and, nI_10, nI_mul, zl2, zl3, zl4, zl5, zl6, zl8, zl9, zl20, zl24, zor0, zsi_g, zsj_g, zsi_2, zsj_1, xX12_count_L76, hT.2.2.1.1, t3]
  · simp (disch := first | assumption | omega) only [zlet, nI_leI, nI_ltI, nI_eq, nI_eq0, nI_clamp, nI_neg0, nI_add, nI_1, false_or, or_false, if_pos, if_neg, Int32.add_zero, Nat.add_zero, Option.bind_some, if_true, if_false, and_true, true_and, and_false, false_and, nI_10, nI_mul, zl2, zl3, zl4, zl5, zl6, zl8, zl9, zl20, zl24, zor0, zsi_g, zsj_g, zsi_2, zsj_1, xX12_count_L76, hT.2.2.1.1, zne]
theorem zc_count (h : zJA T R X F B P M n np nf nt nr par wt ans ad kd kn hd su td pt fc tp rw) (a1 a2 a3 : Int32) : zgo (xL_33 T R X F B P M a1 a2 a3) := by
  obtain ⟨hT, hP, hQ, hF, hX, hB, hI⟩ := id h
  have key : xX11_count T R X F B a1 = xX12_count M a1 ∧ ∃ v, xX12_count M a1 = some v := by
    unfold xX11_count xX12_count
    have low : ∀ v : Int32, (if v = (0 : Int32) then ((xX10_size T).bind fun q3 => some q3) else if v = (1 : Int32) then ((xX6_size R).bind fun q5 => some q5) else if v = (2 : Int32) then ((xX10_endsCount T).bind fun q7 => some q7) else if v = (3 : Int32) then ((xX3_size F).bind fun q9 => some q9) else if v = (4 : Int32) then (some (B.1 76 5)) else if v = (5 : Int32) then ((xX8_size X).bind fun q12 => some q12) else some (-9 : Int32)) = (if v = (0 : Int32) then (some (M.1 0 12)) else if v = (1 : Int32) then (some (M.1 0 13)) else if v = (2 : Int32) then ((x_it (fun a9 => xX12_count_L76 M a9.1 a9.2) zFU ((0 : Int32), (0 : Int32))).bind fun q6 => some q6) else if v = (3 : Int32) then (some (M.1 0 44)) else if v = (4 : Int32) then (some (M.1 0 47)) else if v = (5 : Int32) then (some (M.1 0 21)) else some (-9 : Int32)) := by
      intro v
      rw [zx_countM hT]
      simp only [xX10_size, xX6_size, xX10_endsCount, xX3_size, xX8_size, Option.bind_some, hT.2.1.1.1, hT.2.1.2.2.2.1, hP.2.1, hF.2.2.1, hB.2.2.1, hX.1, hT.2.2.1.1, hP.2.2.2.1, hF.2.2.2.2.1, hB.2.2.2.2.1, hX.2.2.1]
    have lows : ∀ v : Int32, ∃ x, (if v = (0 : Int32) then (some (M.1 0 12)) else if v = (1 : Int32) then (some (M.1 0 13)) else if v = (2 : Int32) then ((x_it (fun a9 => xX12_count_L76 M a9.1 a9.2) zFU ((0 : Int32), (0 : Int32))).bind fun q6 => some q6) else if v = (3 : Int32) then (some (M.1 0 44)) else if v = (4 : Int32) then (some (M.1 0 47)) else if v = (5 : Int32) then (some (M.1 0 21)) else some (-9 : Int32)) = some x := by
      intro v
      rw [zx_countM hT]
      simp only [Option.bind_some]
      repeat (first | exact ⟨_, rfl⟩ | split)
    rcases zarg_in a1 (lo := 11) (hi := 16) 11 16 (by decide) (by decide) (by decide) (by decide) with ⟨k, hk1, hk2, rfl, h1⟩ | ⟨hv, h1⟩
    · have e1 : ¬ nI k < (11 : Int32) := by rw [show (11 : Int32) = nI 11 by decide, nI_ltI (by omega) (by decide)]; omega
      have e2 : ¬ (16 : Int32) < nI k := by rw [show (16 : Int32) = nI 16 by decide, nI_ltI (by decide) (by omega)]; omega
      have e3 : nI k - (10 : Int32) = nI (k - 10) := by rw [nI_10, nI_sub (by omega)]
      have e4 : ¬ (7 : Int32) ≤ nI (k - 10) := by rw [show (7 : Int32) = nI 7 by decide, nI_leI (by decide) (by omega)]; omega
      have e5 := hB.2.2.2.2.2.2 (k - 10) (by omega)
      simp only [h1, Option.bind_some, z10, if_false, if_neg e1, if_neg e2, e3, if_neg e4, if_neg (zin_w (show k - 10 < 7 by omega) (by decide)), nI_clamp (show k - 10 < 2 ^ 31 by omega), e5]
      exact ⟨trivial, _, rfl⟩
    · simp only [h1, Option.bind_some, if_true]
      refine ⟨?_, lows a1⟩
      by_cases g1 : a1 < (11 : Int32)
      · rw [if_pos g1]
        exact low a1
      · have g2 : (16 : Int32) < a1 := by
          rcases hv with z | z
          · exact absurd z g1
          · exact z
        rw [if_neg g1, if_pos g2]
        exact low a1
  obtain ⟨k1, v, k2⟩ := key
  unfold xL_33
  rw [k1, k2]
  simp only [Option.bind_some, if_true]
  exact zgo_i rfl (zInv_i h)
/-! feed -/
theorem zbyte (x : Int64) : ∃ b : Nat, b < 256 ∧ (x &&& (255 : Int64)).toInt32 = nI b := by
  refine ⟨x.toBitVec.toNat &&& 255, Nat.lt_of_le_of_lt Nat.and_le_right (by decide), ?_⟩
  have e : x &&& (255 : Int64) = lN (x.toBitVec.toNat &&& 255) := by
    refine Int64.toBitVec_inj.mp ?_
    rw [Int64.toBitVec_and]
    show x.toBitVec &&& BitVec.ofNat 64 255 = BitVec.ofNat 64 (x.toBitVec.toNat &&& 255)
    rw [BitVec.ofNat_and, BitVec.ofNat_toNat, BitVec.setWidth_eq]
  rw [e, lN_i]
/-- the byte number k of what is fed -/
def zby (v : Int64) (k : Nat) : Int32 := ((v >>> (((8 : Int32) * nI k).toInt64 &&& 63)) &&& (255 : Int64)).toInt32
theorem zJA_feed (h : zJA T R X F B P M n np nf nt nr par wt ans ad kd kn hd su td pt fc tp rw) {b : Nat} (hb : b < 256) (hf : nt < 64) : zJA T R (zsi (zsi X 71 nt (nI b)) 70 1 (nI (nt + 1))) F B P (zsi (zsi M 13 nt (nI b)) 0 21 (nI (nt + 1))) n np nf (nt + 1) nr par wt ans ad kd kn hd su td pt fc (zup tp nt b) rw := by
  obtain ⟨h1, h2, h3, h4, ⟨f1, f2, f3, f4⟩, h6, h7⟩ := h
  have cM : ∀ x y, ¬ (x = 13 ∧ y = nt) → ¬ (x = 0 ∧ y = 21) → (zsi (zsi M 13 nt (nI b)) 0 21 (nI (nt + 1))).1 x y = M.1 x y := fun x y g1 g2 => by rw [zsi_ne g2, zsi_ne g1]
  refine ⟨zIT_c h1 (fun a b g => cM a b (by omega) (by omega)), zIP_c h2 rfl (fun a b g => cM a b (by omega) (by omega)), zIQ_c h3 (fun _ => rfl) (fun a b g => cM a b (by omega) (by omega)), zIF_c h4 (fun a b g => cM a b (by omega) (by omega)), ⟨zsi_y ⟨rfl, rfl⟩, ⟨by omega, fun i hi => ?_⟩, zsi_y ⟨rfl, rfl⟩, ⟨by omega, fun i hi => ?_⟩⟩, zIB_c h6 (fun a b g => cM a b (by omega) (by omega)), zImg_c h7 (fun a b g => cM a b (by omega) (by omega))⟩
  · rw [zsi_ne (by omega)]
    by_cases g : i = nt
    · rw [zsi_y ⟨rfl, g⟩, g, zup_s]
      exact ⟨rfl, hb⟩
    · rw [zsi_ne (fun z => g z.2), zup_n g]; exact f2.2 i (by omega)
  · rw [zsi_ne (by omega)]
    by_cases g : i = nt
    · rw [zsi_y ⟨rfl, g⟩, g, zup_s]
      exact ⟨rfl, hb⟩
    · rw [zsi_ne (fun z => g z.2), zup_n g]; exact f4.2 i (by omega)
theorem zc_feed (h : zJA T R X F B P M n np nf nt nr par wt ans ad kd kn hd su td pt fc tp rw) (a1 a2 a3 : Int32) : zgo (xL_0 T R X F B P M a1 a2 a3) := by
  obtain ⟨f1, f2, f3, f4⟩ := h.2.2.2.2.1
  have hnt := f2.1
  have hb := zarg_b a1 (lo := 1) (hi := 8) (by decide) (by decide)
  rw [show nI 1 = (1 : Int32) from rfl, ← zl8] at hb
  unfold xL_0 xX11_feed xX12_feed
  generalize ((a2.toInt64 <<< ((32 : Int32).toInt64 &&& 63)) ||| (a3.toInt64 &&& (4294967295 : Int64))) = v
  rcases hb with ⟨g, b1⟩ | ⟨s, hs1, hs, rfl, b1⟩ | ⟨g, b1⟩
  · have g0 : ¬ (1 : Int32) ≤ a1 := by rw [zile]; rw [zilt] at g; omega
    simp only [if_neg g0, b1, Option.bind_some, zx_ref4, if_neg (show ¬ (-4 : Int32) = 0 by decide), zx_no4, if_true]
    exact zgo_i rfl (zInv_ref h zbR_r zbF_r (by decide))
  · have e1 : (1 : Int32) ≤ nI s := by rw [show (1 : Int32) = nI 1 from rfl]; exact nI_le hs1 (by omega)
    have e2 : ¬ (8 : Int32) < nI s := by rw [zl8, nI_ltI (by decide) (by omega)]; omega
    have e3 : (nI (nt + s) ≤ (64 : Int32)) = (nt + s ≤ 64) := by rw [show (64 : Int32) = nI 64 by decide]; exact propext (nI_leI (by omega) (by decide))
    simp only [if_pos e1, if_neg e2, b1, Option.bind_some, if_true, xX8_size, f1, f3, nI_add, e3]
    by_cases g : nt + s ≤ 64
    · -- both loops, byte by byte
      have both : ∀ k, k ≤ s → ∃ X1 M1 nt1 tp1, nt1 = nt + k ∧ zJA T R X1 F B P M1 n np nf nt1 nr par wt ans ad kd kn hd su td pt fc tp1 rw ∧ (∀ r, x_it (fun a9 => xX11_feed_L42 B (nI s) v a9.1 a9.2) (zFU - k) (X1, nI k) = some r → x_it (fun a9 => xX11_feed_L42 B (nI s) v a9.1 a9.2) zFU (X, (0 : Int32)) = some r) ∧ (∀ r, x_it (fun a9 => xX12_feed_L44 (nI s) v a9.1 a9.2) (zFU - k) (M1, nI k) = some r → x_it (fun a9 => xX12_feed_L44 (nI s) v a9.1 a9.2) zFU (M, (0 : Int32)) = some r) := by
        intro k
        induction k with
        | zero => intro _; exact ⟨X, M, nt, tp, rfl, h, fun _ z => z, fun _ z => z⟩
        | succ k ih =>
          intro hk
          obtain ⟨X1, M1, nt1, tp1, d1, d2, d3, d4⟩ := ih (by omega)
          obtain ⟨p1, p2, p3, p4⟩ := d2.2.2.2.2.1
          obtain ⟨b, hb256, hby⟩ := zbyte (v >>> (((8 : Int32) * nI k).toInt64 &&& 63))
          have hfu : zFU - k = (zFU - (k + 1)) + 1 := by
            have : zFU = 4096 := rfl
            omega
          refine ⟨zsi (zsi X1 71 nt1 (nI b)) 70 1 (nI (nt1 + 1)), zsi (zsi M1 13 nt1 (nI b)) 0 21 (nI (nt1 + 1)), nt1 + 1, zup tp1 nt1 b, by omega, zJA_feed d2 hb256 (by omega), fun r hr => d3 r ?_, fun r hr => d4 r ?_⟩
          · have st : xX11_feed_L42 B (nI s) v X1 (nI k) = some (.inl (zsi (zsi X1 71 nt1 (nI b)) 70 1 (nI (nt1 + 1)), nI (k + 1))) := by
              unfold xX11_feed_L42 xX8_append
              simp only [zlet]
              rw [if_neg (by rw [nI_leI (by omega) (by omega)]; omega), zl8, if_neg (by rw [nI_leI (by omega) (by omega)]; omega), p1, if_neg (nI_pos (by omega)), if_pos (show nI nt1 < (64 : Int32) by rw [show (64 : Int32) = nI 64 by decide]; exact nI_lt (by omega) (by decide)), if_neg (nI_in (by omega) (by decide)), nI_clamp (by omega), ← zl8, hby, zsi_ne (by omega), p1, nI_1, Option.bind_some, nI_1]
            rw [hfu]
            unfold x_it
            dsimp only
            rw [st]
            exact hr
          · have st : xX12_feed_L44 (nI s) v M1 (nI k) = some (.inl (zsi (zsi M1 13 nt1 (nI b)) 0 21 (nI (nt1 + 1)), nI (k + 1))) := by
              unfold xX12_feed_L44
              simp only [zlet]
              rw [if_neg (by rw [nI_leI (by omega) (by omega)]; omega), p3, if_neg (nI_in (by omega) (by decide)), nI_clamp (by omega), hby, zsi_ne (by omega), p3, nI_1, nI_1]
            rw [hfu]
            unfold x_it
            dsimp only
            rw [st]
            exact hr
      obtain ⟨X1, M1, nt1, tp1, d1, d2, d3, d4⟩ := both s (Nat.le_refl _)
      have hfu : zFU - s = (zFU - (s + 1)) + 1 := by
        have : zFU = 4096 := rfl
        omega
      have r1 := d3 X1 (by
        rw [hfu]
        unfold x_it
        dsimp only
        have : xX11_feed_L42 B (nI s) v X1 (nI s) = some (.inr X1) := by
          unfold xX11_feed_L42
          rw [if_pos (nI_le (Nat.le_refl _) (by omega))]
        rw [this])
      have r2 := d4 M1 (by
        rw [hfu]
        unfold x_it
        dsimp only
        have : xX12_feed_L44 (nI s) v M1 (nI s) = some (.inr M1) := by
          unfold xX12_feed_L44
          rw [if_pos (nI_le (Nat.le_refl _) (by omega))]
        rw [this])
      simp only [if_pos g, r1, r2, Option.bind_some, d2.2.2.2.2.1.1, d2.2.2.2.2.1.2.2.1, if_true]
      exact zgo_i rfl (zInv_i d2)
    · simp only [if_neg g, zx_ref6, zx_no6, Option.bind_some, if_true]
      exact zgo_i rfl (zInv_ref h zbR_r zbF_r (by decide))
  · have g0 : (1 : Int32) ≤ a1 := by
      rw [zile]
      rw [zilt] at g
      have h9 : ((8 : Int32)).toInt = 8 := by decide
      have h0 : ((1 : Int32)).toInt = 1 := by decide
      omega
    simp only [if_pos g0, if_pos g, b1, Option.bind_some, zx_ref6, if_neg (show ¬ (-6 : Int32) = 0 by decide), zx_no6, if_true]
    exact zgo_i rfl (zInv_ref h zbR_r zbF_r (by decide))
end
