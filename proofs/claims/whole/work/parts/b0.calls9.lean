/-! single calls: the law, the most early -/
section
variable {T T' R R' X X' F F' B B' : zM} {P P' : zP} {M M' : zM} {n np nf nt nr : Nat} {par wt ans ad kd kn hd su td pt fc tp rw : Nat → Nat}
def zMv (n : Nat) (par wt ans : Nat → Nat) (np : Nat) (kd kn hd su td pt : Nat → Nat) (what p : Nat) : Int := zSm (zsv n ans (zsh n par wt ans) (zrun par np hd (zcA n par wt ans pt kd kn su td) (zsA n par wt ans pt kd kn su td) pt (zwlen par) ans (zgu2 n par wt ans kn)) what p) n
def zCv (n : Nat) (par wt ans : Nat → Nat) (np : Nat) (kd kn hd su td pt : Nat → Nat) (what p : Nat) : Int := zSm (zsv n ans (ztm n par wt) (zrun par np hd (zcA n par wt ans pt kd kn su td) (zsA n par wt ans pt kd kn su td) pt (zwlen par) ans (zgu2 n par wt ans kn)) what p) n
theorem zlt_cross {x y x' y' u b : Int} (hb : 0 < b) (hu : 0 < u) (h1 : x * b = x' * u) (h2 : y * b = y' * u) : (x < y) = (x' < y') := by
  refine propext ⟨fun h => ?_, fun h => ?_⟩
  · have h3 := Int.mul_lt_mul_of_pos_right h hb
    rw [h1, h2] at h3
    exact Int.lt_of_mul_lt_mul_right h3 (Int.le_of_lt hu)
  · have h3 := Int.mul_lt_mul_of_pos_right h hu
    rw [← h1, ← h2] at h3
    exact Int.lt_of_mul_lt_mul_right h3 (Int.le_of_lt hb)
theorem zx_sums (h : zJA T R X F B P M n np nf nt nr par wt ans ad kd kn hd su td pt fc tp rw) (hW : zWh n par ans) {what p : Nat} (hwh : what ≤ 3) (hp : p < 4) : (∃ r s, xX12_finds M = some r ∧ xX12_sumOver r (nI what) (nI p) = some s ∧ s.1 = lI (zMv n par wt ans np kd kn hd su td pt what p) ∧ s.2.2 0 29 = lN (zun n par wt ans) ∧ zbM M s.2) ∧ (zMv n par wt ans np kd kn hd su td pt what p).natAbs ≤ 160 * zun n par wt ans ∧ (zCv n par wt ans np kd kn hd su td pt what p).natAbs ≤ 160 * zbl n par wt 0 ∧ zMv n par wt ans np kd kn hd su td pt what p * zbl n par wt 0 = zCv n par wt ans np kd kn hd su td pt what p * zun n par wt ans := by
  have hT := h.1
  have hP := h.2.1
  have hQ := h.2.2.1
  have hV := hT.1
  have hB := zBE_A (pt := pt) (hd := hd) hV hP.1
  obtain ⟨r, hr, r1, r2, r3, -⟩ := zx_finds hT hW hP hQ
  obtain ⟨s, hs, s1, s2⟩ := zx_sumOver hV hQ.1 hB r3 r2.2.1 hwh hp
  have hWS : ∀ e, 0 < e → e < n → zWS (zrun par np hd (zcA n par wt ans pt kd kn su td) (zsA n par wt ans pt kd kn su td) pt (zwlen par) ans (zgu2 n par wt ans kn) e) := fun e h0 he => zWS_run hV hQ.1 hP.1.1 h0 he
  have b1 : (zMv n par wt ans np kd kn hd su td pt what p).natAbs ≤ 160 * zun n par wt ans := zsumM_abs (what := what) (p := p) hV hW hWS
  have hcr : zMv n par wt ans np kd kn hd su td pt what p * zbl n par wt 0 = zCv n par wt ans np kd kn hd su td pt what p * zun n par wt ans := zsum_cross hV hW
  have u2 := zun_pos hV hW
  refine ⟨⟨r, s, hr, hs, s1, ?_, zbM_t r1 (zbM_f s2)⟩, b1, ?_, hcr⟩
  · rw [s2.2, r2.1]
  · have h9 := congrArg Int.natAbs hcr
    rw [Int.natAbs_mul, Int.natAbs_mul, Int.natAbs_natCast, Int.natAbs_natCast] at h9
    refine Nat.le_of_mul_le_mul_right ?_ u2
    rw [← h9]
    calc (zMv n par wt ans np kd kn hd su td pt what p).natAbs * zbl n par wt 0 ≤ (160 * zun n par wt ans) * zbl n par wt 0 := Nat.mul_le_mul_right _ b1
      _ = 160 * zbl n par wt 0 * zun n par wt ans := by rw [Nat.mul_assoc, Nat.mul_comm (zun n par wt ans), ← Nat.mul_assoc]
theorem zx_laws (h : zJA T R X F B P M n np nf nt nr par wt ans ad kd kn hd su td pt fc tp rw) (hW : zWh n par ans) {v : Nat} (hv : v ≤ 100) {z1 : Int32} : ∃ a b, x_it (fun a9 => xX6_leastWrong_L13 T P (nI v) z1 a9.1 a9.2.1 a9.2.2) zFU (R, (-9 : Int32), (0 : Int32)) = some a ∧ x_it (fun a9 => xX12_law_L46_b22 (nI v) z1 a9.1 a9.2.1 a9.2.2) zFU (M, (-9 : Int32), (0 : Int32)) = some b ∧ a.2 = b.2 ∧ ∃ pt', zJA T a.1 X F B P b.1 n np nf nt nr par wt ans ad kd kn hd su td pt' fc tp rw := by
  refine zlock (α := zM × Int32 × Int32) (γ := zM × Int32 × Int32) (fun k a c => ∃ (w : Nat) (x : Int32) (R' : zM) (M' : zM) (pt' : Nat → Nat), w ≤ 21 ∧ k = 21 - w ∧ a = (R', x, nI w) ∧ c = (M', x, nI w) ∧ (x = -9 ∨ ∃ j, j < 21 ∧ x = nI j) ∧ zJA T R' X F B P M' n np nf nt nr par wt ans ad kd kn hd su td pt' fc tp rw) ?_ zFU 21 (R, (-9 : Int32), (0 : Int32)) (M, (-9 : Int32), (0 : Int32)) ⟨0, -9, R, M, pt, by decide, rfl, rfl, rfl, Or.inl rfl, h⟩ (by decide)
  rintro k a c ⟨w, x, R', M', pt', hw, rfl, rfl, rfl, hx, hJ⟩
  have gp : zGP (1 : Int32) = nI 20 := zGP_mx 1 (by decide)
  try dsimp only
  unfold xX6_leastWrong_L13 xX12_law_L46_b22
  rw [gp, show (20 : Int32) = nI 20 from rfl]
  by_cases g : w = 21
  · subst g
    rw [if_pos (show nI 20 < nI 21 by decide), if_pos (show nI 20 < nI 21 by decide)]
    exact Or.inr ⟨_, _, rfl, rfl, rfl, pt', hJ⟩
  have gw : ¬ nI 20 < nI w := by rw [nI_ltI (by decide) (by omega)]; omega
  rw [if_neg gw, if_neg gw]
  rcases hx with rfl | ⟨j, hj, rfl⟩
  · rw [if_pos rfl, if_neg (show ¬ (0 : Int32) ≤ -9 by decide)]
    simp only [zlet]
    have J1 := zJA_pt hJ (k := 1) (j := w) (by decide) (show w ≤ 20 by omega)
    have hT := J1.1
    have hV := hT.1
    obtain ⟨⟨r, s, hr, hs, s1, s2, s3⟩, b1, b2, b3⟩ := zx_sums J1 hW (what := 3) (p := 0) (by decide) (by decide)
    obtain ⟨c, hc, k1, k2⟩ := zx_prep hT hW J1.2.1 J1.2.2.1
    have ht := zx_dullTotal hV J1.2.2.1.1 (zBE_A (pt := zup pt' 1 w) hV J1.2.1.1) k2
    have hbl := zx_belowOf hV.2.1 hT.2.1 hV.1
    have q1 := zbl_lt hV (w := 0) hV.1
    have q2 := zbl_pos hV 0 hV.1
    have q3 := zun_lt hV hW
    have q4 := zun_pos hV hW
    have ht2 : xX6_dullTotal T c = some (lI (zCv n par wt ans np kd kn hd su td (zup pt' 1 w) 3 0)) := ht
    rw [nI_0] at hbl hs
    rw [← zl3] at hs
    generalize zMv n par wt ans np kd kn hd su td (zup pt' 1 w) 3 0 = zm at *
    generalize zCv n par wt ans np kd kn hd su td (zup pt' 1 w) 3 0 = zc at *
    have p1 : ((1 : Int32)).toNatClampNeg = 1 := by decide
    have J2 := zJA_k J1 k1 zbF_r s3
    have hcmp : (lg_cmp (lI zc * (100 : Int64)) ((nI v).toInt64 * lN (zbl n par wt 0)) < 0) = (lg_cmp ((100 : Int64) * lI zm) ((nI v).toInt64 * lN (zun n par wt ans)) < 0) := by
      have m1 : v * zbl n par wt 0 ≤ 100 * zbl n par wt 0 := Nat.mul_le_mul_right _ hv
      have m2 : v * zun n par wt ans ≤ 100 * zun n par wt ans := Nat.mul_le_mul_right _ hv
      rw [nI_l (by omega), zL100, lN_mul, lN_mul, lN_lI, lN_lI, lN_lI, lI_mul, lI_mul, propext (lg_cmp_lt _ _), propext (lg_cmp_lt _ _), lI_lt (by omega) (by omega), lI_lt (by omega) (by omega)]
      refine (zlt_cross (b := zbl n par wt 0) (u := zun n par wt ans) (by omega) (by omega) ?_ ?_).symm
      · rw [Int.mul_assoc, b3, Int.mul_right_comm, Int.mul_comm, Int.mul_comm zc, Int.mul_assoc, Int.mul_comm]
      · rw [Int.natCast_mul, Int.natCast_mul, Int.mul_assoc, Int.mul_assoc, Int.mul_comm (zun n par wt ans : Int)]
    simp only [p1, hc, hr, hs, ht2, hbl, Option.bind_some, s1, s2, hcmp, nI_1]
    by_cases y : lg_cmp ((100 : Int64) * lI zm) ((nI v).toInt64 * lN (zun n par wt ans)) < 0
    · rw [if_pos y, if_pos y]
      exact Or.inl ⟨_, _, 21 - (w + 1), rfl, rfl, by omega, w + 1, -9, _, _, _, by omega, rfl, rfl, rfl, Or.inl rfl, J2⟩
    · rw [if_neg y, if_neg y]
      exact Or.inl ⟨_, _, 21 - (w + 1), rfl, rfl, by omega, w + 1, nI w, _, _, _, by omega, rfl, rfl, rfl, Or.inr ⟨w, by omega, rfl⟩, J2⟩
  · rw [if_neg (fun z => by have := nI_pos (show j < 2 ^ 31 by omega); rw [z] at this; exact this (by decide)), if_pos (nI_pos' (by omega))]
    exact Or.inr ⟨_, _, rfl, rfl, rfl, pt', hJ⟩
theorem zc_law (h : zJA T R X F B P M n np nf nt nr par wt ans ad kd kn hd su td pt fc tp rw) (a1 a2 a3 : Int32) : zgo (xL_20 T R X F B P M a1 a2 a3) := by
  have hT := h.1
  have hQ := h.2.2.1
  unfold xL_20 xX11_law xX12_law
  have hb := zarg_b a1 (lo := 0) (hi := 100) (by decide) (by decide)
  rw [nI_0, show nI 100 = (100 : Int32) from rfl] at hb
  rcases hb with ⟨g, b1⟩ | ⟨k, -, hk, rfl, b1⟩ | ⟨g, b1⟩
  · have g0 : ¬ 0 ≤ a1 := by rw [zile]; rw [zilt] at g; omega
    simp only [if_neg g0, b1, Option.bind_some, zx_ref4, xX12_law_b22, if_neg (show ¬ (-4 : Int32) = 0 by decide), zx_no4, if_true]
    exact zgo_i rfl (zInv_ref h zbR_r zbF_r (by decide))
  · have g9 : nI k ≤ (100 : Int32) := by rw [show (100 : Int32) = nI 100 from rfl]; exact nI_le hk (by decide)
    simp only [if_pos (nI_pos' (show k < 2 ^ 31 by omega)), if_pos g9, b1, Option.bind_some, if_true]
    rcases zarg_W hT with ⟨hW, h6, h7⟩ | ⟨-, h6, h7⟩
    · have p1 : ((1 : Int32)).toNatClampNeg = 1 := by decide
      have e1 := hQ.2.1 1 (by decide)
      have e2 := hQ.2.2.1 1 (by decide)
      obtain ⟨a, b, ha, hb, hab, pt', hJ⟩ := zx_laws h hW hk (z1 := nI (pt 1))
      simp only [h6, h7, Option.bind_some, z10, if_false, xX12_law_b22, xX6_leastWrong, zlet, p1, e1, e2, ha, hb, hab, if_true]
      exact zgo_i rfl (zInv_i (zJA_pt hJ (k := 1) (j := pt 1) (by decide) hQ.1.2.1))
    · simp only [h6, h7, Option.bind_some, if_true, xX12_law_b22, if_neg (show ¬ (-3 : Int32) = 0 by decide), zx_ref3, zx_no3]
      exact zgo_i rfl (zInv_ref h zbR_r zbF_r (by decide))
  · have g0 : 0 ≤ a1 := by
      rw [zile]
      rw [zilt] at g
      have h9 : ((100 : Int32)).toInt = 100 := by decide
      have h0 : ((0 : Int32)).toInt = 0 := by decide
      omega
    have g1 : ¬ a1 ≤ (100 : Int32) := by rw [zile]; rw [zilt] at g; omega
    simp only [if_pos g0, if_neg g1, b1, Option.bind_some, zx_ref6, xX12_law_b22, if_neg (show ¬ (-6 : Int32) = 0 by decide), zx_no6, if_true]
    exact zgo_i rfl (zInv_ref h zbR_r zbF_r (by decide))
/-! the most early -/
theorem zSm_nn {f : Nat → Int} : ∀ {n : Nat}, (∀ i, i < n → 0 ≤ f i) → 0 ≤ zSm f n
  | 0, _ => Int.le_refl _
  | n + 1, h => by
    rw [zSm_s]
    exact Int.add_nonneg (zSm_nn (fun i hi => h i (by omega))) (h n (by omega))
theorem zsv0_nn {m : Nat → Nat} {run : Nat → zRst} {p e : Nat} : 0 ≤ zsv n ans m run 0 p e := by
  unfold zsv
  split
  · exact Int.le_refl _
  · rw [zvl0]
    split
    · omega
    · omega
theorem zx_earlys (h : zJA T R X F B P M n np nf nt nr par wt ans ad kd kn hd su td pt fc tp rw) (hW : zWh n par ans) {p : Nat} (hp : p < np) {z1 : Int32} : ∃ a b, x_it (fun a9 => xX6_bestEarly_L17 T P (nI p) z1 a9.1 a9.2.1 a9.2.2.1 a9.2.2.2) zFU (R, (0 : Int32), (-1 : Int64), (0 : Int32)) = some a ∧ x_it (fun a9 => xX12_mostEarly_L45 (nI p) z1 a9.1 a9.2.1 a9.2.2.1 a9.2.2.2) zFU (M, (0 : Int32), (-1 : Int64), (0 : Int32)) = some b ∧ a.2 = b.2 ∧ ∃ pt', zJA T a.1 X F B P b.1 n np nf nt nr par wt ans ad kd kn hd su td pt' fc tp rw := by
  have hV := h.1.1
  have hnp := h.2.1.1.1
  have q1 := zbl_lt hV (w := 0) hV.1
  have q2 := zbl_pos hV 0 hV.1
  have q3 := zun_lt hV hW
  have q4 := zun_pos hV hW
  refine zlock (α := zM × Int32 × Int64 × Int32) (γ := zM × Int32 × Int64 × Int32) (fun k a c => ∃ (w : Nat) (x : Int32) (y z : Int64) (R' : zM) (M' : zM) (pt' : Nat → Nat), w ≤ 6 ∧ k = 6 - w ∧ a = (R', x, y, nI w) ∧ c = (M', x, z, nI w) ∧ ((y = -1 ∧ z = -1) ∨ ∃ zc zm : Int, y = lI zc ∧ z = lI zm ∧ zm.natAbs ≤ 160 * zun n par wt ans ∧ zc.natAbs ≤ 160 * zbl n par wt 0 ∧ zm * zbl n par wt 0 = zc * zun n par wt ans) ∧ zJA T R' X F B P M' n np nf nt nr par wt ans ad kd kn hd su td pt' fc tp rw) ?_ zFU 6 (R, (0 : Int32), (-1 : Int64), (0 : Int32)) (M, (0 : Int32), (-1 : Int64), (0 : Int32)) ⟨0, 0, -1, -1, R, M, pt, by decide, rfl, rfl, rfl, Or.inl ⟨rfl, rfl⟩, h⟩ (by decide)
  rintro k a c ⟨w, x, y, z, R', M', pt', hw, rfl, rfl, rfl, hx, hJ⟩
  have gp : zGP (2 : Int32) = nI 5 := zGP_mx 2 (by decide)
  try dsimp only
  unfold xX6_bestEarly_L17 xX12_mostEarly_L45
  rw [gp, show (5 : Int32) = nI 5 from rfl]
  by_cases g : w = 6
  · subst g
    rw [if_pos (show nI 5 < nI 6 by decide), if_pos (show nI 5 < nI 6 by decide)]
    exact Or.inr ⟨_, _, rfl, rfl, rfl, pt', hJ⟩
  have gw : ¬ nI 5 < nI w := by rw [nI_ltI (by decide) (by omega)]; omega
  rw [if_neg gw, if_neg gw]
  simp only [zlet]
  have J1 := zJA_pt hJ (k := 2) (j := w) (by decide) (show w ≤ 5 by omega)
  have hT := J1.1
  obtain ⟨⟨r, s, hr, hs, s1, s2, s3⟩, b1, b2, b3⟩ := zx_sums J1 hW (what := 0) (p := p) (by decide) (by omega)
  obtain ⟨c, hc, k1, k2⟩ := zx_prep hT hW J1.2.1 J1.2.2.1
  obtain ⟨t, ht, t1, t2⟩ := zx_total hV hW J1.2.2.1.1 (zBE_A (pt := zup pt' 2 w) hV J1.2.1.1) k2 (what := 0) (p := p) (v2 := nI p) (by omega) (fun _ => ⟨rfl, hp⟩)
  have t1 : t.1 = lI (zCv n par wt ans np kd kn hd su td (zup pt' 2 w) 0 p) := t1
  have n1 : 0 ≤ zMv n par wt ans np kd kn hd su td (zup pt' 2 w) 0 p := zSm_nn (fun _ _ => zsv0_nn)
  have n2 : 0 ≤ zCv n par wt ans np kd kn hd su td (zup pt' 2 w) 0 p := zSm_nn (fun _ _ => zsv0_nn)
  rw [nI_0] at hs ht
  generalize zMv n par wt ans np kd kn hd su td (zup pt' 2 w) 0 p = zm at *
  generalize zCv n par wt ans np kd kn hd su td (zup pt' 2 w) 0 p = zc at *
  have p2 : ((2 : Int32)).toNatClampNeg = 2 := by decide
  have J2 := zJA_k J1 (zbR_t k1 (zbR_f t2)) zbF_r s3
  have hle : ∀ a b : Int64, (lg_cmp a b ≤ 0) = ¬ (b < a) := fun a b => by rw [propext (lg_cmp_le _ _), Int64.not_lt]
  have hgt : ∀ a b : Int64, (0 < lg_cmp a b) = (b < a) := fun a b => by
    have h1 : (0 < lg_cmp a b) = ¬ (lg_cmp a b ≤ 0) := by rw [Int32.not_le]
    rw [h1, hle, Classical.not_not]
  have hcmp : (y < lI zc) = (z < lI zm) := by
    rcases hx with ⟨rfl, rfl⟩ | ⟨yc, ym, rfl, rfl, y1, y2, y3⟩
    · rw [show (-1 : Int64) = lI (-1) by decide, lI_lt (by decide) (by omega), lI_lt (by decide) (by omega)]
      exact propext ⟨fun _ => by omega, fun _ => by omega⟩
    · rw [lI_lt (by omega) (by omega), lI_lt (by omega) (by omega)]
      exact (zlt_cross (b := zbl n par wt 0) (u := zun n par wt ans) (by omega) (by omega) y3 b3).symm
  simp only [p2, hc, hr, hs, ht, Option.bind_some, s1, t1, nI_1, hle, hgt, hcmp]
  by_cases q : z < lI zm
  · rw [if_neg (fun g => g q), if_pos q]
    exact Or.inl ⟨_, _, 6 - (w + 1), rfl, rfl, by omega, w + 1, nI w, _, _, _, _, _, by omega, rfl, rfl, rfl, Or.inr ⟨zc, zm, rfl, rfl, b1, b2, b3⟩, J2⟩
  · rw [if_pos q, if_neg q]
    exact Or.inl ⟨_, _, 6 - (w + 1), rfl, rfl, by omega, w + 1, x, _, _, _, _, _, by omega, rfl, rfl, rfl, hx, J2⟩
theorem zc_mostEarly (h : zJA T R X F B P M n np nf nt nr par wt ans ad kd kn hd su td pt fc tp rw) (a1 a2 a3 : Int32) : zgo (xL_21 T R X F B P M a1 a2 a3) := by
  have hT := h.1
  have hP := h.2.1
  have hQ := h.2.2.1
  unfold xL_21 xX11_mostEarly xX12_mostEarly
  rcases zarg_p hP a1 with ⟨p, hp, rfl, h1, h2⟩ | ⟨h1, h2⟩
  · obtain ⟨c1, c2, c3, c4, c5, c6, c7, c8⟩ := hP.2.2.1 p hp
    simp only [h1, h2, Option.bind_some, z10, if_false, zon, if_neg (show ¬ P.2.2.2 ≤ ad p by omega)]
    rcases zarg_W hT with ⟨hW, h6, h7⟩ | ⟨-, h6, h7⟩
    · have p2 : ((2 : Int32)).toNatClampNeg = 2 := by decide
      have e1 := hQ.2.1 2 (by decide)
      have e2 := hQ.2.2.1 2 (by decide)
      obtain ⟨a, b, ha, hb, hab, pt', hJ⟩ := zx_earlys h hW hp (z1 := nI (pt 2))
      simp only [h6, h7, Option.bind_some, z10, if_false, xX6_bestEarly, zlet, p2, e1, e2, ha, hb, hab, if_true]
      exact zgo_i rfl (zInv_i (zJA_pt hJ (k := 2) (j := pt 2) (by decide) hQ.1.2.2.1))
    · simp only [h6, h7, Option.bind_some, if_true, zx_ref3, zx_no3]
      exact zgo_i rfl (zInv_ref h zbR_r zbF_r (by decide))
  · simp only [h1, h2, Option.bind_some, if_true, zon, zx_ref1, zx_no1]
    exact zgo_i rfl (zInv_ref h zbR_r zbF_r (by decide))
end
