/-! the call on -/
section
variable {T T' R R' X X' F F' B B' : zM} {P P' : zP} {M M' : zM} {n np nf nt nr : Nat} {par wt ans ad kd kn hd su td pt fc tp rw : Nat → Nat}
theorem zCS_ro (hV : zVT n par wt ans) (h : zCS T n par wt ans) : zRo T := by
  obtain ⟨t1, t2, t3⟩ := h.2.2.1 0 hV.1
  exact ⟨t1, t2, t3⟩
theorem zc_on (h : zJA T R X F B P M n np nf nt nr par wt ans ad kd kn hd su td pt fc tp rw) (a1 a2 a3 : Int32) : zgo (xL_32 T R X F B P M a1 a2 a3) := by
  obtain ⟨hT, hP, hQ, hF, hX, hB, hI⟩ := id h
  unfold xL_32 xX11_on xX12_on
  rcases hI with ⟨g1, g2⟩ | ⟨g1, g2, n1, np1, nf1, pt1, td1, k1, k2, k3, k4, k5, k6, k7, k8, k9, k10, k11, k12, k13, k14, k15, k16, k17, k18⟩
  · simp only [g1, g2, if_true, zx_ref3, zx_no3, Option.bind_some]
    exact zgo_i rfl (zInv_ref h zbR_r zbF_r (by decide))
  have hV := hT.1
  have hn := hV.2.1
  have hnp := hP.1.1
  have hnf := hF.1
  have hV1 : zVT n1 par wt ans := ⟨k1, by omega, fun i h0 hi => hV.2.2.1 i h0 (by omega), hV.2.2.2⟩
  obtain ⟨T1, e1, c1, c2, c3⟩ := zx_cutT hT.2.1.1.1 k1 k2 hn
  have hro := zCS_ro hV hT.2.1
  obtain ⟨T2, e2, hCS⟩ := zx_settle (T := T1) hV1 ⟨c1, fun i hi => by rw [c2 _ _ (by omega), c2 _ _ (by omega), c2 _ _ (by omega)]; exact hT.2.1.1.2 i (by omega)⟩ ⟨(c2 _ _ (by decide)).trans hro.1, (c2 _ _ (by decide)).trans hro.2.1, by rw [c3]; exact hro.2.2⟩
  obtain ⟨R1, e3, r1, r2⟩ := zx_cutR hP.2.1 k3 hnp
  obtain ⟨F1, e4, f1, f2⟩ := zx_cutF hF.2.2.1 k4 hnf
  obtain ⟨R2, e5, s1, s2⟩ := zx_onP (T0 := T2) (F0 := F1) (P0 := P) (R := R1) k10
  have hR2 : R2.1 62 2 = nI np1 := (s2 _ _ (by decide)).trans r1
  have hfake : zIP R2 P (zsi M 0 13 (nI np1)) np1 ad kd kn hd su td := by
    refine ⟨⟨by omega, fun p hp => hP.1.2 p (by omega)⟩, hR2, fun p hp => ?_, zsi_y ⟨rfl, rfl⟩, fun p hp => ?_⟩
    · obtain ⟨x1, x2, x3, x4, x5, x6, x7, x8⟩ := hP.2.2.1 p (by omega)
      exact ⟨x1, x2, x3, x4, x5, x6, x7, fun q hq => x8 q (by omega)⟩
    · rw [zsi_ne (by omega), zsi_ne (by omega), zsi_ne (by omega), zsi_ne (by omega), zsi_ne (by omega)]
      exact hP.2.2.2.2 p (by omega)
  obtain ⟨P2, e6, hCP⟩ := zx_onT (T0 := T2) (F0 := F1) (B := B) hfake k6 k11
  obtain ⟨r, hr, v1, v2, v3, v4⟩ := zx_restores (M0 := zsi M 0 50 (0 : Int32)) (q := zsi M 0 50 (0 : Int32)) (zsi_y ⟨rfl, rfl⟩) (fun _ _ _ => rfl)
  have fr : ∀ a b, zfz a b → ¬ (a = 0 ∧ b = 50) → r.1 a b = M.1 a b := fun a b g z => by rw [v3 a b g, zsi_ne z]
  have cell : ∀ k j i, k < 128 → zct k = j → zco k = i → r.1 j i = M.1 32 k := fun k j i hk e1 e2 => by
    rw [← e1, ← e2, v4 k hk, zsi_ne (by omega)]
  have d1 : ∀ i, i < 24 → zct i = 2 ∧ zco i = i ∧ zct (24 + i) = 3 ∧ zco (24 + i) = i ∧ zct (48 + i) = 4 ∧ zco (48 + i) = i ∧ zct (72 + i) = 5 ∧ zco (72 + i) = i := by decide
  have d2 : ∀ i, i < 4 → zct (96 + i) = 6 ∧ zco (96 + i) = i ∧ zct (100 + i) = 7 ∧ zco (100 + i) = i ∧ zct (104 + i) = 8 ∧ zco (104 + i) = i ∧ zct (108 + i) = 9 ∧ zco (108 + i) = i ∧ zct (112 + i) = 10 ∧ zco (112 + i) = i ∧ zct (116 + i) = 11 ∧ zco (116 + i) = i := by decide
  have d3 : ∀ i, i < 5 → zct (120 + i) = 28 ∧ zco (120 + i) = i := by decide
  have q12 : r.1 0 12 = nI n1 := (cell 125 0 12 (by decide) (by decide) (by decide)).trans k16
  have q13 : r.1 0 13 = nI np1 := (cell 126 0 13 (by decide) (by decide) (by decide)).trans k17
  have q44 : r.1 0 44 = nI nf1 := (cell 127 0 44 (by decide) (by decide) (by decide)).trans k18
  have q32 : ∀ k, r.1 32 k = M.1 32 k := fun k => fr _ _ ⟨by omega, by omega, by omega⟩ (by omega)
  have t13 : T2.1 0 13 = nI n1 := hCS.1.1
  have n10 : ¬ (1 : Int32) = 0 := by decide
  simp only [g1, g2, if_neg n10, k7, k8, k9, e1, e2, e3, e4, e5, e6, Option.bind_some, xX10_size, zlet, hr, t13, q12, if_true]
  obtain ⟨i1, i2, i3, i4, i5, i6, i7⟩ := hQ
  refine zgo_i rfl (zInv_i (n := n1) (np := np1) (nf := nf1) (nt := nt) (nr := nr) (par := par) (wt := wt) (ans := ans) (ad := ad) (kd := kd) (kn := kn) (hd := hd) (su := su) (td := td1) (pt := pt1) (fc := fc) (tp := tp) (rw := rw) ⟨⟨hV1, hCS, ⟨q12, fun i hi => ?_⟩, fun i hi => ?_⟩, ⟨⟨by omega, fun p hp => ?_⟩, hR2, hCP, q13, fun p hp => ?_⟩, ⟨k5, s1, fun k hk => ?_, ?_, ?_, ?_, ?_⟩, ⟨by omega, fun i hi => hF.2.1 i (by omega), f1, fun i hi => (f2 _ _ (by omega)).trans (hF.2.2.2.1 i (by omega)), q44, fun i hi => ?_⟩, zIX_c hX (fun a b g => fr a b ⟨by omega, by omega, by omega⟩ (by omega)), zIB_c hB (fun a b g => fr a b ⟨by omega, by omega, by omega⟩ (by omega)), Or.inr ⟨g1, (fr 0 49 ⟨by decide, by decide, by decide⟩ (by decide)).trans g2, n1, np1, nf1, pt1, td1, k1, Nat.le_refl _, Nat.le_refl _, Nat.le_refl _, k5, k6, k7, k8, k9, k10, k11, fun i hi => ?_, fun p hp => ?_, fun k hk => (q32 _).trans (k14 k hk), fun i hi => (q32 _).trans (k15 i hi), (q32 _).trans k16, (q32 _).trans k17, (q32 _).trans k18⟩⟩)
  · obtain ⟨x1, x2, x3, x4, x5, x6, x7, x8⟩ := d1 i (by omega)
    rw [cell i 2 i (by omega) x1 x2, cell _ 3 i (by omega) x3 x4, cell _ 4 i (by omega) x5 x6]
    exact ⟨(k12 i hi).1, (k12 i hi).2.1, (k12 i hi).2.2.1⟩
  · obtain ⟨x1, x2, x3, x4, x5, x6, x7, x8⟩ := d1 i (by omega)
    rw [cell _ 5 i (by omega) x7 x8]
    exact (k12 i hi).2.2.2
  · obtain ⟨y1, y2, y3, y4, y5, y6⟩ := hP.1.2 p (by omega)
    exact ⟨y1, y2, y3, y4, (k6 p hp).1, (k6 p hp).2⟩
  · obtain ⟨x1, x2, x3, x4, x5, x6, x7, x8, x9, x10, x11, x12⟩ := d2 p (by omega)
    rw [cell _ 6 p (by omega) x1 x2, cell _ 7 p (by omega) x3 x4, cell _ 8 p (by omega) x5 x6, cell _ 9 p (by omega) x7 x8, cell _ 10 p (by omega) x9 x10]
    exact k13 p hp
  · obtain ⟨x1, x2, x3, x4, x5, x6, x7, x8, x9, x10, x11, x12⟩ := d2 k (by omega)
    rw [cell _ 11 k (by omega) x11 x12]
    exact k14 k hk
  · exact (fr 12 0 ⟨by decide, by decide, by decide⟩ (by decide)).trans i4
  · exact (fr 12 1 ⟨by decide, by decide, by decide⟩ (by decide)).trans i5
  · exact (fr 12 2 ⟨by decide, by decide, by decide⟩ (by decide)).trans i6
  · exact (fr 12 3 ⟨by decide, by decide, by decide⟩ (by decide)).trans i7
  · obtain ⟨x1, x2⟩ := d3 i (by omega)
    rw [cell _ 28 i (by omega) x1 x2]
    exact k15 i hi
  · rw [q32, q32, q32, q32]
    exact k12 i hi
  · rw [q32, q32, q32, q32, q32]
    exact k13 p hp
end
