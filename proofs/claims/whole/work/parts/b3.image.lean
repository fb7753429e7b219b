/-! the image: keeping, going back -/
section
def zpB (L : Nat) (lit : Int32) (j : Nat) (w0 : zM) (w1 : Int32) : Option ((zM × Int32) ⊕ zM) :=
  if lit ≤ w1 then
  (some (.inr w0))
  else
  if (w0.1 0 50) = 0 then
  (if ((w0.1 0 51) < 0 ∨ 140 ≤ (w0.1 0 51).toNatClampNeg) then none else
  if (w1 < 0 ∨ L ≤ w1.toNatClampNeg) then none else
  zlet (zsi w0 j w1.toNatClampNeg (w0.1 32 (w0.1 0 51).toNatClampNeg)) fun M5 =>
  zlet (zsi M5 0 51 ((M5.1 0 51) + (1 : Int32))) fun M7 =>
  some (.inl (M7, (w1 + (1 : Int32)))))
  else
  if (w1 < 0 ∨ L ≤ w1.toNatClampNeg) then none else
  if ((w0.1 0 51) < 0 ∨ 140 ≤ (w0.1 0 51).toNatClampNeg) then none else
  zlet (zsi w0 32 (w0.1 0 51).toNatClampNeg (w0.1 j w1.toNatClampNeg)) fun M11 =>
  zlet (zsi M11 0 51 ((M11.1 0 51) + (1 : Int32))) fun M13 =>
  some (.inl (M13, (w1 + (1 : Int32))))
def zpP (L : Nat) (lit : Int32) (j : Nat) (M : zM) : Option zM := (x_it (fun a9 => zpB L lit j a9.1 a9.2) zFU (M, (0 : Int32))).bind fun q1 => some q1
theorem zpa2 : xX12_passes_a2 = zpP 24 24 2 := rfl
theorem zpa3 : xX12_passes_a3 = zpP 24 24 3 := rfl
theorem zpa4 : xX12_passes_a4 = zpP 24 24 4 := rfl
theorem zpa5 : xX12_passes_a5 = zpP 24 24 5 := rfl
theorem zpa6 : xX12_passes_a6 = zpP 4 4 6 := rfl
theorem zpa7 : xX12_passes_a7 = zpP 4 4 7 := rfl
theorem zpa8 : xX12_passes_a8 = zpP 4 4 8 := rfl
theorem zpa9 : xX12_passes_a9 = zpP 4 4 9 := rfl
theorem zpa10 : xX12_passes_a10 = zpP 4 4 10 := rfl
theorem zpa11 : xX12_passes_a11 = zpP 4 4 11 := rfl
theorem zpa28 : xX12_passes_a28 = zpP 5 5 28 := rfl
/-- which array, which place, is kept at k -/
def zct (k : Nat) : Nat := if k < 96 then k / 24 + 2 else if k < 120 then (k - 96) / 4 + 6 else if k < 125 then 28 else 0
def zco (k : Nat) : Nat := if k < 96 then k % 24 else if k < 120 then (k - 96) % 4 else if k < 125 then k - 120 else if k = 125 then 12 else if k = 126 then 13 else 44
def zkp (M0 : zM) (o : Nat) (r : zM) : Prop := r.1 0 50 = 1 ∧ r.1 0 51 = nI o ∧ (∀ a b, a ≠ 32 → ¬ (a = 0 ∧ b = 51) → r.1 a b = M0.1 a b) ∧ (∀ k, k < o → r.1 32 k = M0.1 (zct k) (zco k)) ∧ r.2 = M0.2
theorem zx_keep {M0 q : zM} {o L j : Nat} {lit : Int32} (h : zkp M0 o q) (hl : lit = nI L) (hL : o + L ≤ 140) (hj : j ≠ 32 ∧ j ≠ 0) (hc : ∀ i, i < L → zct (o + i) = j ∧ zco (o + i) = i) : ∃ r, zpP L lit j q = some r ∧ zkp M0 (o + L) r := by
  have key : zok (x_it (fun a9 => zpB L lit j a9.1 a9.2) zFU (q, (0 : Int32))) (fun r => zkp M0 (o + L) r) := by
    refine zok_for (fun c z => z.2 = nI c ∧ zkp M0 (o + c) z.1) 0 L (Nat.zero_le _) (by omega) ⟨rfl, h⟩ ?_ ?_
    · rintro c ⟨A, y⟩ - hcL ⟨hy, a1, a2, a3, a4, a5⟩
      try dsimp only at hy a1 a2 a3 a4 a5
      subst hy
      obtain ⟨e1, e2⟩ := hc c hcL
      have run : zpB L lit j A (nI c) = some (.inl (zsi (zsi A 32 (o + c) (A.1 j c)) 0 51 (nI (o + (c + 1))), nI (c + 1))) := by
        unfold zpB
        simp only [zlet]
        rw [hl, if_neg (by rw [nI_leI (by omega) (by omega)]; omega), a1, if_neg (by decide), if_neg (nI_in (by omega) (by omega)), nI_clamp (show c < 2 ^ 31 by omega), a2, if_neg (nI_in (show o + c < 140 by omega) (by decide)), nI_clamp (show o + c < 2 ^ 31 by omega), zsi_ne (by omega), a2, nI_1, nI_1]
        rfl
      refine ⟨_, run, _, rfl, rfl, ?_, zsi_y ⟨rfl, rfl⟩, fun a b g1 g2 => ?_, fun k hk => ?_, a5⟩
      · rw [zsi_ne (by omega), zsi_ne (by omega)]; exact a1
      · rw [zsi_ne g2, zsi_ne (fun z => g1 z.1)]; exact a3 a b g1 g2
      · rw [zsi_ne (by omega)]
        by_cases g : k = o + c
        · rw [zsi_y ⟨rfl, g⟩, g, e1, e2]
          exact a3 j c hj.1 (fun z => hj.2 z.1)
        · rw [zsi_ne (fun z => g z.2)]
          exact a4 k (by omega)
    · rintro ⟨A, y⟩ ⟨hy, hA⟩
      try dsimp only at hy hA
      subst hy
      refine ⟨.inr A, ?_, _, rfl, hA⟩
      try dsimp only
      unfold zpB
      rw [hl, if_pos (nI_le (by omega) (by omega))]
  obtain ⟨r, hr, h2⟩ := key
  refine ⟨r, ?_, h2⟩
  unfold zpP
  rw [hr]; rfl
theorem zx_keep1 {M0 q : zM} {o : Nat} (h : zkp M0 o q) (ho : o < 140) {b : Nat} (hb : b ≠ 51) (hc : zct o = 0 ∧ zco o = b) : ∃ r, xX12_passOne q (q.1 0 b) = some r ∧ zkp M0 (o + 1) (zsi r.2 0 b r.1) := by
  obtain ⟨a1, a2, a3, a4, a5⟩ := h
  refine ⟨(q.1 0 b, zsi (zsi q 32 o (q.1 0 b)) 0 51 (nI (o + 1))), ?_, ?_, ?_, fun a b' g1 g2 => ?_, fun k hk => ?_, a5⟩
  · unfold xX12_passOne
    simp only [zlet]
    rw [a1, if_neg (by decide), if_neg (by decide), a2, if_neg (nI_in ho (by decide)), nI_clamp (by omega), zsi_ne (by omega), a2, nI_1]
  · by_cases g : b = 50
    · rw [zsi_y ⟨rfl, g.symm⟩, g]; exact a1
    · rw [zsi_ne (by omega), zsi_ne (by omega), zsi_ne (by omega)]; exact a1
  · rw [zsi_ne (by omega), zsi_y ⟨rfl, rfl⟩]
  · by_cases g : a = 0 ∧ b' = b
    · rw [zsi_y g, g.1, g.2]
      exact a3 0 b (by decide) (by omega)
    · rw [zsi_ne g, zsi_ne g2, zsi_ne (fun z => g1 z.1)]
      exact a3 a b' g1 g2
  · rw [zsi_ne (by omega), zsi_ne (by omega)]
    by_cases g : k = o
    · rw [zsi_y ⟨rfl, g⟩, g, hc.1, hc.2]
      exact a3 0 b (by decide) (by omega)
    · rw [zsi_ne (fun z => g z.2)]
      exact a4 k (by omega)
theorem zx_keeps {M0 q : zM} (h : q.1 0 50 = 1) (hM : ∀ a b, a ≠ 32 → ¬ (a = 0 ∧ b = 51) → q.1 a b = M0.1 a b) (h2 : q.2 = M0.2) : ∃ r, xX12_passesAll q = some r ∧ zkp M0 128 r := by
  have h0 : zkp M0 0 (zsi q 0 51 (0 : Int32)) := ⟨by rw [zsi_ne (by decide)]; exact h, zsi_y ⟨rfl, rfl⟩, fun a b g1 g2 => by rw [zsi_ne g2]; exact hM a b g1 g2, fun k hk => absurd hk (Nat.not_lt_zero k), h2⟩
  unfold xX12_passesAll
  simp only [zlet]
  rw [zpa2, zpa3, zpa4, zpa5, zpa6, zpa7, zpa8, zpa9, zpa10, zpa11, zpa28]
  obtain ⟨r1, e1, k1⟩ := zx_keep (L := 24) (lit := 24) (j := 2) h0 rfl (by decide) (by decide) (by decide)
  obtain ⟨r2, e2, k2⟩ := zx_keep (L := 24) (lit := 24) (j := 3) k1 rfl (by decide) (by decide) (by decide)
  obtain ⟨r3, e3, k3⟩ := zx_keep (L := 24) (lit := 24) (j := 4) k2 rfl (by decide) (by decide) (by decide)
  obtain ⟨r4, e4, k4⟩ := zx_keep (L := 24) (lit := 24) (j := 5) k3 rfl (by decide) (by decide) (by decide)
  obtain ⟨r5, e5, k5⟩ := zx_keep (L := 4) (lit := 4) (j := 6) k4 rfl (by decide) (by decide) (by decide)
  obtain ⟨r6, e6, k6⟩ := zx_keep (L := 4) (lit := 4) (j := 7) k5 rfl (by decide) (by decide) (by decide)
  obtain ⟨r7, e7, k7⟩ := zx_keep (L := 4) (lit := 4) (j := 8) k6 rfl (by decide) (by decide) (by decide)
  obtain ⟨r8, e8, k8⟩ := zx_keep (L := 4) (lit := 4) (j := 9) k7 rfl (by decide) (by decide) (by decide)
  obtain ⟨r9, e9, k9⟩ := zx_keep (L := 4) (lit := 4) (j := 10) k8 rfl (by decide) (by decide) (by decide)
  obtain ⟨r10, e10, k10⟩ := zx_keep (L := 4) (lit := 4) (j := 11) k9 rfl (by decide) (by decide) (by decide)
  obtain ⟨r11, e11, k11⟩ := zx_keep (L := 5) (lit := 5) (j := 28) k10 rfl (by decide) (by decide) (by decide)
  obtain ⟨r12, e12, k12⟩ := zx_keep1 k11 (by decide) (b := 12) (by decide) (by decide)
  obtain ⟨r13, e13, k13⟩ := zx_keep1 k12 (by decide) (b := 13) (by decide) (by decide)
  obtain ⟨r14, e14, k14⟩ := zx_keep1 k13 (by decide) (b := 44) (by decide) (by decide)
  refine ⟨zsi r14.2 0 44 r14.1, ?_, k14⟩
  rw [e1, Option.bind_some, e2, Option.bind_some, e3, Option.bind_some, e4, Option.bind_some, e5, Option.bind_some, e6, Option.bind_some, e7, Option.bind_some, e8, Option.bind_some, e9, Option.bind_some, e10, Option.bind_some, e11, Option.bind_some, e12, Option.bind_some, e13, Option.bind_some, e14, Option.bind_some]
end
section
variable {T T' R R' X X' F F' B B' : zM} {P P' : zP} {M M' : zM} {n np nf nt nr : Nat} {par wt ans ad kd kn hd su td pt fc tp rw : Nat → Nat}
theorem zx_imgP (hQ : zIQ R M pt) {F0 : zM} {P0 : zP} {T0 : zM} : zok (x_it (fun a9 => xX11_image_L40 T0 R F0 P0 a9.1 a9.2) zFU (B, (0 : Int32))) (fun r => (∀ k, k < 4 → r.1 79 k = nI (pt k)) ∧ (∀ a b, a ≠ 79 → r.1 a b = B.1 a b)) := by
  refine zok_for (fun c z => z.2 = nI c ∧ (∀ k, k < c → z.1.1 79 k = nI (pt k)) ∧ (∀ a b, a ≠ 79 → z.1.1 a b = B.1 a b)) 0 4 (by decide) (by decide) ⟨rfl, fun k hk => absurd hk (Nat.not_lt_zero k), fun _ _ _ => rfl⟩ ?_ ?_
  · rintro c ⟨A, y⟩ - hc ⟨hy, a1, a2⟩
    try dsimp only at hy a1 a2
    subst hy
    have run : xX11_image_L40 T0 R F0 P0 A (nI c) = some (.inl (zsi A 79 c (nI (pt c)), nI (c + 1))) := by
      unfold xX11_image_L40 xX6_pointOf
      simp only [zlet]
      rw [zl4, if_neg (by rw [nI_leI (by omega) (by omega)]; omega), if_neg (nI_pos (by omega)), if_neg (by rw [nI_leI (by omega) (by omega)]; omega), if_neg (nI_in hc (by decide)), nI_clamp (by omega), hQ.2.1 c hc, Option.bind_some, if_neg (zin_w hc (by decide)), nI_1]
    refine ⟨_, run, _, rfl, rfl, fun k hk => ?_, fun a b g => ?_⟩
    · by_cases g : k = c
      · rw [zsi_y ⟨rfl, g⟩, g]
      · rw [zsi_ne (fun z => g z.2)]
        exact a1 k (by omega)
    · rw [zsi_ne (fun z => g z.1)]
      exact a2 a b g
  · rintro ⟨A, y⟩ ⟨hy, a1, a2⟩
    try dsimp only at hy a1 a2
    subst hy
    refine ⟨.inr A, ?_, _, rfl, a1, a2⟩
    try dsimp only
    unfold xX11_image_L40
    rw [if_pos (show (4 : Int32) ≤ nI 4 by decide)]
theorem zplay_c (hP : zIP R P M np ad kd kn hd su td) {c : Nat} (hc : c < 4) : xX6_playerAt R P (nI c) = some (if c < np then some (ad c) else none) := by
  by_cases g : c < np
  · rw [if_pos g, zx_playerAt hP.1.1 hP.2.1 g, (hP.2.2.1 c g).1]
  · rw [if_neg g]
    rcases zarg_p hP (nI c) with ⟨p, hp, h1, h2, h3⟩ | ⟨h1, h2⟩
    · have := (nI_eq (show c < 2 ^ 31 by omega) (show p < 2 ^ 31 by have := hP.1.1; omega)).mp h1
      omega
    · exact h1
theorem zx_imgT (hP : zIP R P M np ad kd kn hd su td) {F0 : zM} {T0 : zM} : zok (x_it (fun a9 => xX11_image_L71 T0 R F0 P a9.1 a9.2) zFU (B, (0 : Int32))) (fun r => (∀ k, k < np → r.1 80 k = nI (td k)) ∧ (∀ a b, a ≠ 80 → r.1 a b = B.1 a b)) := by
  have hnp := hP.1.1
  have key : zok (x_it (fun a9 => xX11_image_L71 T0 R F0 P a9.1 a9.2) zFU (B, (0 : Int32))) (fun r => (∀ k, k < 4 → k < np → r.1 80 k = nI (td k)) ∧ (∀ a b, a ≠ 80 → r.1 a b = B.1 a b)) := by
    refine zok_for (fun c z => z.2 = nI c ∧ (∀ k, k < c → k < np → z.1.1 80 k = nI (td k)) ∧ (∀ a b, a ≠ 80 → z.1.1 a b = B.1 a b)) 0 4 (by decide) (by decide) ⟨rfl, fun k hk => absurd hk (Nat.not_lt_zero k), fun _ _ _ => rfl⟩ ?_ ?_
    · rintro c ⟨A, y⟩ - hc ⟨hy, a1, a2⟩
      try dsimp only at hy a1 a2
      subst hy
      have run : xX11_image_L71 T0 R F0 P A (nI c) = some (.inl (zsi A 80 c (nI (if c < np then td c else 0)), nI (c + 1))) := by
        unfold xX11_image_L71
        rw [zl4, if_neg (by rw [nI_leI (by omega) (by omega)]; omega), zplay_c hP hc, Option.bind_some]
        by_cases g : c < np
        · have hb := (hP.2.2.1 c g).2.1
          rw [if_pos g, if_pos g]
          simp only [zon, zlet]
          rw [if_neg (show ¬ P.2.2.2 ≤ ad c by omega), zx_toldSet hP g, Option.bind_some, if_neg (nI_in hc (by decide)), nI_clamp (by omega), nI_1]
        · rw [if_neg g, if_neg g]
          simp only [zon, zlet]
          rw [if_neg (nI_in hc (by decide)), nI_clamp (by omega), nI_1]
          rfl
      refine ⟨_, run, _, rfl, rfl, fun k hk hk2 => ?_, fun a b g => ?_⟩
      · by_cases g : k = c
        · rw [zsi_y ⟨rfl, g⟩, if_pos (by omega), g]
        · rw [zsi_ne (fun z => g z.2)]
          exact a1 k (by omega) hk2
      · rw [zsi_ne (fun z => g z.1)]
        exact a2 a b g
    · rintro ⟨A, y⟩ ⟨hy, a1, a2⟩
      try dsimp only at hy a1 a2
      subst hy
      refine ⟨.inr A, ?_, _, rfl, a1, a2⟩
      try dsimp only
      unfold xX11_image_L71
      rw [if_pos (show (4 : Int32) ≤ nI 4 by decide)]
  exact key.imp (fun r h => ⟨fun k hk => h.1 k (by omega) hk, h.2⟩)
theorem zc_image (h : zJA T R X F B P M n np nf nt nr par wt ans ad kd kn hd su td pt fc tp rw) (a1 a2 a3 : Int32) : zgo (xL_31 T R X F B P M a1 a2 a3) := by
  obtain ⟨hT, hP, hQ, hF, hX, hB, hI⟩ := h
  unfold xL_31 xX11_image xX12_image
  simp only [zlet, xX10_size, xX6_size, xX3_size, Option.bind_some, hT.2.1.1.1, hP.2.1, hF.2.2.1]
  obtain ⟨r, hr, k1, k2, k3, k4, k5⟩ := zx_keeps (M0 := zsi (zsi M 0 50 (1 : Int32)) 0 49 (1 : Int32)) (q := zsi (zsi M 0 50 (1 : Int32)) 0 49 (1 : Int32)) (by rw [zsi_ne (by decide), zsi_y ⟨rfl, rfl⟩]) (fun _ _ _ _ => rfl) rfl
  obtain ⟨b1, hb1, p1, p2⟩ := zx_imgP (T0 := T) (F0 := F) (P0 := P) (B := zsi (zsi (zsi (zsi B 76 7 (1 : Int32)) 76 8 (nI n)) 76 9 (nI np)) 76 10 (nI nf)) hQ
  obtain ⟨b2, hb2, q1, q2⟩ := zx_imgT (T0 := T) (F0 := F) (B := b1) hP
  have cM : ∀ a b, a ≠ 32 → ¬ (a = 0 ∧ (b = 49 ∨ b = 50 ∨ b = 51)) → r.1 a b = M.1 a b := fun a b g1 g2 => by
    rw [k3 a b g1 (by omega), zsi_ne (by omega), zsi_ne (by omega)]
  have cB : ∀ a b, a ≠ 79 → a ≠ 80 → ¬ (a = 76 ∧ (b = 7 ∨ b = 8 ∨ b = 9 ∨ b = 10)) → b2.1 a b = B.1 a b := fun a b g1 g2 g3 => by
    rw [q2 a b g2, p2 a b g1, zsi_ne (by omega), zsi_ne (by omega), zsi_ne (by omega), zsi_ne (by omega)]
  have c32 : ∀ k, k < 128 → ¬ (zct k = 32) → ¬ (zct k = 0 ∧ (zco k = 49 ∨ zco k = 50 ∨ zco k = 51)) → r.1 32 k = M.1 (zct k) (zco k) := fun k hk g1 g2 => by
    rw [k4 k hk, zsi_ne (by omega), zsi_ne (by omega)]
  have e12 : r.1 0 12 = nI n := (cM 0 12 (by decide) (by decide)).trans hT.2.2.1.1
  simp only [hr, hb1, hb2, Option.bind_some, e12, if_true]
  have cell : ∀ k j i, k < 128 → zct k = j → zco k = i → j ≠ 32 → (j ≠ 0 ∨ i ≤ 44) → r.1 32 k = M.1 j i := fun k j i hk e1 e2 g1 g2 => by
    rw [c32 k hk (by omega) (by omega), e1, e2]
  have d1 : ∀ i, i < 24 → zct i = 2 ∧ zco i = i ∧ zct (24 + i) = 3 ∧ zco (24 + i) = i ∧ zct (48 + i) = 4 ∧ zco (48 + i) = i ∧ zct (72 + i) = 5 ∧ zco (72 + i) = i := by decide
  have d2 : ∀ i, i < 4 → zct (96 + i) = 6 ∧ zco (96 + i) = i ∧ zct (100 + i) = 7 ∧ zco (100 + i) = i ∧ zct (104 + i) = 8 ∧ zco (104 + i) = i ∧ zct (108 + i) = 9 ∧ zco (108 + i) = i ∧ zct (112 + i) = 10 ∧ zco (112 + i) = i ∧ zct (116 + i) = 11 ∧ zco (116 + i) = i := by decide
  have d3 : ∀ i, i < 5 → zct (120 + i) = 28 ∧ zco (120 + i) = i := by decide
  have hn := hT.1.2.1
  have hnp := hP.1.1
  have hnf := hF.1
  obtain ⟨f1, f2, f3, f4, f5, f6, f7⟩ := hB
  refine zgo_i rfl (zInv_i ⟨zIT_c hT (fun a b g => cM a b (by omega) (by omega)), zIP_c hP rfl (fun a b g => cM a b (by omega) (by omega)), zIQ_c hQ (fun _ => rfl) (fun a b g => cM a b (by omega) (by omega)), zIF_c hF (fun a b g => cM a b (by omega) (by omega)), zIX_c hX (fun a b g => cM a b (by omega) (by omega)), ⟨f1, f2, (cB _ _ (by omega) (by omega) (by omega)).trans f3, fun i hi => (cB _ _ (by omega) (by omega) (by omega)).trans (f4 i hi), (cM _ _ (by omega) (by omega)).trans f5, fun i hi => (cM _ _ (by omega) (by omega)).trans (f6 i hi), fun k hk => ?_⟩, Or.inr ⟨?_, ?_, n, np, nf, pt, td, hT.1.1, Nat.le_refl _, Nat.le_refl _, Nat.le_refl _, hQ.1, fun p hp => ⟨(hP.1.2 p hp).2.2.2.2.1, (hP.1.2 p hp).2.2.2.2.2⟩, ?_, ?_, ?_, fun k hk => (q2 79 k (by decide)).trans (p1 k hk), q1, fun i hi => ?_, fun p hp => ?_, fun k hk => ?_, fun i hi => ?_, ?_, ?_, ?_⟩⟩)
  · rw [cB 78 k (by decide) (by decide) (by omega), cM 1 k (by decide) (by omega)]
    exact f7 k hk
  · rw [q2 _ _ (by decide), p2 _ _ (by decide), zsi_ne (by decide), zsi_ne (by decide), zsi_ne (by decide), zsi_y ⟨rfl, rfl⟩]
  · rw [k3 _ _ (by decide) (by decide), zsi_y ⟨rfl, rfl⟩]
  · rw [q2 _ _ (by decide), p2 _ _ (by decide), zsi_ne (by decide), zsi_ne (by decide), zsi_y ⟨rfl, rfl⟩]
  · rw [q2 _ _ (by decide), p2 _ _ (by decide), zsi_ne (by decide), zsi_y ⟨rfl, rfl⟩]
  · rw [q2 _ _ (by decide), p2 _ _ (by decide), zsi_y ⟨rfl, rfl⟩]
  · obtain ⟨x1, x2, x3, x4, x5, x6, x7, x8⟩ := d1 i (by omega)
    obtain ⟨t1, t2, t3⟩ := hT.2.2.1.2 i hi
    have t4 := hT.2.2.2 i hi
    rw [cell i 2 i (by omega) x1 x2 (by decide) (by omega), cell _ 3 i (by omega) x3 x4 (by decide) (by omega), cell _ 4 i (by omega) x5 x6 (by decide) (by omega), cell _ 5 i (by omega) x7 x8 (by decide) (by omega)]
    exact ⟨t1, t2, t3, t4⟩
  · obtain ⟨x1, x2, x3, x4, x5, x6, x7, x8, x9, x10, x11, x12⟩ := d2 p (by omega)
    rw [cell _ 6 p (by omega) x1 x2 (by decide) (by omega), cell _ 7 p (by omega) x3 x4 (by decide) (by omega), cell _ 8 p (by omega) x5 x6 (by decide) (by omega), cell _ 9 p (by omega) x7 x8 (by decide) (by omega), cell _ 10 p (by omega) x9 x10 (by decide) (by omega)]
    exact hP.2.2.2.2 p hp
  · obtain ⟨x1, x2, x3, x4, x5, x6, x7, x8, x9, x10, x11, x12⟩ := d2 k (by omega)
    rw [cell _ 11 k (by omega) x11 x12 (by decide) (by omega)]
    exact hQ.2.2.1 k hk
  · obtain ⟨x1, x2⟩ := d3 i (by omega)
    rw [cell _ 28 i (by omega) x1 x2 (by decide) (by omega)]
    exact hF.2.2.2.2.2 i hi
  · rw [cell 125 0 12 (by decide) (by decide) (by decide) (by decide) (by decide)]
    exact hT.2.2.1.1
  · rw [cell 126 0 13 (by decide) (by decide) (by decide) (by decide) (by decide)]
    exact hP.2.2.2.1
  · rw [cell 127 0 44 (by decide) (by decide) (by decide) (by decide) (by decide)]
    exact hF.2.2.2.2.1
end
