/-! going back to the image -/
section
def zfz (a b : Nat) : Prop := a ≠ 28 ∧ ¬ (2 ≤ a ∧ a ≤ 11) ∧ ¬ (a = 0 ∧ (b = 12 ∨ b = 13 ∨ b = 44 ∨ b = 51))
def zrs (M0 : zM) (o : Nat) (r : zM) : Prop := r.1 0 50 = 0 ∧ r.1 0 51 = nI o ∧ (∀ a b, zfz a b → r.1 a b = M0.1 a b) ∧ (∀ k, k < o → r.1 (zct k) (zco k) = M0.1 32 k)
theorem zx_rest1 {M0 q : zM} {o L j : Nat} {lit : Int32} (h : zrs M0 o q) (hl : lit = nI L) (hL : o + L ≤ 140) (hj : j = 28 ∨ (2 ≤ j ∧ j ≤ 11)) (hc : ∀ i, i < L → zct (o + i) = j ∧ zco (o + i) = i) (hd : ∀ k, k < o → zct k ≠ j) (he : ∀ k, k < o + L → ¬ (zct k = 0 ∧ zco k = 51)) : ∃ r, zpP L lit j q = some r ∧ zrs M0 (o + L) r := by
  have key : zok (x_it (fun a9 => zpB L lit j a9.1 a9.2) zFU (q, (0 : Int32))) (fun r => zrs M0 (o + L) r) := by
    refine zok_for (fun c z => z.2 = nI c ∧ zrs M0 (o + c) z.1) 0 L (Nat.zero_le _) (by omega) ⟨rfl, h⟩ ?_ ?_
    · rintro c ⟨A, y⟩ - hcL ⟨hy, a1, a2, a3, a4⟩
      try dsimp only at hy a1 a2 a3 a4
      subst hy
      obtain ⟨e1, e2⟩ := hc c hcL
      have m32 : A.1 32 (o + c) = M0.1 32 (o + c) := a3 _ _ ⟨by decide, by decide, by omega⟩
      have run : zpB L lit j A (nI c) = some (.inl (zsi (zsi A j c (M0.1 32 (o + c))) 0 51 (nI (o + (c + 1))), nI (c + 1))) := by
        unfold zpB
        simp only [zlet]
        rw [hl, if_neg (by rw [nI_leI (by omega) (by omega)]; omega), a1, if_pos rfl, a2, if_neg (nI_in (show o + c < 140 by omega) (by decide)), nI_clamp (show o + c < 2 ^ 31 by omega), if_neg (nI_in (by omega) (by omega)), nI_clamp (show c < 2 ^ 31 by omega), zsi_ne (by omega), a2, nI_1, nI_1, m32]
        rfl
      refine ⟨_, run, _, rfl, rfl, ?_, zsi_y ⟨rfl, rfl⟩, fun a b g => ?_, fun k hk => ?_⟩
      · rw [zsi_ne (by omega), zsi_ne (by omega)]; exact a1
      · obtain ⟨g1, g2, g3⟩ := g
        rw [zsi_ne (by omega), zsi_ne (by omega)]; exact a3 a b ⟨g1, g2, g3⟩
      · rw [zsi_ne (he k (by omega))]
        by_cases g : k = o + c
        · rw [g, zsi_y ⟨e1, e2⟩]
        · rw [zsi_ne ?_]
          · exact a4 k (by omega)
          · rintro ⟨z1, z2⟩
            by_cases g2 : k < o
            · exact hd k g2 z1
            · have := (hc (k - o) (by omega)).2
              rw [show o + (k - o) = k by omega] at this
              omega
    · rintro ⟨A, y⟩ ⟨hy, hA⟩
      try dsimp only at hy hA
      subst hy
      refine ⟨.inr A, ?_, _, rfl, hA⟩
      try dsimp only
      unfold zpB
      rw [hl, if_pos (nI_le (by omega) (by omega))]
  obtain ⟨r, hr, h2⟩ := key
  refine ⟨r, ?_, h2⟩
  unfold zpP
  rw [hr]; rfl
theorem zx_rest2 {M0 q : zM} {o : Nat} (h : zrs M0 o q) (ho : o < 140) {b : Nat} (hb : b = 12 ∨ b = 13 ∨ b = 44) (hc : zct o = 0 ∧ zco o = b) (hd : ∀ k, k < o → ¬ (zct k = 0 ∧ zco k = b) ∧ ¬ (zct k = 0 ∧ zco k = 51)) {v : Int32} : ∃ r, xX12_passOne q v = some r ∧ zrs M0 (o + 1) (zsi r.2 0 b r.1) := by
  obtain ⟨a1, a2, a3, a4⟩ := h
  have m32 : q.1 32 o = M0.1 32 o := a3 _ _ ⟨by decide, by decide, by omega⟩
  refine ⟨(M0.1 32 o, zsi q 0 51 (nI (o + 1))), ?_, ?_, ?_, fun a b' g => ?_, fun k hk => ?_⟩
  · unfold xX12_passOne
    simp only [zlet]
    rw [a1, if_pos rfl, a2, if_neg (nI_in ho (by decide)), nI_clamp (by omega), if_pos rfl, m32, nI_1]
  · rw [zsi_ne (by omega), zsi_ne (by omega)]; exact a1
  · rw [zsi_ne (by omega), zsi_y ⟨rfl, rfl⟩]
  · obtain ⟨g1, g2, g3⟩ := g
    rw [zsi_ne (by omega), zsi_ne (by omega)]; exact a3 a b' ⟨g1, g2, g3⟩
  · by_cases g : k = o
    · rw [g, zsi_y ⟨hc.1, hc.2⟩]
    · obtain ⟨d1, d2⟩ := hd k (by omega)
      rw [zsi_ne d1, zsi_ne d2]
      exact a4 k (by omega)
theorem zx_restores {M0 q : zM} (h : q.1 0 50 = 0) (hM : ∀ a b, zfz a b → q.1 a b = M0.1 a b) : ∃ r, xX12_passesAll q = some r ∧ zrs M0 128 r := by
  have h0 : zrs M0 0 (zsi q 0 51 (0 : Int32)) := ⟨by rw [zsi_ne (by decide)]; exact h, zsi_y ⟨rfl, rfl⟩, fun a b g => by rw [zsi_ne (fun z => g.2.2 ⟨z.1, Or.inr (Or.inr (Or.inr z.2))⟩)]; exact hM a b g, fun k hk => absurd hk (Nat.not_lt_zero k)⟩
  unfold xX12_passesAll
  simp only [zlet]
  rw [zpa2, zpa3, zpa4, zpa5, zpa6, zpa7, zpa8, zpa9, zpa10, zpa11, zpa28]
  obtain ⟨r1, e1, k1⟩ := zx_rest1 (L := 24) (lit := 24) (j := 2) h0 rfl (by decide) (by decide) (by decide) (by decide) (by decide)
  obtain ⟨r2, e2, k2⟩ := zx_rest1 (L := 24) (lit := 24) (j := 3) k1 rfl (by decide) (by decide) (by decide) (by decide) (by decide)
  obtain ⟨r3, e3, k3⟩ := zx_rest1 (L := 24) (lit := 24) (j := 4) k2 rfl (by decide) (by decide) (by decide) (by decide) (by decide)
  obtain ⟨r4, e4, k4⟩ := zx_rest1 (L := 24) (lit := 24) (j := 5) k3 rfl (by decide) (by decide) (by decide) (by decide) (by decide)
  obtain ⟨r5, e5, k5⟩ := zx_rest1 (L := 4) (lit := 4) (j := 6) k4 rfl (by decide) (by decide) (by decide) (by decide) (by decide)
  obtain ⟨r6, e6, k6⟩ := zx_rest1 (L := 4) (lit := 4) (j := 7) k5 rfl (by decide) (by decide) (by decide) (by decide) (by decide)
  obtain ⟨r7, e7, k7⟩ := zx_rest1 (L := 4) (lit := 4) (j := 8) k6 rfl (by decide) (by decide) (by decide) (by decide) (by decide)
  obtain ⟨r8, e8, k8⟩ := zx_rest1 (L := 4) (lit := 4) (j := 9) k7 rfl (by decide) (by decide) (by decide) (by decide) (by decide)
  obtain ⟨r9, e9, k9⟩ := zx_rest1 (L := 4) (lit := 4) (j := 10) k8 rfl (by decide) (by decide) (by decide) (by decide) (by decide)
  obtain ⟨r10, e10, k10⟩ := zx_rest1 (L := 4) (lit := 4) (j := 11) k9 rfl (by decide) (by decide) (by decide) (by decide) (by decide)
  obtain ⟨r11, e11, k11⟩ := zx_rest1 (L := 5) (lit := 5) (j := 28) k10 rfl (by decide) (by decide) (by decide) (by decide) (by decide)
  obtain ⟨r12, e12, k12⟩ := zx_rest2 k11 (by decide) (b := 12) (by decide) (by decide) (by decide) (v := r11.1 0 12)
  obtain ⟨r13, e13, k13⟩ := zx_rest2 k12 (by decide) (b := 13) (by decide) (by decide) (by decide) (v := (zsi r12.2 0 12 r12.1).1 0 13)
  obtain ⟨r14, e14, k14⟩ := zx_rest2 k13 (by decide) (b := 44) (by decide) (by decide) (by decide) (v := (zsi r13.2 0 13 r13.1).1 0 44)
  refine ⟨zsi r14.2 0 44 r14.1, ?_, k14⟩
  rw [e1, Option.bind_some, e2, Option.bind_some, e3, Option.bind_some, e4, Option.bind_some, e5, Option.bind_some, e6, Option.bind_some, e7, Option.bind_some, e8, Option.bind_some, e9, Option.bind_some, e10, Option.bind_some, e11, Option.bind_some, e12, Option.bind_some, e13, Option.bind_some, e14, Option.bind_some]
theorem zx_cutT {T : zM} {n n1 : Nat} (h : T.1 0 13 = nI n) (h1 : 1 ≤ n1) (h2 : n1 ≤ n) (h3 : n ≤ 24) : ∃ T', xX10_cutBack T (nI n1) = some T' ∧ T'.1 0 13 = nI n1 ∧ (∀ a b, ¬ (a = 0 ∧ b = 13) → T'.1 a b = T.1 a b) ∧ T'.2 = T.2 := by
  unfold xX10_cutBack
  simp only [zlet]
  rw [show (1 : Int32) = nI 1 from rfl, if_neg (by rw [nI_ltI (by omega) (by decide)]; omega), h]
  by_cases g : n = n1
  · rw [if_pos (nI_le (by omega) (by omega))]
    exact ⟨T, rfl, by rw [h, g], fun _ _ _ => rfl, rfl⟩
  · rw [if_neg (by rw [nI_leI (by omega) (by omega)]; omega)]
    exact ⟨_, rfl, zsi_y ⟨rfl, rfl⟩, fun a b g => zsi_ne g, rfl⟩
theorem zx_cutR {R : zM} {n n1 : Nat} (h : R.1 62 2 = nI n) (h2 : n1 ≤ n) (h3 : n ≤ 4) : ∃ R', xX6_cutBack R (nI n1) = some R' ∧ R'.1 62 2 = nI n1 ∧ (∀ a b, ¬ (a = 62 ∧ b = 2) → R'.1 a b = R.1 a b) := by
  unfold xX6_cutBack
  simp only [zlet]
  rw [if_neg (nI_pos (by omega)), h]
  by_cases g : n = n1
  · rw [if_pos (nI_le (by omega) (by omega))]
    exact ⟨R, rfl, by rw [h, g], fun _ _ _ => rfl⟩
  · rw [if_neg (by rw [nI_leI (by omega) (by omega)]; omega)]
    exact ⟨_, rfl, zsi_y ⟨rfl, rfl⟩, fun a b g => zsi_ne g⟩
theorem zx_cutF {F : zM} {n n1 : Nat} (h : F.1 72 1 = nI n) (h2 : n1 ≤ n) (h3 : n < 6) : ∃ F', xX3_cutBack F (nI n1) = some F' ∧ F'.1 72 1 = nI n1 ∧ (∀ a b, ¬ (a = 72 ∧ b = 1) → F'.1 a b = F.1 a b) := by
  unfold xX3_cutBack
  simp only [zlet]
  rw [if_neg (nI_pos (by omega)), h]
  by_cases g : n = n1
  · rw [if_pos (nI_le (by omega) (by omega))]
    exact ⟨F, rfl, by rw [h, g], fun _ _ _ => rfl⟩
  · rw [if_neg (by rw [nI_leI (by omega) (by omega)]; omega)]
    exact ⟨_, rfl, zsi_y ⟨rfl, rfl⟩, fun a b g => zsi_ne g⟩
end
section
variable {T T' R R' X X' F F' B B' : zM} {P P' : zP} {M M' : zM} {n np nf nt nr : Nat} {par wt ans ad kd kn hd su td pt fc tp rw : Nat → Nat}
theorem zx_onP {T0 F0 : zM} {P0 : zP} {R : zM} (hB : ∀ k, k < 4 → B.1 79 k = nI (pt k)) : zok (x_it (fun a9 => xX11_on_L56 T0 F0 B P0 a9.1 a9.2) zFU (R, (0 : Int32))) (fun r => (∀ k, k < 4 → r.1 64 k = nI (pt k)) ∧ (∀ a b, a ≠ 64 → r.1 a b = R.1 a b)) := by
  refine zok_for (fun c z => z.2 = nI c ∧ (∀ k, k < c → z.1.1 64 k = nI (pt k)) ∧ (∀ a b, a ≠ 64 → z.1.1 a b = R.1 a b)) 0 4 (by decide) (by decide) ⟨rfl, fun k hk => absurd hk (Nat.not_lt_zero k), fun _ _ _ => rfl⟩ ?_ ?_
  · rintro c ⟨A, y⟩ - hc ⟨hy, a1, a2⟩
    try dsimp only at hy a1 a2
    subst hy
    have run : xX11_on_L56 T0 F0 B P0 A (nI c) = some (.inl (zsi A 64 c (nI (pt c)), nI (c + 1))) := by
      unfold xX11_on_L56 xX6_setPoint
      simp only [zlet]
      rw [zl4, if_neg (by rw [nI_leI (by omega) (by omega)]; omega), if_neg (nI_in hc (by decide)), nI_clamp (by omega), if_neg (nI_pos (by omega)), if_neg (by rw [nI_leI (by omega) (by omega)]; omega), if_neg (zin_w hc (by decide)), Option.bind_some, hB c hc, nI_1]
    refine ⟨_, run, _, rfl, rfl, fun k hk => ?_, fun a b g => ?_⟩
    · by_cases g : k = c
      · rw [zsi_y ⟨rfl, g⟩, g]
      · rw [zsi_ne (fun z => g z.2)]
        exact a1 k (by omega)
    · rw [zsi_ne (fun z => g z.1)]
      exact a2 a b g
  · rintro ⟨A, y⟩ ⟨hy, a1, a2⟩
    try dsimp only at hy a1 a2
    subst hy
    refine ⟨.inr A, ?_, _, rfl, a1, a2⟩
    try dsimp only
    unfold xX11_on_L56
    rw [if_pos (show (4 : Int32) ≤ nI 4 by decide)]
theorem zpf_same {a f : Nat} {v : Int32} (h : P.2.2.1 a f = v) : zpf P a f v = P := by
  obtain ⟨p1, p2, p3, p4⟩ := P
  have h : p3 a f = v := h
  show (p1, p2, (fun b => if b = a then upd (p3 b) f v else p3 b), p4) = (p1, p2, p3, p4)
  have e : (fun b => if b = a then upd (p3 b) f v else p3 b) = p3 := by
    funext b
    by_cases g : b = a
    · rw [if_pos g, g]
      funext x
      unfold upd
      by_cases g2 : x = f
      · rw [if_pos g2, g2, h]
      · rw [if_neg g2]
    · rw [if_neg g]
  rw [e]
theorem zx_onT {T0 F0 : zM} {td1 : Nat → Nat} (hP : zIP R P M np ad kd kn hd su td) (ht : ∀ p, p < np → td1 p < 2 ^ 24 ∧ (kd p ≠ 4 → td1 p = 0)) (hB : ∀ k, k < np → B.1 80 k = nI (td1 k)) : zok (x_it (fun a9 => xX11_on_L87 T0 R F0 B a9.1 a9.2) zFU (P, (0 : Int32))) (fun r => zCP r ad np kd kn hd su td1) := by
  have hnp := hP.1.1
  refine zok_for (fun c z => z.2 = nI c ∧ ∃ (Mc : zM) (tdc : Nat → Nat), zIP R z.1 Mc np ad kd kn hd su tdc ∧ ∀ p, p < c → p < np → tdc p = td1 p) 0 4 (by decide) (by decide) ⟨rfl, M, td, hP, fun k hk => absurd hk (Nat.not_lt_zero k)⟩ ?_ ?_
  · rintro c ⟨A, y⟩ - hc ⟨hy, Mc, tdc, hA, hA2⟩
    try dsimp only at hy hA hA2
    subst hy
    by_cases g : c < np
    · obtain ⟨c1, c2, c3, c4, c5, c6, c7, c8⟩ := hA.2.2.1 c g
      obtain ⟨v1, v2, v3, v4, v5, v6⟩ := hA.1.2 c g
      obtain ⟨t1, t2⟩ := ht c g
      have run : ∀ q, xv_tell A (ad c) (nI (td1 c)) = some q → xX11_on_L87 T0 R F0 B A (nI c) = some (.inl (q, nI (c + 1))) := by
        intro q hq
        unfold xX11_on_L87
        rw [zl4, if_neg (by rw [nI_leI (by omega) (by omega)]; omega), zplay_c hA hc, Option.bind_some, if_pos g]
        simp only [zon]
        rw [if_neg (show ¬ A.2.2.2 ≤ ad c by omega), if_neg (nI_in hc (by decide)), nI_clamp (by omega), hB c g, hq, Option.bind_some, nI_1]
      by_cases k4 : kd c = 4
      · refine ⟨_, run _ (zx_tell4 (by rw [c3, k4])), _, rfl, rfl, zsi Mc 10 c (nI (td1 c)), zup tdc c (td1 c), zIP_told hA g k4 t1 (fun a b z => zsi_ne (by omega)) (fun q => ?_) rfl, fun p h1 h2 => ?_⟩
        · by_cases z : q = c
          · rw [if_pos z, zsi_y ⟨rfl, z⟩]
          · rw [if_neg z, zsi_ne (fun y => z y.2)]
        · by_cases z : p = c
          · rw [z, zup_s]
          · rw [zup_n z]
            exact hA2 p (by omega) h2
      · have e0 : td1 c = 0 := t2 k4
        have e1 : tdc c = 0 := v6 k4
        have hq : xv_tell A (ad c) (nI (td1 c)) = some A := by
          unfold xv_tell
          rw [c3]
          have hcs : kd c = 0 ∨ kd c = 1 ∨ kd c = 2 ∨ kd c = 3 ∨ kd c = 5 := by omega
          rcases hcs with q | q | q | q | q
          · rw [if_pos q]; rfl
          · rw [if_neg (by omega), if_pos q]; rfl
          · rw [if_neg (by omega), if_neg (by omega), if_pos q]; rfl
          · rw [if_neg (by omega), if_neg (by omega), if_neg (by omega), if_pos q]; rfl
          · rw [if_neg (by omega), if_neg (by omega), if_neg (by omega), if_neg (by omega), if_neg (by omega)]
            unfold xX9_tell_k5
            simp only [zlet, Option.bind_some]
            rw [zpf_same (by rw [c7 (by omega), e1, e0])]
        refine ⟨_, run _ hq, _, rfl, rfl, Mc, tdc, hA, fun p h1 h2 => ?_⟩
        by_cases z : p = c
        · rw [z, e0, e1]
        · exact hA2 p (by omega) h2
    · refine ⟨.inl (A, nI (c + 1)), ?_, _, rfl, rfl, Mc, tdc, hA, fun p h1 h2 => hA2 p (by omega) h2⟩
      try dsimp only
      unfold xX11_on_L87
      rw [zl4, if_neg (by rw [nI_leI (by omega) (by omega)]; omega), zplay_c hA hc, Option.bind_some, if_neg g]
      simp only [zon]
      rw [nI_1]
  · rintro ⟨A, y⟩ ⟨hy, Mc, tdc, hA, hA2⟩
    try dsimp only at hy hA hA2
    subst hy
    refine ⟨.inr A, ?_, _, rfl, fun p hp => ?_⟩
    · try dsimp only
      unfold xX11_on_L87
      rw [if_pos (show (4 : Int32) ≤ nI 4 by decide)]
    · have := hA.2.2.1 p hp
      rw [hA2 p (by omega) hp] at this
      exact this
end
