/-! the call quiz -/
section
variable {T T' R R' X X' F F' B B' : zM} {P P' : zP} {M M' R1 R2 M1 M2 : zM} {P1 : zP} {n np nf nt nr n' np' np1 : Nat} {par wt ans ad kd kn hd su td pt fc tp rw par' wt' ans' ad1 kd1 kn1 hd1 su1 td1 kd' kn' hd' su' : Nat → Nat}
theorem zx_fb {s : zM ⊕ zM} (es : x_it (fun a9 => xX8_firstBadByte_L7 a9.1 a9.2) zFU (zsi X 70 2 (0 : Int32), (0 : Int32)) = some s) : xX8_firstBadByte X = Sum.elim (fun b4 => some ((b4.1 70 2), b4)) (fun c5 => some ((-1 : Int32), c5)) s := by
  unfold xX8_firstBadByte
  simp only [zlet]
  rw [es, Option.bind_some]
theorem zIP_cut (h : zIP R1 P1 M1 np1 ad1 kd1 kn1 hd1 su1 td1) (hn : np ≤ np1) (b1 : zag np ad ad1) (b2 : zag np kd kd1) (b3 : zag np kn kn1) (b4 : zag np hd hd1) (b5 : zag np su su1) (b6 : zag np td td1) (hR : R2.1 62 2 = nI np) (h13 : M2.1 0 13 = nI np) (hM : ∀ j k, 6 ≤ j → j ≤ 10 → M2.1 j k = M1.1 j k) : zIP R2 P1 M2 np ad kd kn hd su td := by
  obtain ⟨h1, h2, h3, h4⟩ := h
  refine ⟨⟨by have := h1.1; omega, fun p hp => ?_⟩, hR, fun p hp => ?_, h13, fun p hp => ?_⟩
  · have h := h1.2 p (by omega)
    rw [b2 p hp, b3 p hp, b4 p hp, b5 p hp, b6 p hp] at h
    exact h
  · have h := h3 p (by omega)
    rw [b1 p hp, b2 p hp, b3 p hp, b4 p hp, b5 p hp, b6 p hp] at h
    obtain ⟨c1, c2, c3, c4, c5, c6, c7, c8⟩ := h
    exact ⟨c1, c2, c3, c4, c5, c6, c7, fun q hq he => c8 q (by omega) (he.trans (b1 q hq).symm)⟩
  · have h := h4.2 p (by omega)
    rw [b2 p hp, b3 p hp, b4 p hp, b5 p hp, b6 p hp] at h
    rw [hM 6 p (by decide) (by decide), hM 7 p (by decide) (by decide), hM 8 p (by decide) (by decide), hM 9 p (by decide) (by decide), hM 10 p (by decide) (by decide)]
    exact h
theorem zImg_g (hI : zImg n np nf par wt ans kd kn hd su fc B M) (hV : zVT n par wt ans) (hV' : zVT n' par' wt' ans') (hn : n ≤ n') (hnp : np ≤ np') (a1 : zag n par par') (a2 : zag n wt wt') (a3 : zag n ans ans') (b2 : zag np kd kd') (b3 : zag np kn kn') (b4 : zag np hd hd') (b5 : zag np su su') (hM : ∀ j k, (j = 0 ∧ k = 49) ∨ j = 32 → M'.1 j k = M.1 j k) : zImg n' np' nf par' wt' ans' kd' kn' hd' su' fc B M' := by
  have h49 := hM 0 49 (Or.inl ⟨rfl, rfl⟩)
  have h32 : ∀ k, M'.1 32 k = M.1 32 k := fun k => hM 32 k (Or.inr rfl)
  rcases hI with ⟨g1, g2⟩ | ⟨g1, g2, n1, np1, nf1, pt1, td1, k1, k2, k3, k4, k5, k6, k7, k8, k9, k10, k11, k12, k13, k14, k15, k16, k17, k18⟩
  · exact Or.inl ⟨g1, h49.trans g2⟩
  · refine Or.inr ⟨g1, h49.trans g2, n1, np1, nf1, pt1, td1, k1, by omega, by omega, k4, k5, fun p hp => ?_, k7, k8, k9, k10, k11, fun i hi => ?_, fun p hp => ?_, fun k hk => (h32 _).trans (k14 k hk), fun i hi => (h32 _).trans (k15 i hi), (h32 _).trans k16, (h32 _).trans k17, (h32 _).trans k18⟩
    · rw [b2 p (by omega)]; exact k6 p hp
    · rw [h32, h32, h32, h32, a1 i (by omega), a2 i (by omega), a3 i (by omega), zwl_ext hV hV' hn a1 i i (Nat.le_refl i) (by omega)]
      exact k12 i hi
    · rw [h32, h32, h32, h32, h32, b2 p (by omega), b3 p (by omega), b4 p (by omega), b5 p (by omega)]
      exact k13 p hp
theorem zq_mF {p : Nat} (er : x_it (fun a9 => xX12_quiz_L12 a9.1 a9.2) zFU (zsi (zsi M 0 22 (0 : Int32)) 0 23 (0 : Int32), (1 : Int32)) = some (M1, 0)) (m22 : M1.1 0 22 = nI p) : xX12_quiz M = some ((-1000 : Int32) - nI p, zsi M1 0 21 (0 : Int32)) := by
  unfold xX12_quiz
  refine zok.eq (zok_let (zok_let (zok_eb er (zok_let (zok_y rfl (zok_some ?_))))))
  rw [zsi_ne (by decide), m22]
theorem zq_mR {k : Nat} (er : x_it (fun a9 => xX12_quiz_L12 a9.1 a9.2) zFU (zsi (zsi M 0 22 (0 : Int32)) 0 23 (0 : Int32), (1 : Int32)) = some (M1, 1)) (e2 : x_it (fun a9 => xX12_quiz_L91 ((zsi M1 0 21 (0 : Int32)).1 0 12) ((zsi M1 0 21 (0 : Int32)).1 0 13) a9.1 a9.2) zFU (zsi M1 0 21 (0 : Int32), (0 : Int32)) = some (.inr M2)) (m23 : M2.1 0 23 = nI k) : xX12_quiz M = some (nI k, M2) := by
  unfold xX12_quiz
  refine zok.eq (zok_let (zok_let (zok_eb er (zok_let (zok_n (show ¬ (1 : Int32) = 0 by decide) (zok_let (zok_let (zok_eb e2 (zok_some ?_))))))))) 
  rw [m23]
theorem zq_mB {j v : Nat} (er : x_it (fun a9 => xX12_quiz_L12 a9.1 a9.2) zFU (zsi (zsi M 0 22 (0 : Int32)) 0 23 (0 : Int32), (1 : Int32)) = some (M1, 1)) (e2 : x_it (fun a9 => xX12_quiz_L91 ((zsi M1 0 21 (0 : Int32)).1 0 12) ((zsi M1 0 21 (0 : Int32)).1 0 13) a9.1 a9.2) zFU (zsi M1 0 21 (0 : Int32), (0 : Int32)) = some (.inl (M2, nI j))) (hj : j < 32) (m19 : M2.1 19 j = nI v) : xX12_quiz M = some ((-2000 : Int32) - nI v, zsi (zsi M2 0 12 ((zsi M1 0 21 (0 : Int32)).1 0 12)) 0 13 ((zsi M1 0 21 (0 : Int32)).1 0 13)) := by
  unfold xX12_quiz
  refine zok.eq (zok_let (zok_let (zok_eb er (zok_let (zok_n (show ¬ (1 : Int32) = 0 by decide) (zok_let (zok_let (zok_eb e2 (zok_let (zok_let (zok_g (nI_in hj (by decide)) (zok_some ?_))))))))))))
  rw [nI_clamp (by omega), zsi_nj (show (19 : Nat) ≠ 0 by decide), zsi_nj (show (19 : Nat) ≠ 0 by decide), m19]
theorem zq_cF {p : Nat} (efb : xX8_firstBadByte X = some (nI p, X')) (hp : p < 2 ^ 31) : xX8_takeQuiz T R X P = some ((-1000 : Int32) - nI p, T, R, X', P) := by
  unfold xX8_takeQuiz
  exact zok.eq (zok_eb efb (zok_n (nI_pos hp) (zok_some rfl)))
theorem zq_cR {T1 R1 X1 X2 : zM} {P1 : zP} {i : Nat} (efb : xX8_firstBadByte X = some (-1, X1)) (e13 : T.1 0 13 = nI n) (e62 : R.1 62 2 = nI np) (e3 : x_it (fun a9 => xX8_takeQuiz_L35 P.2.2.2 (nI n) (nI np) a9.1 a9.2.1 a9.2.2.1 a9.2.2.2.1 a9.2.2.2.2.1 a9.2.2.2.2.2) zFU ((0 : Nat), T, R, zsi X1 70 2 (0 : Int32), P, (0 : Int32)) = some (.inr (i, T1, R1, X2, P1, nI i))) (hi : i ≤ 64) : xX8_takeQuiz T R X P = some (nI i, T1, R1, X2, P1) := by
  have s1 : xX10_size T = some (nI n) := by unfold xX10_size; rw [e13]
  have s2 : xX6_size R = some (nI np) := by unfold xX6_size; rw [e62]
  unfold xX8_takeQuiz
  exact zok.eq (zok_eb efb (zok_y (show (-1 : Int32) < 0 by decide) (zok_eb s1 (zok_eb s2 (zok_let (zok_eb e3 (zok_g (show ¬ 64 < i by omega) (zok_some rfl))))))))
theorem zq_cB {T1 T2 R1 R2 X1 X2 : zM} {P1 : zP} {j v : Nat} (efb : xX8_firstBadByte X = some (-1, X1)) (e13 : T.1 0 13 = nI n) (e62 : R.1 62 2 = nI np) (e3 : x_it (fun a9 => xX8_takeQuiz_L35 P.2.2.2 (nI n) (nI np) a9.1 a9.2.1 a9.2.2.1 a9.2.2.2.1 a9.2.2.2.2.1 a9.2.2.2.2.2) zFU ((0 : Nat), T, R, zsi X1 70 2 (0 : Int32), P, (0 : Int32)) = some (.inl (j + 1, T1, R1, X2, P1, nI v))) (hj : j < 64) (ec1 : xX10_cutBack T1 (nI n) = some T2) (ec2 : xX6_cutBack R1 (nI np) = some R2) : xX8_takeQuiz T R X P = some ((-2000 : Int32) - nI v, T2, R2, X2, P1) := by
  have s1 : xX10_size T = some (nI n) := by unfold xX10_size; rw [e13]
  have s2 : xX6_size R = some (nI np) := by unfold xX6_size; rw [e62]
  unfold xX8_takeQuiz
  exact zok.eq (zok_eb efb (zok_y (show (-1 : Int32) < 0 by decide) (zok_eb s1 (zok_eb s2 (zok_let (zok_eb e3 (zok_g (show ¬ 64 < j + 1 by omega) (zok_eb ec1 (zok_eb ec2 (zok_some rfl))))))))))
theorem zq_L {a1 a2 a3 v : Int32} {T1 T2 R1 X1 : zM} {P1 : zP} (eC : xX8_takeQuiz T R X P = some (v, T1, R1, X1, P1)) (eT : xX10_settle T1 = some T2) (eM : xX12_quiz M = some (v, M1)) : xL_1 T R X F B P M a1 a2 a3 = some (T2, R1, zsi X1 70 1 (0 : Int32), F, B, P1, M1) := by
  have e2 : xX8_clear X1 = some (zsi X1 70 1 (0 : Int32)) := rfl
  have e1 : xX11_quiz T R X P = some (v, T2, R1, zsi X1 70 1 (0 : Int32), P1) := by
    unfold xX11_quiz
    exact zok.eq (zok_eb eC (zok_eb e2 (zok_eb eT (zok_some rfl))))
  unfold xL_1
  exact zok.eq (zok_eb e1 (zok_eb eM (zok_y rfl (zok_some rfl))))
theorem zc_quiz (h : zJA T R X F B P M n np nf nt nr par wt ans ad kd kn hd su td pt fc tp rw) (hwf : zPwf P) (a1 a2 a3 : Int32) : ∃ S9, xL_1 T R X F B P M a1 a2 a3 = some S9 ∧ zInvS S9 ∧ zPwf S9.2.2.2.2.2.1 := by
  obtain ⟨hT, hP, hQ, hF, hX, hB, hI⟩ := id h
  have hV := hT.1
  have hn := hV.2.1
  have hn1 := hV.1
  have hnp := hP.1.1
  have h64 := hX.2.1.1
  have hro := zCS_ro hV hT.2.1
  have n10 : ¬ (1 : Int32) = 0 := by decide
  have hM0 : zaM nt tp 0 (zsi (zsi M 0 22 (0 : Int32)) 0 23 (0 : Int32)) := ⟨⟨hX.2.2.2.1, fun i hi => by rw [zsi_ne (by omega), zsi_ne (by omega)]; exact hX.2.2.2.2 i hi⟩, by rw [zsi_ne (by decide), zsi_ne (by decide)]; exact hX.2.2.1, by rw [zsi_ne (by decide)]; exact zsi_y ⟨rfl, rfl⟩, by decide⟩
  have hX0 : zaX nt tp 0 (zsi X 70 2 (0 : Int32)) := ⟨⟨hX.2.1.1, fun i hi => by rw [zsi_ne (by omega)]; exact hX.2.1.2 i hi⟩, by rw [zsi_ne (by decide)]; exact hX.1, zsi_y ⟨rfl, rfl⟩, by decide⟩
  obtain ⟨r, s, er, es, i, M1, X1, hg, fQ, fY, hcase⟩ := zpass1 hM0 hX0 (zsi_y ⟨rfl, rfl⟩)
  have fr : ∀ a b, ¬ (a = 0 ∧ (b = 21 ∨ b = 22 ∨ b = 23)) → ¬ (14 ≤ a ∧ a ≤ 19) → (zsi M1 0 21 (0 : Int32)).1 a b = M.1 a b := fun a b g1 g2 => by
    rw [zsi_ne (by omega), fQ.1 a b (by omega) g2, zsi_ne (by omega), zsi_ne (by omega)]
  have hT6 := zIT_c hT (M' := zsi M1 0 21 (0 : Int32)) (fun j k g => fr j k (by omega) (by omega))
  have hP6 := zIP_c (R' := R) hP rfl (M' := zsi M1 0 21 (0 : Int32)) (fun j k g => fr j k (by omega) (by omega))
  have efb := zx_fb es
  have e13 := hT.2.1.1.1
  have e62 := hP.2.1
  rcases hcase with ⟨rfl, rfl, hi, hend, m23, m22, hrows⟩ | ⟨rfl, rfl, p, hp, m22, x2⟩
  · have hadv := zpos_adv i hg
    have h0 : zS2 T R (zsi M1 0 21 (0 : Int32)) P.2.2.2 n np par wt ans ad kd kn hd su td T R P (zsi M1 0 21 (0 : Int32)) := ⟨n, np, par, wt, ans, ad, kd, kn, hd, su, td, ⟨hV, hT.2.1.1, hT6.2.2.1, hT6.2.2.2⟩, ⟨hP6, hwf⟩, ⟨Nat.le_refl _, Nat.le_refl _, Nat.le_refl _⟩, ⟨zag_r, zag_r, zag_r⟩, ⟨zag_r, zag_r, zag_r, zag_r, zag_r, zag_r⟩, fun _ _ _ _ => rfl, rfl, fun _ _ _ => rfl, fun _ _ _ _ => rfl⟩
    have hX5 : zaX nt tp 0 (zsi X1 70 2 (0 : Int32)) := ⟨⟨hX.2.1.1, fun i hi => by rw [zsi_ne (by omega), fY.1 _ _ (by omega), zsi_ne (by omega)]; exact hX.2.1.2 i hi⟩, by rw [zsi_ne (by decide), fY.1 _ _ (by omega), zsi_ne (by decide)]; exact hX.1, zsi_y ⟨rfl, rfl⟩, by decide⟩
    have hrow6 : ∀ j, j < i → zrow nt tp (zpos nt tp j) j (zsi M1 0 21 (0 : Int32)) := fun j hj => by
      have h := hrows j hj
      unfold zrow at h ⊢
      rw [zsi_nj (show (18 : Nat) ≠ 0 by decide), zsi_nj (show (19 : Nat) ≠ 0 by decide), zsi_nj (show (14 : Nat) ≠ 0 by decide), zsi_nj (show (15 : Nat) ≠ 0 by decide), zsi_nj (show (16 : Nat) ≠ 0 by decide), zsi_nj (show (17 : Nat) ≠ 0 by decide)]
      exact h
    obtain ⟨r2, s2, e2, e3, T1, R1, P1, M2, X2, hS, fY2, hc2⟩ := zpass2 h0 hX5 hg hend ((zsi_ne (by decide)).trans m23) hrow6 ((zsi M1 0 21 (0 : Int32)).1 0 12) ((zsi M1 0 21 (0 : Int32)).1 0 13) (nI n) (nI np)
    obtain ⟨n1, np1, par1, wt1, ans1, ad1, kd1, kn1, hd1, su1, td1, ⟨hV1, hT1, hRT1, hRL1⟩, ⟨hP1, hwf1⟩, ⟨l1, l2, l3⟩, ⟨b1, b2, b3⟩, ⟨c1, c2, c3, c4, c5, c6⟩, fT, fT2, fR, fM⟩ := hS
    have fr2 : ∀ a b, ¬ (a = 0 ∧ (b = 12 ∨ b = 13 ∨ b = 21 ∨ b = 22 ∨ b = 23)) → ¬ (2 ≤ a ∧ a ≤ 10) → ¬ (14 ≤ a ∧ a ≤ 19) → M2.1 a b = M.1 a b := fun a b g1 g2 g3 => (fM a b (by omega) g2).trans (fr a b (by omega) g3)
    have m23' : M2.1 0 23 = nI i := (fM 0 23 (by omega) (by omega)).trans ((zsi_ne (by decide)).trans m23)
    have m21' : M2.1 0 21 = nI 0 := (fM 0 21 (by omega) (by omega)).trans (zsi_y ⟨rfl, rfl⟩)
    rcases hc2 with ⟨rfl, rfl⟩ | ⟨j, hj, rfl, rfl⟩
    · have eM := zq_mR er e2 m23'
      have eC := zq_cR efb e13 e62 e3 (by omega)
      obtain ⟨T2, eT, hCS⟩ := zx_settle (T := T1) hV1 hT1 ⟨(fT 4 0 (by decide) (by decide)).trans hro.1, (fT 8 0 (by decide) (by decide)).trans hro.2.1, by rw [fT2]; exact hro.2.2⟩
      refine ⟨(T2, R1, zsi X2 70 1 (0 : Int32), F, B, P1, M2), ?_, (show zInv T2 R1 (zsi X2 70 1 (0 : Int32)) F B P1 M2 from zInv_i (n := n1) (np := np1) (nf := nf) (nt := 0) (nr := nr) (par := par1) (wt := wt1) (ans := ans1) (ad := ad1) (kd := kd1) (kn := kn1) (hd := hd1) (su := su1) (td := td1) (pt := pt) (fc := fc) (tp := tp) (rw := rw) ⟨⟨hV1, hCS, hRT1, hRL1⟩, hP1, zIQ_c hQ (fun k => fR 64 k (by omega)) (fun j k g => fr2 j k (by omega) (by omega) (by omega)), zIF_c hF (fun j k g => fr2 j k (by omega) (by omega) (by omega)), ⟨zsi_y ⟨rfl, rfl⟩, ⟨by decide, fun i hi => absurd hi (Nat.not_lt_zero i)⟩, m21', ⟨by decide, fun i hi => absurd hi (Nat.not_lt_zero i)⟩⟩, zIB_c hB (fun j k g => fr2 j k (by omega) (by omega) (by omega)), zImg_g hI hV hV1 l1 l2 b1 b2 b3 c2 c3 c4 c5 (fun j k g => fr2 j k (by omega) (by omega) (by omega))⟩), hwf1⟩
      exact zq_L eC eT eM
    · have m19 : M2.1 19 j = nI (zpos nt tp j) := (fM 19 j (by omega) (by omega)).trans (hrow6 j hj).2.1
      have eM := zq_mB er e2 (show j < 32 by omega) m19
      obtain ⟨T2, ec1, ct1, ct2, ct3⟩ := zx_cutT hT1.1 hn1 l1 hV1.2.1
      obtain ⟨R2, ec2, cr1, cr2⟩ := zx_cutR hP1.2.1 l2 hP1.1.1
      have eC := zq_cB efb e13 e62 e3 (show j < 64 by omega) ec1 ec2
      obtain ⟨T3, eT, hCS⟩ := zx_settle (T := T2) hV ⟨ct1, fun k hk => by
        have h := hT1.2 k (by omega)
        rw [b1 k hk, b2 k hk, b3 k hk] at h
        rw [ct2 _ _ (by omega), ct2 _ _ (by omega), ct2 _ _ (by omega)]
        exact h⟩ ⟨(ct2 4 0 (by decide)).trans ((fT 4 0 (by decide) (by decide)).trans hro.1), (ct2 8 0 (by decide)).trans ((fT 8 0 (by decide) (by decide)).trans hro.2.1), by rw [ct3, fT2]; exact hro.2.2⟩
      have fr3 : ∀ a b, ¬ (a = 0 ∧ (b = 12 ∨ b = 13)) → (zsi (zsi M2 0 12 ((zsi M1 0 21 (0 : Int32)).1 0 12)) 0 13 ((zsi M1 0 21 (0 : Int32)).1 0 13)).1 a b = M2.1 a b := fun a b g => by
        rw [zsi_ne (by omega), zsi_ne (by omega)]
      have fr4 : ∀ a b, ¬ (a = 0 ∧ (b = 12 ∨ b = 13 ∨ b = 21 ∨ b = 22 ∨ b = 23)) → ¬ (2 ≤ a ∧ a ≤ 10) → ¬ (14 ≤ a ∧ a ≤ 19) → (zsi (zsi M2 0 12 ((zsi M1 0 21 (0 : Int32)).1 0 12)) 0 13 ((zsi M1 0 21 (0 : Int32)).1 0 13)).1 a b = M.1 a b := fun a b g1 g2 g3 => (fr3 a b (by omega)).trans (fr2 a b g1 g2 g3)
      refine ⟨(T3, R2, zsi X2 70 1 (0 : Int32), F, B, P1, zsi (zsi M2 0 12 ((zsi M1 0 21 (0 : Int32)).1 0 12)) 0 13 ((zsi M1 0 21 (0 : Int32)).1 0 13)), ?_, (show zInv T3 R2 (zsi X2 70 1 (0 : Int32)) F B P1 (zsi (zsi M2 0 12 ((zsi M1 0 21 (0 : Int32)).1 0 12)) 0 13 ((zsi M1 0 21 (0 : Int32)).1 0 13)) from zInv_i (n := n) (np := np) (nf := nf) (nt := 0) (nr := nr) (par := par) (wt := wt) (ans := ans) (ad := ad) (kd := kd) (kn := kn) (hd := hd) (su := su) (td := td) (pt := pt) (fc := fc) (tp := tp) (rw := rw) ⟨⟨hV, hCS, ⟨?_, fun k hk => ?_⟩, fun k hk => ?_⟩, zIP_cut hP1 l2 c1 c2 c3 c4 c5 c6 cr1 ((zsi_y ⟨rfl, rfl⟩).trans hP6.2.2.2.1) (fun a b g1 g2 => fr3 a b (by omega)), zIQ_c hQ (fun k => (cr2 64 k (by omega)).trans (fR 64 k (by omega))) (fun j k g => fr4 j k (by omega) (by omega) (by omega)), zIF_c hF (fun j k g => fr4 j k (by omega) (by omega) (by omega)), ⟨zsi_y ⟨rfl, rfl⟩, ⟨by decide, fun i hi => absurd hi (Nat.not_lt_zero i)⟩, (fr3 0 21 (by decide)).trans m21', ⟨by decide, fun i hi => absurd hi (Nat.not_lt_zero i)⟩⟩, zIB_c hB (fun j k g => fr4 j k (by omega) (by omega) (by omega)), zImg_c hI (fun j k g => fr4 j k (by omega) (by omega) (by omega))⟩), hwf1⟩
      · exact zq_L eC eT eM
      · rw [zsi_ne (by decide), zsi_y ⟨rfl, rfl⟩]
        exact hT6.2.2.1.1
      · have h := hRT1.2 k (by omega)
        rw [b1 k hk, b2 k hk, b3 k hk] at h
        rw [fr3 _ _ (by omega), fr3 _ _ (by omega), fr3 _ _ (by omega)]
        exact h
      · rw [fr3 _ _ (by omega), hRL1 k (by omega), zwl_ext hV hV1 l1 b1 k k (Nat.le_refl k) hk]
  · have eM := zq_mF er m22
    have efb2 : xX8_firstBadByte X = some (nI p, X1) := efb.trans (by rw [← x2]; rfl)
    have eC := zq_cF (T := T) (R := R) (P := P) efb2 (by omega)
    obtain ⟨T2, eT, hCS⟩ := zx_settle (T := T) hV hT.2.1.1 hro
    refine ⟨(T2, R, zsi X1 70 1 (0 : Int32), F, B, P, zsi M1 0 21 (0 : Int32)), ?_, (show zInv T2 R (zsi X1 70 1 (0 : Int32)) F B P (zsi M1 0 21 (0 : Int32)) from zInv_i (n := n) (np := np) (nf := nf) (nt := 0) (nr := nr) (par := par) (wt := wt) (ans := ans) (ad := ad) (kd := kd) (kn := kn) (hd := hd) (su := su) (td := td) (pt := pt) (fc := fc) (tp := tp) (rw := rw) ⟨⟨hV, hCS, hT6.2.2⟩, hP6, zIQ_c hQ (fun _ => rfl) (fun j k g => fr j k (by omega) (by omega)), zIF_c hF (fun j k g => fr j k (by omega) (by omega)), ⟨zsi_y ⟨rfl, rfl⟩, ⟨by decide, fun i hi => absurd hi (Nat.not_lt_zero i)⟩, zsi_y ⟨rfl, rfl⟩, ⟨by decide, fun i hi => absurd hi (Nat.not_lt_zero i)⟩⟩, zIB_c hB (fun j k g => fr j k (by omega) (by omega)), zImg_c hI (fun j k g => fr j k (by omega) (by omega))⟩), hwf⟩
    exact zq_L eC eT eM
end
