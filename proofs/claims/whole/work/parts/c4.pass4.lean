/-! a quiz: the second pass, in step -/
section
variable {T0 R0 M0 T R X M X0 : zM} {P0 P : zP} {o0 n0 np0 cnt nt : Nat} {par0 wt0 ans0 ad0 kd0 kn0 hd0 su0 td0 tp : Nat → Nat}
theorem zS2_M (h : zS2 T0 R0 M0 o0 n0 np0 par0 wt0 ans0 ad0 kd0 kn0 hd0 su0 td0 T R P M) : (∀ a b, ¬ (a = 0 ∧ (b = 12 ∨ b = 13)) → ¬ (2 ≤ a ∧ a ≤ 10) → M.1 a b = M0.1 a b) ∧ o0 ≤ P.2.2.2 := by
  obtain ⟨n, np, par, wt, ans, ad, kd, kn, hd, su, td, -, -, ⟨l1, l2, l3⟩, -, -, -, -, -, fM⟩ := h
  exact ⟨fM, l3⟩
theorem zpass2 (h0 : zS2 T0 R0 M0 o0 n0 np0 par0 wt0 ans0 ad0 kd0 kn0 hd0 su0 td0 T0 R0 P0 M0) (hX : zaX nt tp 0 X0) (hg : zgds nt tp cnt) (hend : nt ≤ zpos nt tp cnt) (h23 : M0.1 0 23 = nI cnt) (hrow : ∀ j, j < cnt → zrow nt tp (zpos nt tp j) j M0) (z9 z11 v4 v5 : Int32) : ∃ r s, x_it (fun a9 => xX12_quiz_L91 z9 z11 a9.1 a9.2) zFU (M0, (0 : Int32)) = some r ∧ x_it (fun a9 => xX8_takeQuiz_L35 o0 v4 v5 a9.1 a9.2.1 a9.2.2.1 a9.2.2.2.1 a9.2.2.2.2.1 a9.2.2.2.2.2) zFU ((0 : Nat), T0, R0, X0, P0, (0 : Int32)) = some s ∧ ∃ (T R : zM) (P : zP) (M X : zM), zS2 T0 R0 M0 o0 n0 np0 par0 wt0 ans0 ad0 kd0 kn0 hd0 su0 td0 T R P M ∧ zfY X0 X ∧ ((r = .inr M ∧ s = .inr (cnt, T, R, X, P, nI cnt)) ∨ ∃ i, i < cnt ∧ r = .inl (M, nI i) ∧ s = .inl (i + 1, T, R, X, P, nI (zpos nt tp i))) := by
  have hcnt := zpos_adv cnt hg
  have h64 := hX.1.1
  have n10 : ¬ (1 : Int32) = 0 := by decide
  refine zlock (α := zM × Int32) (γ := Nat × zM × zM × zM × zP × Int32) (fun k c d => ∃ (i : Nat) (T R X : zM) (P : zP) (M : zM), i ≤ cnt ∧ k = 64 - i ∧ c = (M, nI i) ∧ d = (i, T, R, X, P, nI i) ∧ zS2 T0 R0 M0 o0 n0 np0 par0 wt0 ans0 ad0 kd0 kn0 hd0 su0 td0 T R P M ∧ zaX nt tp (zpos nt tp i) X ∧ zfY X0 X) ?_ zFU 64 (M0, (0 : Int32)) ((0 : Nat), T0, R0, X0, P0, (0 : Int32)) ⟨0, T0, R0, X0, P0, M0, Nat.zero_le _, rfl, rfl, rfl, h0, hX, ⟨fun _ _ _ => rfl, rfl⟩⟩ (by decide)
  rintro k c d ⟨i, T, R, X, P, M, hi, rfl, rfl, rfl, s1, s2, s3⟩
  have hadv := zpos_adv i (fun j hj => hg j (by omega))
  have hz0 : i = 0 → zpos nt tp i = 0 := fun z => by rw [z]; rfl
  obtain ⟨fM, ho⟩ := zS2_M s1
  have h23' : M.1 0 23 = nI cnt := (fM 0 23 (by omega) (by omega)).trans h23
  try dsimp only
  by_cases g : i = cnt
  · refine Or.inr ⟨.inr M, .inr (i, T, R, X, P, nI i), ?_, ?_, T, R, P, M, X, s1, s3, Or.inl ⟨rfl, by rw [g]⟩⟩
    · unfold xX12_quiz_L91
      rw [h23', g, if_pos (nI_le (Nat.le_refl cnt) (by omega))]
    · unfold xX8_takeQuiz_L35
      rw [if_neg (show ¬ 64 < i by omega), if_neg (show ¬ P.2.2.2 < o0 by omega), s2.2.1, s2.2.2.1, if_pos (nI_le (by rw [g]; exact hend) (by omega))]
  · have hok := hg i (by omega)
    have adv := zst9_adv hok
    obtain ⟨q, hq, q1, q2, q3, q4⟩ := zx_readStatement s2 (by omega)
    have en : (zst9 nt tp (zpos nt tp i)).2 = zpos nt tp (i + 1) := rfl
    have hr : zrow nt tp (zpos nt tp i) i M := by
      unfold zrow
      rw [fM 18 i (by omega) (by omega), fM 19 i (by omega) (by omega), fM 14 i (by omega) (by omega), fM 15 i (by omega) (by omega), fM 16 i (by omega) (by omega), fM 17 i (by omega) (by omega)]
      exact hrow i (by omega)
    have fY : zfY X0 q.2 := ⟨fun j k g1 => (q4.1 j k g1).trans (s3.1 j k g1), q4.2.trans s3.2⟩
    have runM : ∀ y, xX12_comes M (nI i) = some y → xX12_quiz_L91 z9 z11 M (nI i) = (if y.1 = 0 then some (.inr (.inl (y.2, nI i))) else some (.inl (y.2, nI (i + 1)))) := fun y hy => by
      unfold xX12_quiz_L91
      rw [h23', if_neg (by rw [nI_leI (by omega) (by omega)]; omega), hy, Option.bind_some, nI_1]
    have runC : ∀ y, xX8_takeStatement T R q.2 P = some y → xX8_takeQuiz_L35 o0 v4 v5 i T R X P (nI i) = (if y.1 = 0 then some (.inr (.inl (i + 1, y.2.1, y.2.2.1, q.2, y.2.2.2, nI (zpos nt tp i)))) else some (.inl (i + 1, y.2.1, y.2.2.1, q.2, y.2.2.2, nI (i + 1)))) := fun y hy => by
      unfold xX8_takeQuiz_L35
      simp only [zlet]
      rw [if_neg (show ¬ 64 < i by omega), if_neg (show ¬ P.2.2.2 < o0 by omega), s2.2.1, s2.2.2.1, if_neg (by rw [nI_leI (by omega) (by omega)]; omega), if_neg (by rw [show (64 : Int32) = nI 64 from rfl, nI_leI (by omega) (by omega)]; omega), hq, Option.bind_some, if_neg (show ¬ 64 ≤ i by omega), hy, Option.bind_some, nI_1]
    rcases zstep2 s1 (fun i hi => (hX.1.2 i hi).2) hok (show i < 32 by omega) hr (q3 hok) with ⟨T1, R1, P1, M1, e1, e2, e3⟩ | ⟨e1, e2⟩
    · refine Or.inl ⟨(M1, nI (i + 1)), (i + 1, T1, R1, q.2, P1, nI (i + 1)), 64 - (i + 1), ?_, ?_, by omega, i + 1, T1, R1, q.2, P1, M1, by omega, rfl, rfl, rfl, e3, ⟨⟨h64, fun j hj => ?_⟩, ?_, q2, by omega⟩, fY⟩
      · rw [runM _ e1, if_neg (by exact n10)]
      · rw [runC _ e2, if_neg (by exact n10)]
      · rw [q4.1 _ _ (by omega)]; exact s2.1.2 j hj
      · rw [q4.1 _ _ (by omega)]; exact s2.2.1
    · refine Or.inr ⟨.inl (M, nI i), .inl (i + 1, T, R, q.2, P, nI (zpos nt tp i)), ?_, ?_, T, R, P, M, q.2, s1, fY, Or.inr ⟨i, by omega, rfl, rfl⟩⟩
      · rw [runM _ e1, if_pos (by rfl)]
      · rw [runC _ e2, if_pos (by rfl)]
end
