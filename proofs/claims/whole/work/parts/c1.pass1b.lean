/-! a quiz: the first pass in step -/
section
variable {nt a z : Nat} {tp : Nat → Nat} {M X : zM}
theorem zwd_le : (zwd nt tp a).2 ≤ a + 20 := by
  have w1 : zw1 nt tp a = a + zcn nt tp a 2 := rfl
  have w2 : zw2 nt tp a = zw1 nt tp a + 1 + zcn nt tp (zw1 nt tp a + 1) 1 := rfl
  have w3 : zw3 nt tp a = zw2 nt tp a + 1 + zcn nt tp (zw2 nt tp a + 1) 1 := rfl
  have c1 := zcn_le (nt := nt) (tp := tp) (a := a) 2
  have c2 := zcn_le (nt := nt) (tp := tp) (a := zw1 nt tp a + 1) 1
  have c3 := zcn_le (nt := nt) (tp := tp) (a := zw2 nt tp a + 1) 1
  unfold zwd
  repeat' split
  all_goals (try dsimp only)
  all_goals omega
theorem zpd_le : (zpd nt tp a).2 ≤ a + 20 := by
  have w1 : zq1 nt tp a = a + 1 + zcn nt tp (a + 1) 1 := rfl
  have w2 : zq2 nt tp a = zq1 nt tp a + zcn nt tp (zq1 nt tp a) 3 := rfl
  have w3 : zq3 nt tp a = zq2 nt tp a + 1 + zkn nt tp (zq2 nt tp a + 1) 9 := rfl
  have c1 := zcn_le (nt := nt) (tp := tp) (a := a + 1) 1
  have c2 := zcn_le (nt := nt) (tp := tp) (a := zq1 nt tp a) 3
  have c3 := zkn_le (nt := nt) (tp := tp) (a := zq2 nt tp a + 1) 9
  unfold zpd
  repeat' split
  all_goals (try dsimp only)
  all_goals omega
theorem zst9_le : (zst9 nt tp a).2 ≤ a + 21 := by
  have h1 := zwd_le (nt := nt) (tp := tp) (a := a + 1)
  have h2 := zpd_le (nt := nt) (tp := tp) (a := a + 1)
  unfold zst9
  repeat' split
  all_goals (try dsimp only)
  all_goals omega
theorem zpass1 (hM : zaM nt tp 0 M) (hX : zaX nt tp 0 X) (h23 : M.1 0 23 = nI 0) : ∃ r s, x_it (fun a9 => xX12_quiz_L12 a9.1 a9.2) zFU (M, (1 : Int32)) = some r ∧ x_it (fun a9 => xX8_firstBadByte_L7 a9.1 a9.2) zFU (X, (0 : Int32)) = some s ∧ ∃ (i : Nat) (M' X' : zM), zgds nt tp i ∧ zfQ M M' ∧ zfY X X' ∧ ((r = (M', 1) ∧ s = .inr X' ∧ 0 < i ∧ nt ≤ zpos nt tp i ∧ M'.1 0 23 = nI i ∧ M'.1 0 22 = nI (zpos nt tp i) ∧ ∀ j, j < i → zrow nt tp (zpos nt tp j) j M') ∨ (r = (M', 0) ∧ s = .inl X' ∧ ∃ p, p < 2 ^ 20 ∧ M'.1 0 22 = nI p ∧ X'.1 70 2 = nI p)) := by
  have h64 := hM.1.1
  refine zlock2 (α := zM × Int32) (γ := zM × Int32) (fun k c d => ∃ (i : Nat) (M' X' : zM), zgds nt tp i ∧ k = 30 - i ∧ c = (M', 1) ∧ d = (X', nI i) ∧ zaM nt tp (zpos nt tp i) M' ∧ zaX nt tp (zpos nt tp i) X' ∧ M'.1 0 23 = nI i ∧ (∀ j, j < i → zrow nt tp (zpos nt tp j) j M') ∧ zfQ M M' ∧ zfY X X') ?_ zFU 30 (M, (1 : Int32)) (X, (0 : Int32)) ⟨0, M, X, fun j hj => absurd hj (Nat.not_lt_zero j), rfl, rfl, rfl, hM, hX, h23, fun j hj => absurd hj (Nat.not_lt_zero j), ⟨fun _ _ _ _ => rfl, rfl⟩, ⟨fun _ _ _ => rfl, rfl⟩⟩ (by decide)
  rintro k c d ⟨i, A, C, hg, rfl, rfl, rfl, p1, p2, p3, p4, p5, p6⟩
  have hadv := zpos_adv i hg
  have hz0 : i = 0 → zpos nt tp i = 0 := fun z => by rw [z]; rfl
  have n10 : ¬ (1 : Int32) = 0 := by decide
  try dsimp only
  by_cases g : i ≠ 0 ∧ nt ≤ zpos nt tp i
  · refine Or.inr (Or.inl ⟨_, _, ?_, ?_, i, A, C, hg, p5, p6, Or.inl ⟨rfl, rfl, by omega, g.2, p3, p1.2.2.1, p4⟩⟩)
    · unfold xX12_quiz_L12
      rw [if_neg n10, p1.2.2.1, p1.2.1, if_neg (by rw [nI_ltI (by omega) (by omega)]; omega), p3, if_neg (by rw [nI_eq0 (by omega)]; exact g.1)]
    · unfold xX8_firstBadByte_L7
      rw [if_neg (by rw [show (64 : Int32) = nI 64 from rfl, nI_leI (by decide) (by omega)]; omega), if_neg (by rw [nI_eq0 (by omega)]; exact g.1), p2.2.1, p2.2.2.1, if_pos (nI_le g.2 (by omega))]
  · obtain ⟨q, hq, q1, q2, q3, q4⟩ := zx_statement p1 (by omega) (show i < 32 by omega) p3
    obtain ⟨r, hr, r1, r2, r3, r4⟩ := zx_readStatement p2 (by omega)
    have runM : xX12_quiz_L12 A 1 = (if q.1 = 0 then some (.inl (zsi q.2 0 23 (q.2.1 0 23 + (0 : Int32)), q.1)) else some (.inl (zsi q.2 0 23 (q.2.1 0 23 + (1 : Int32)), q.1))) := by
      unfold xX12_quiz_L12
      simp only [zlet]
      rw [if_neg n10, p1.2.2.1, p1.2.1, hq, Option.bind_some]
      by_cases y : zpos nt tp i < nt
      · rw [if_pos (nI_lt y (by omega))]
      · rw [if_neg (by rw [nI_ltI (by omega) (by omega)]; exact y), p3, if_pos (by rw [nI_eq0 (by omega)]; omega)]
    have runX : xX8_firstBadByte_L7 C (nI i) = (if r.1 = 0 then some (.inr (.inl r.2)) else some (.inl (r.2, nI i + 1))) := by
      unfold xX8_firstBadByte_L7
      rw [if_neg (by rw [show (64 : Int32) = nI 64 from rfl, nI_leI (by decide) (by omega)]; omega), hr, Option.bind_some]
      by_cases y : i = 0
      · rw [if_pos (by rw [nI_eq0 (by omega)]; exact y)]
      · rw [if_neg (by rw [nI_eq0 (by omega)]; exact y), p2.2.1, p2.2.2.1, if_neg (by rw [nI_leI (by omega) (by omega)]; omega)]
    have e23 : q.2.1 0 23 = nI i := (q4.1 _ _ (by omega) (by omega)).trans p3
    have fQ : ∀ v, zfQ M (zsi q.2 0 23 v) := fun v => ⟨fun j k g1 g2 => by rw [zsi_ne (by omega), q4.1 _ _ (by omega) (by omega)]; exact p5.1 j k g1 g2, q4.2.trans p5.2⟩
    have fY : zfY X r.2 := ⟨fun j k g1 => (r4.1 j k g1).trans (p6.1 j k g1), r4.2.trans p6.2⟩
    rw [runM, runX, q1, r1]
    have nf : ¬ (false = true) := by decide
    cases hb : (zst9 nt tp (zpos nt tp i)).1 with
    | false =>
      refine Or.inr (Or.inr ⟨(zsi q.2 0 23 (q.2.1 0 23 + (0 : Int32)), 0), (zsi q.2 0 23 (q.2.1 0 23 + (0 : Int32)), 0), .inl r.2, by omega, by rw [if_neg nf, if_pos rfl], ?_, by rw [if_neg nf, if_pos rfl], i, zsi q.2 0 23 (q.2.1 0 23 + (0 : Int32)), r.2, hg, fQ _, fY, Or.inr ⟨rfl, rfl, (zst9 nt tp (zpos nt tp i)).2, by have := zst9_le (nt := nt) (tp := tp) (a := zpos nt tp i); omega, ?_, r2⟩⟩)
      · try dsimp only
        unfold xX12_quiz_L12
        exact if_pos rfl
      · rw [zsi_ne (by decide)]; exact q2
    | true =>
      have hg2 := zgds_s hg hb
      have adv := zst9_adv hb
      have en : (zst9 nt tp (zpos nt tp i)).2 = zpos nt tp (i + 1) := rfl
      refine Or.inl ⟨(zsi q.2 0 23 (q.2.1 0 23 + (1 : Int32)), 1), (r.2, nI i + 1), 30 - (i + 1), by rw [if_pos (show true = true from rfl), if_neg n10], by rw [if_pos (show true = true from rfl), if_neg n10], by omega, i + 1, zsi q.2 0 23 (q.2.1 0 23 + (1 : Int32)), r.2, hg2, rfl, rfl, by rw [nI_1], ⟨⟨h64, fun j hj => ?_⟩, ?_, ?_, by omega⟩, ⟨⟨h64, fun j hj => ?_⟩, ?_, r2, by omega⟩, ?_, fun j hj => ?_, fQ _, fY⟩
      · rw [zsi_ne (by omega), q4.1 _ _ (by omega) (by omega)]; exact p1.1.2 j hj
      · rw [zsi_ne (by omega), q4.1 _ _ (by omega) (by omega)]; exact p1.2.1
      · rw [zsi_ne (by omega)]; exact q2
      · rw [r4.1 _ _ (by omega)]; exact p2.1.2 j hj
      · rw [r4.1 _ _ (by omega)]; exact p2.2.1
      · rw [zsi_y ⟨rfl, rfl⟩, e23, nI_1]
      · have cell : ∀ m, 14 ≤ m → (zsi q.2 0 23 (q.2.1 0 23 + (1 : Int32))).1 m j = q.2.1 m j := fun m hm => zsi_ne (by omega)
        unfold zrow
        rw [cell 18 (by decide), cell 19 (by decide), cell 14 (by decide), cell 15 (by decide), cell 16 (by decide), cell 17 (by decide)]
        by_cases y : j = i
        · rw [y]; exact q3 hb
        · rw [q4.1 18 j (by omega) (by omega), q4.1 19 j (by omega) (by omega), q4.1 14 j (by omega) (by omega), q4.1 15 j (by omega) (by omega), q4.1 16 j (by omega) (by omega), q4.1 17 j (by omega) (by omega)]
          exact p4 j (by omega)
end
