/-! an end's share goes to all words above it -/
theorem nI_le0 {n : Nat} (h : n < 2 ^ 31) : (nI n ≤ 0) = (n = 0) := propext (by rw [← nI_0, nI_leI h (by decide)]; omega)
theorem zx_climb {M : zM} {n : Nat} {par wt ans : Nat → Nat} (hV : zVT n par wt ans) (hR : zRT M n par wt ans) {e s : Nat} (h0 : 0 < e) (he : e < n) {X : Nat → Nat → Nat} (hX : ∀ w a, w < n → a < 10 → M.2 21 (10 * w + a) = lN (X w a)) (hS : M.2 20 e = lN s) : zok (x_it (fun a9 => xX12_findShares_L183_L161 (nI e) a9.1 a9.2) zFU (M, nI e)) (fun r => r.1 = M.1 ∧ (∀ w a, w < n → a < 10 → r.2 21 (10 * w + a) = lN (X w a + if a = ans e ∧ 0 < w ∧ zbe par e w = true then s else 0)) ∧ ∀ j k, ¬ j = 21 → r.2 j k = M.2 j k) := by
  have hn := hV.2.1
  have ha := zans_le hV he
  refine zok_it (fun u z => z.2 = nI u ∧ u < n ∧ zbe par e u = true ∧ z.1.1 = M.1 ∧ (∀ w a, w < n → a < 10 → z.1.2 21 (10 * w + a) = lN (X w a + if a = ans e ∧ 0 < w ∧ zbe par e w = true ∧ zbe par u w = false then s else 0)) ∧ ∀ j k, ¬ j = 21 → z.1.2 j k = M.2 j k) e ⟨rfl, he, zbe_self, rfl, fun w a hw h => ?_, fun _ _ _ => rfl⟩ (by omega) ?_
  · rw [hX w a hw h, if_neg (by rintro ⟨-, -, q1, q2⟩; rw [q1] at q2; cases q2)]
    rfl
  · rintro u ⟨A, i⟩ ⟨e0, e1, e2, e3, e4, e5⟩
    dsimp only at e0 e3 e4 e5
    subst e0
    have hR' := zRT_of hR e3
    rcases Nat.eq_zero_or_pos u with rfl | g
    · refine ⟨.inr A, ?_, Or.inr ⟨A, rfl, e3, fun w a hw h => ?_, e5⟩⟩
      · simp (disch := omega) only [zlet, nI_leI, nI_ltI, nI_eq, nI_eq0, nI_clamp, nI_neg0, nI_add, nI_1, false_or, or_false, if_pos, if_neg, Int32.add_zero, Nat.add_zero, xX12_findShares_L183_L161, nI_le0, if_true]
      · rw [e4 w a hw h]
        congr 2
        by_cases q : a = ans e ∧ 0 < w ∧ zbe par e w = true
        · rw [if_pos q, if_pos ⟨q.1, q.2.1, q.2.2, by rw [zbe_0]; have := q.2.1; cases w <;> first | omega | rfl⟩]
        · rw [if_neg q, if_neg (fun r => q ⟨r.1, r.2.1, r.2.2.1⟩)]
    · obtain ⟨q1, q2, q3⟩ := hR'.2 u e1
      obtain ⟨r1, r2, r3⟩ := hR'.2 e he
      have hp := (hV.2.2.1 u g e1).1
      have hS' : A.2 20 e = lN s := by rw [e5 20 e (by decide)]; exact hS
      have hold := e4 u (ans e) e1 (by omega)
      have hz : zbe par (par u) u = false := by
        cases hq : zbe par (par u) u with
        | false => rfl
        | true =>
          have := zbe_le hV (par u) (par u) u (Nat.le_refl _) (by omega) hq
          omega
      rw [if_neg (by rintro ⟨-, -, -, q⟩; rw [zbe_self] at q; cases q)] at hold
      refine ⟨.inl (zsj A 21 (10 * u + ans e) (lN (X u (ans e) + s)), nI (par u)), ?_, Or.inl ⟨_, par u, rfl, hp, rfl, by omega, zbe_up hV e e u (Nat.le_refl _) he g e2, e3, fun w a hw h => ?_, fun j k hjk => ?_⟩⟩
      · simp (disch := omega) only [zlet, nI_leI, nI_ltI, nI_eq, nI_eq0, nI_clamp, nI_neg0, nI_add, nI_1, false_or, or_false, if_pos, if_neg, Int32.add_zero, Nat.add_zero, xX12_findShares_L183_L161, nI_le0, r3, nI_10, nI_mul, hold, hS', lN_add, zsj_1, q1]
      · by_cases hc : 10 * w + a = 10 * u + ans e
        · obtain rfl : w = u := by omega
          obtain rfl : a = ans e := by omega
          rw [zsj_at, if_pos ⟨rfl, g, e2, hz⟩]
        · rw [zsj_ne (fun q => hc q.2), e4 w a hw h]
          congr 2
          have hs := zbe_s hV (w := w) g e1
          by_cases hwu : u = w
          · subst hwu
            have hne : ¬ a = ans e := by omega
            rw [if_neg (fun r => hne r.1), if_neg (fun r => hne r.1)]
          · have : zbe par u w = zbe par (par u) w := by
              rw [hs, beq_eq_false_iff_ne.mpr hwu, Bool.false_or]
            rw [this]
      · exact (zsj_ne (fun q => hjk q.1)).trans (e5 j k hjk)
