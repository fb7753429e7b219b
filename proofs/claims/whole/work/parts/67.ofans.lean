/-! the shares by answers: first all are 0 -/
theorem nI_mul (a b : Nat) : nI a * nI b = nI (a * b) := (Int32.ofNat_mul a b).symm
theorem nI_10 : (10 : Int32) = nI 10 := by decide
theorem zx_find3 {M : zM} {n : Nat} {par wt ans : Nat → Nat} (hV : zVT n par wt ans) (hR : zRT M n par wt ans) : zok (x_it (fun a9 => xX12_findShares_L135 a9.1 a9.2) zFU (M, (0 : Int32))) (fun r => r.1 = M.1 ∧ (∀ i, i < 10 * n → r.2 21 i = lN 0) ∧ ∀ j k, ¬ j = 21 → r.2 j k = M.2 j k) := by
  have hn := hV.2.1
  refine zok_for (fun c a => a.2 = nI c ∧ a.1.1 = M.1 ∧ (∀ i, i < c → a.1.2 21 i = lN 0) ∧ ∀ j k, ¬ j = 21 → a.1.2 j k = M.2 j k) 0 (10 * n) (Nat.zero_le _) (by omega) ⟨rfl, rfl, fun i hi => absurd hi (Nat.not_lt_zero _), fun _ _ _ => rfl⟩ ?_ ?_
  · rintro c ⟨A, i⟩ h1 h2 ⟨e0, e1, e2, e3⟩
    dsimp only at e0 e1 e2 e3
    subst e0
    have hR' := zRT_of hR e1
    refine ⟨.inl (zsj A 21 c (lN 0), nI (c + 1)), ?_, _, rfl, rfl, e1, fun j hj => ?_, fun j k hjk => ?_⟩
    · simp (disch := omega) only [zlet, nI_leI, nI_ltI, nI_eq, nI_eq0, nI_clamp, nI_neg0, nI_add, nI_1, false_or, or_false, if_pos, if_neg, Int32.add_zero, Nat.add_zero, xX12_findShares_L135, hR'.1, nI_10, nI_mul]
      rfl
    · rcases Nat.lt_or_ge j c with g | g
      · exact (zsj_ne (by omega)).trans (e2 j g)
      · obtain rfl : j = c := by omega
        exact zsj_at
    · exact (zsj_ne (fun q => hjk q.1)).trans (e3 j k hjk)
  · rintro ⟨A, i⟩ ⟨e0, e1, e2, e3⟩
    dsimp only at e0 e1 e2 e3
    subst e0
    refine ⟨.inr A, ?_, A, rfl, e1, e2, e3⟩
    have hR' := zRT_of hR e1
    simp (disch := omega) only [zlet, nI_leI, nI_ltI, nI_eq, nI_eq0, nI_clamp, nI_neg0, nI_add, nI_1, false_or, or_false, if_pos, if_neg, Int32.add_zero, Nat.add_zero, xX12_findShares_L135, hR'.1, nI_10, nI_mul]
