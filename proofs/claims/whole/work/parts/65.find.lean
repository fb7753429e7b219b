/-! the reference finds the shares -/
theorem zsj_1 {M : zM} {j k : Nat} {v : Int64} : (zsj M j k v).1 = M.1 := rfl
theorem zsj_at {M : zM} {j k : Nat} {v : Int64} : (zsj M j k v).2 j k = v := by
  simp [zsj, vp_updL]
theorem zsj_ne {M : zM} {j k j' k' : Nat} {v : Int64} (h : ¬ (j' = j ∧ k' = k)) : (zsj M j k v).2 j' k' = M.2 j' k' := by
  by_cases e : j' = j
  · subst e
    have : ¬ k' = k := fun q => h ⟨rfl, q⟩
    simp [zsj, vp_updL, this]
  · simp [zsj, e]
theorem zRT_of {M M' : zM} {n : Nat} {par wt ans : Nat → Nat} (h : zRT M n par wt ans) (e : M'.1 = M.1) : zRT M' n par wt ans := by
  unfold zRT
  rw [e]
  exact h
theorem zans_le {n : Nat} {par wt ans : Nat → Nat} (hV : zVT n par wt ans) {c : Nat} (hc : c < n) : ans c ≤ 9 := by
  rcases Nat.eq_zero_or_pos c with rfl | h
  · rw [hV.2.2.2]; omega
  · exact (hV.2.2.1 c h hc).2.2.2.1
theorem nI_div {a b : Nat} (ha : a < 2 ^ 31) (hb : b < 2 ^ 31) : nI a / nI b = nI (a / b) := by
  have h1 : a / b < 2 ^ 31 := Nat.lt_of_le_of_lt (Nat.div_le_self a b) ha
  refine Int32.toInt_inj.mp ?_
  rw [Int32.toInt_div, nI_toInt ha, nI_toInt hb, nI_toInt h1]
  rw [show ((a : Int).tdiv (b : Int)) = ((a / b : Nat) : Int) from rfl]
  generalize a / b = k at h1 ⊢
  exact Int.bmod_eq_of_le (by omega) (by omega)
theorem zx_find1 {M : zM} {n : Nat} {par wt ans : Nat → Nat} (hV : zVT n par wt ans) (hW : zWh n par ans) (hR : zRT M n par wt ans) (h0 : M.2 0 29 = lN 1) : zok (x_it (fun a9 => xX12_findShares_L7 a9.1 a9.2) zFU (M, (0 : Int32))) (fun r => r.1 = M.1 ∧ r.2 0 29 = lN (zun n par wt ans) ∧ ∀ j k, ¬ (j = 0 ∧ k = 29) → r.2 j k = M.2 j k) := by
  have hn := hV.2.1
  refine zok_for (fun c a => a.2 = nI c ∧ a.1.1 = M.1 ∧ a.1.2 0 29 = lN (zprod (zfw n par wt ans) c) ∧ ∀ j k, ¬ (j = 0 ∧ k = 29) → a.1.2 j k = M.2 j k) 0 n (Nat.zero_le _) (by omega) ⟨rfl, rfl, h0, fun _ _ _ => rfl⟩ ?_ ?_
  · rintro c ⟨A, i⟩ h1 h2 ⟨e0, e1, e2, e3⟩
    dsimp only at e0 e1 e2 e3
    subst e0
    have hR' := zRT_of hR e1
    obtain ⟨q1, q2, q3⟩ := hR'.2 c h2
    have ha := zans_le hV h2
    have e4 : zprod (zfw n par wt ans) (c + 1) = zprod (zfw n par wt ans) c * zfw n par wt ans c := rfl
    by_cases h : ans c = 0
    · obtain ⟨d, d0, d1, d2⟩ := znx_ex (hW c h2 h)
      have hg := zgc_pos hV d0 d1 d2
      have hg9 := zgc_le hV (w := c)
      have hs9 := zsw_le hV (w := c)
      have hf : zfw n par wt ans c = zsw n par wt c / zgc n par wt c := if_pos h
      have hd : zsw n par wt c / zgc n par wt c < 2 ^ 31 := Nat.lt_of_le_of_lt (Nat.div_le_self _ _) (by omega)
      refine ⟨.inl (zsj A 0 29 (lN (zprod (zfw n par wt ans) (c + 1))), nI (c + 1)), ?_, _, rfl, rfl, e1, zsj_at, fun j k hjk => ?_⟩
      · simp (disch := omega) only [zlet, nI_leI, nI_ltI, nI_eq, nI_eq0, nI_clamp, nI_neg0, nI_add, nI_1, false_or, or_false, if_pos, if_neg, Int32.add_zero, Nat.add_zero, xX12_findShares_L7, hR'.1, q3, zx_sumOf hV hR' h2, zx_commonOf hV hR' h2, Option.bind_some, nI_div, nI_l, e2, lN_mul, e4, hf]
      · exact (zsj_ne hjk).trans (e3 j k hjk)
    · have hf : zfw n par wt ans c = 1 := if_neg h
      refine ⟨.inl (zsj A 0 29 (lN (zprod (zfw n par wt ans) (c + 1))), nI (c + 1)), ?_, _, rfl, rfl, e1, zsj_at, fun j k hjk => ?_⟩
      · simp (disch := omega) only [zlet, nI_leI, nI_ltI, nI_eq, nI_eq0, nI_clamp, nI_neg0, nI_add, nI_1, false_or, or_false, if_pos, if_neg, Int32.add_zero, Nat.add_zero, xX12_findShares_L7, hR'.1, q3, e2, e4, hf, Nat.mul_one, Int64.mul_one]
      · exact (zsj_ne hjk).trans (e3 j k hjk)
  · rintro ⟨A, i⟩ ⟨e0, e1, e2, e3⟩
    dsimp only at e0 e1 e2 e3
    subst e0
    refine ⟨.inr A, ?_, A, rfl, e1, e2, e3⟩
    have hR' := zRT_of hR e1
    simp (disch := omega) only [zlet, nI_leI, nI_ltI, nI_eq, nI_eq0, nI_clamp, nI_neg0, nI_add, nI_1, false_or, or_false, if_pos, if_neg, Int32.add_zero, Nat.add_zero, xX12_findShares_L7, hR'.1]
