/-! all shares by answers -/
theorem zbe_root {n : Nat} {par wt ans : Nat → Nat} (hV : zVT n par wt ans) : ∀ (k e : Nat), e ≤ k → e < n → zbe par e 0 = true
  | 0, e, h1, _ => by
    obtain rfl : e = 0 := by omega
    rfl
  | k + 1, e, h1, h2 => by
    rcases Nat.eq_zero_or_pos e with rfl | g
    · rfl
    · have hp := (hV.2.2.1 e g h2).1
      rw [zbe_s hV g h2, zbe_root hV k (par e) (by omega) (by omega), Bool.or_true]
/-- what an end adds to the share of an answer behind a word -/
def zoe (n : Nat) (par wt ans : Nat → Nat) (w a e : Nat) : Nat := if ¬ ans e = 0 ∧ a = ans e ∧ zbe par e w = true then zsh n par wt ans e else 0
def zoA (n : Nat) (par wt ans : Nat → Nat) (w a : Nat) : Nat := zsum (zoe n par wt ans w a) n
theorem zx_find4 {M : zM} {n : Nat} {par wt ans : Nat → Nat} (hV : zVT n par wt ans) (hR : zRT M n par wt ans) (h0 : ∀ i, i < 10 * n → M.2 21 i = lN 0) (hS : ∀ i, i < n → M.2 20 i = lN (zsh n par wt ans i)) : zok (x_it (fun a9 => xX12_findShares_L161 a9.1 a9.2) zFU (M, (1 : Int32))) (fun r => r.1 = M.1 ∧ (∀ w a, w < n → a < 10 → r.2 21 (10 * w + a) = lN (zoA n par wt ans w a)) ∧ ∀ j k, ¬ j = 21 → r.2 j k = M.2 j k) := by
  have hn := hV.2.1
  refine zok_for (fun c z => z.2 = nI c ∧ z.1.1 = M.1 ∧ (∀ w a, w < n → a < 10 → z.1.2 21 (10 * w + a) = lN (zsum (zoe n par wt ans w a) c)) ∧ ∀ j k, ¬ j = 21 → z.1.2 j k = M.2 j k) 1 n hV.1 (by omega) ⟨rfl, rfl, fun w a hw h => ?_, fun _ _ _ => rfl⟩ ?_ ?_
  · rw [h0 _ (by omega)]
    show lN 0 = lN (0 + zoe n par wt ans w a 0)
    unfold zoe
    rw [if_neg (fun q => q.1 hV.2.2.2)]
  · rintro c ⟨A, i⟩ h1 h2 ⟨e0, e1, e2, e3⟩
    dsimp only at e0 e1 e2 e3
    subst e0
    have hR' := zRT_of hR e1
    obtain ⟨q1, q2, q3⟩ := hR'.2 c h2
    have ha := zans_le hV h2
    have es : ∀ w a, zsum (zoe n par wt ans w a) (c + 1) = zsum (zoe n par wt ans w a) c + zoe n par wt ans w a c := fun _ _ => rfl
    by_cases h : ans c = 0
    · refine ⟨.inl (A, nI (c + 1)), ?_, _, rfl, rfl, e1, fun w a hw hh => ?_, e3⟩
      · simp (disch := omega) only [zlet, nI_leI, nI_ltI, nI_eq, nI_eq0, nI_clamp, nI_neg0, nI_add, nI_1, false_or, or_false, if_pos, if_neg, Int32.add_zero, Nat.add_zero, xX12_findShares_L161, hR'.1, q3]
      · rw [es, e2 w a hw hh]
        unfold zoe
        rw [if_neg (fun q => q.1 h)]
        rfl
    · obtain ⟨B, hB, f1, f2, f3⟩ := zx_climb hV hR' h1 h2 e2 ((e3 20 c (by decide)).trans (hS c h2))
      have hRB := zRT_of hR' f1
      obtain ⟨r1, r2, r3⟩ := hRB.2 c h2
      have hSB : B.2 20 c = lN (zsh n par wt ans c) := (f3 20 c (by decide)).trans ((e3 20 c (by decide)).trans (hS c h2))
      have hB0 := f2 0 (ans c) (by omega) (by omega)
      rw [if_neg (fun q => absurd q.2.1 (by omega)), Nat.add_zero, Nat.mul_zero, Nat.zero_add] at hB0
      refine ⟨.inl (zsj B 21 (ans c) (lN (zsum (zoe n par wt ans 0 (ans c)) c + zsh n par wt ans c)), nI (c + 1)), ?_, _, rfl, rfl, f1.trans e1, fun w a hw hh => ?_, fun j k hjk => ?_⟩
      · simp (disch := omega) only [zlet, nI_leI, nI_ltI, nI_eq, nI_eq0, nI_clamp, nI_neg0, nI_add, nI_1, false_or, or_false, if_pos, if_neg, Int32.add_zero, Nat.add_zero, xX12_findShares_L161, hR'.1, q3, hB, Option.bind_some, r3, hB0, hSB, lN_add]
      · rw [es]
        by_cases hc : 10 * w + a = ans c
        · obtain rfl : w = 0 := by omega
          obtain rfl : a = ans c := by omega
          rw [Nat.mul_zero, Nat.zero_add, zsj_at]
          unfold zoe
          rw [if_pos (⟨h, rfl, zbe_root hV c c (Nat.le_refl _) h2⟩ : ¬ ans c = 0 ∧ ans c = ans c ∧ zbe par c 0 = true)]
        · rw [zsj_ne (fun q => hc q.2), f2 w a hw hh]
          congr 2
          unfold zoe
          by_cases q : a = ans c ∧ zbe par c w = true
          · rw [if_pos ⟨q.1, by omega, q.2⟩, if_pos ⟨h, q.1, q.2⟩]
          · rw [if_neg (fun r => q ⟨r.1, r.2.2⟩), if_neg (fun r => q ⟨r.2.1, r.2.2⟩)]
      · exact (zsj_ne (fun q => hjk q.1)).trans ((f3 j k hjk).trans (e3 j k hjk))
  · rintro ⟨A, i⟩ ⟨e0, e1, e2, e3⟩
    dsimp only at e0 e1 e2 e3
    subst e0
    refine ⟨.inr A, ?_, A, rfl, e1, e2, e3⟩
    have hR' := zRT_of hR e1
    simp (disch := omega) only [zlet, nI_leI, nI_ltI, nI_eq, nI_eq0, nI_clamp, nI_neg0, nI_add, nI_1, false_or, or_false, if_pos, if_neg, Int32.add_zero, Nat.add_zero, xX12_findShares_L161, hR'.1]
/-- the shares are found -/
def zFS (M : zM) (n : Nat) (par wt ans : Nat → Nat) : Prop := M.2 0 29 = lN (zun n par wt ans) ∧ (∀ i, i < n → M.2 20 i = lN (zsh n par wt ans i)) ∧ ∀ w a, w < n → a < 10 → M.2 21 (10 * w + a) = lN (zoA n par wt ans w a)
theorem zx_findShares {M : zM} {n : Nat} {par wt ans : Nat → Nat} (hV : zVT n par wt ans) (hW : zWh n par ans) (hR : zRT M n par wt ans) : zok (xX12_findShares M) (fun r => r.1 = M.1 ∧ zFS r n par wt ans ∧ ∀ j k, ¬ (j = 0 ∧ k = 29) → ¬ j = 20 → ¬ j = 21 → r.2 j k = M.2 j k) := by
  have hn := hV.1
  unfold xX12_findShares
  refine zok_let (zok_bind ?_)
  refine (zx_find1 (M := zsj M 0 29 1) hV hW (zRT_of hR rfl) zsj_at).imp ?_
  rintro r1 ⟨a1, a2, a3⟩
  refine zok_let (zok_bind ?_)
  refine (zx_find2 (M := zsj r1 20 0 (r1.2 0 29)) hV hW (zRT_of hR a1) (zsj_at.trans a2)).imp ?_
  rintro r2 ⟨b1, b2, b3⟩
  refine zok_bind ((zx_find3 hV (zRT_of hR (b1.trans a1))).imp ?_)
  rintro r3 ⟨c1, c2, c3⟩
  refine zok_bind ((zx_find4 hV (zRT_of hR (c1.trans (b1.trans a1))) c2 (fun i hi => (c3 20 i (by decide)).trans (b2 i hi))).imp ?_)
  rintro r4 ⟨d1, d2, d3⟩
  refine zok_some ⟨d1.trans (c1.trans (b1.trans a1)), ⟨?_, fun i hi => (d3 20 i (by decide)).trans ((c3 20 i (by decide)).trans (b2 i hi)), d2⟩, fun j k h1 h2 h3 => ?_⟩
  · exact (d3 0 29 (by decide)).trans ((c3 0 29 (by decide)).trans ((b3 0 29 (by decide)).trans ((zsj_ne (by decide)).trans a2)))
  · exact (d3 j k h3).trans ((c3 j k h3).trans ((b3 j k h2).trans ((zsj_ne (fun q => h2 q.1)).trans ((a3 j k h1).trans (zsj_ne h1)))))
