/-! the tree, the reference's simple questions -/
/-- the tree: how many words, each one's parent, weight, answer -/
def zVT (n : Nat) (par wt ans : Nat → Nat) : Prop := 1 ≤ n ∧ n ≤ 24 ∧ (∀ i, 0 < i → i < n → par i < i ∧ 1 ≤ wt i ∧ wt i ≤ 9 ∧ ans i ≤ 9 ∧ ans (par i) = 0) ∧ ans 0 = 0
/-- the reference has it -/
def zRT (M : zM) (n : Nat) (par wt ans : Nat → Nat) : Prop := M.1 0 12 = nI n ∧ ∀ i, i < n → M.1 2 i = nI (par i) ∧ M.1 3 i = nI (wt i) ∧ M.1 4 i = nI (ans i)
/-- the weights of the words next behind w -/
def zsw (n : Nat) (par wt : Nat → Nat) (w : Nat) : Nat := zsum (fun c => if 0 < c ∧ par c = w then wt c else 0) n
theorem zx_sumOf {M : zM} {n : Nat} {par wt ans : Nat → Nat} (hV : zVT n par wt ans) (hR : zRT M n par wt ans) {w : Nat} (hw : w < n) : xX12_sumOf M (nI w) = some (nI (zsw n par wt w)) := by
  obtain ⟨h1, h2, h3, h4⟩ := hV
  obtain ⟨g1, g2⟩ := hR
  refine zok.eq ?_
  unfold xX12_sumOf
  refine zok_let (zok_bind ?_)
  refine zok_for (fun c a => a = (nI (zsum (fun c => if 0 < c ∧ par c = w then wt c else 0) c), nI c)) (w + 1) n hw (by omega) ?_ ?_ ?_
  · rw [zsum_zero, nI_1]
    · rfl
    · intro i hi
      refine if_neg ?_
      rintro ⟨h, rfl⟩
      have := (h3 i h (by omega)).1
      omega
  · rintro c a hc1 hc2 rfl
    obtain ⟨e1, e2, e3⟩ := g2 c hc2
    obtain ⟨p1, p2, p3, -, -⟩ := h3 c (by omega) hc2
    by_cases h : par c = w
    · refine ⟨_, ?_, _, rfl, rfl⟩
      simp (disch := omega) only [zlet, nI_leI, nI_ltI, nI_eq, nI_eq0, nI_clamp, nI_neg0, nI_add, nI_1, false_or, or_false, if_pos, if_neg, Int32.add_zero, Nat.add_zero, xX12_sumOf_L6, g1, e1, e2, zsum]
    · refine ⟨_, ?_, _, rfl, rfl⟩
      simp (disch := omega) only [zlet, nI_leI, nI_ltI, nI_eq, nI_eq0, nI_clamp, nI_neg0, nI_add, nI_1, false_or, or_false, if_pos, if_neg, Int32.add_zero, Nat.add_zero, xX12_sumOf_L6, g1, e1, e2, zsum]
  · rintro a rfl
    refine ⟨_, ?_, _, rfl, _, rfl, rfl⟩
    simp (disch := omega) only [zlet, nI_leI, nI_ltI, nI_eq, nI_eq0, nI_clamp, nI_neg0, nI_add, nI_1, false_or, or_false, if_pos, if_neg, Int32.add_zero, Nat.add_zero, xX12_sumOf_L6, g1, zsw]

/-- how many words are next behind w -/
def znx (n : Nat) (par : Nat → Nat) (w : Nat) : Nat := zsum (fun c => if 0 < c ∧ par c = w then 1 else 0) n
theorem znx_lt {n : Nat} {par : Nat → Nat} {w : Nat} (h : n ≤ 24) : znx n par w ≤ 24 := by
  have := zsum_le (f := fun c => if 0 < c ∧ par c = w then 1 else 0) (b := 1) (n := n) (fun i _ => by split <;> omega)
  unfold znx
  omega
theorem zx_nexts {M : zM} {n : Nat} {par wt ans : Nat → Nat} (hV : zVT n par wt ans) (hR : zRT M n par wt ans) {w : Nat} (hw : w < n) : xX12_nexts M (nI w) = some (nI (znx n par w)) := by
  obtain ⟨h1, h2, h3, h4⟩ := hV
  obtain ⟨g1, g2⟩ := hR
  refine zok.eq ?_
  unfold xX12_nexts
  refine zok_let (zok_bind ?_)
  refine zok_for (fun c a => a = (nI (zsum (fun c => if 0 < c ∧ par c = w then 1 else 0) c), nI c)) (w + 1) n hw (by omega) ?_ ?_ ?_
  · rw [zsum_zero, nI_1]
    · rfl
    · intro i hi
      refine if_neg ?_
      rintro ⟨h, rfl⟩
      have := (h3 i h (by omega)).1
      omega
  · rintro c a hc1 hc2 rfl
    obtain ⟨e1, e2, e3⟩ := g2 c hc2
    obtain ⟨p1, p2, p3, -, -⟩ := h3 c (by omega) hc2
    by_cases h : par c = w
    · refine ⟨_, ?_, _, rfl, rfl⟩
      simp (disch := omega) only [zlet, nI_leI, nI_ltI, nI_eq, nI_eq0, nI_clamp, nI_neg0, nI_add, nI_1, false_or, or_false, if_pos, if_neg, Int32.add_zero, Nat.add_zero, xX12_nexts_L6, g1, e1, e2, zsum]
    · refine ⟨_, ?_, _, rfl, rfl⟩
      simp (disch := omega) only [zlet, nI_leI, nI_ltI, nI_eq, nI_eq0, nI_clamp, nI_neg0, nI_add, nI_1, false_or, or_false, if_pos, if_neg, Int32.add_zero, Nat.add_zero, xX12_nexts_L6, g1, e1, e2, zsum]
  · rintro a rfl
    refine ⟨_, ?_, _, rfl, _, rfl, rfl⟩
    simp (disch := omega) only [zlet, nI_leI, nI_ltI, nI_eq, nI_eq0, nI_clamp, nI_neg0, nI_add, nI_1, false_or, or_false, if_pos, if_neg, Int32.add_zero, Nat.add_zero, xX12_nexts_L6, g1, znx]
/-- every word that is no end has a next one -/
def zWh (n : Nat) (par ans : Nat → Nat) : Prop := ∀ w, w < n → ans w = 0 → znx n par w ≠ 0
theorem zx_isWhole {M : zM} {n : Nat} {par wt ans : Nat → Nat} (hV : zVT n par wt ans) (hR : zRT M n par wt ans) : zok (xX12_isWhole M) (fun r => (r = 1 ∧ zWh n par ans) ∨ (r = 0 ∧ ¬ zWh n par ans)) := by
  have hV0 := hV
  have hR0 := hR
  obtain ⟨h1, h2, h3, h4⟩ := hV
  obtain ⟨g1, g2⟩ := hR
  unfold xX12_isWhole
  refine zok_bind ?_
  refine zok_forx (fun c a => a = nI c ∧ ∀ w, w < c → ans w = 0 → znx n par w ≠ 0) 0 n (Nat.zero_le _) (by omega) ⟨rfl, fun w h => absurd h (Nat.not_lt_zero _)⟩ ?_ ?_
  · rintro c a hc1 hc2 ⟨rfl, hI⟩
    obtain ⟨e1, e2, e3⟩ := g2 c hc2
    have p4 : ans c ≤ 9 := by
      rcases Nat.eq_zero_or_pos c with rfl | h
      · omega
      · exact (h3 c h hc2).2.2.2.1
    have hn := zx_nexts hV0 hR0 hc2
    have hl := znx_lt (n := n) (par := par) (w := c) h2
    by_cases h : ans c = 0
    · by_cases h9 : znx n par c = 0
      · refine ⟨.inr (.inl ()), ?_, Or.inr ⟨_, rfl, ?_⟩⟩
        · simp (disch := omega) only [zlet, nI_leI, nI_ltI, nI_eq, nI_eq0, nI_clamp, nI_neg0, nI_add, nI_1, false_or, or_false, if_pos, if_neg, Int32.add_zero, Nat.add_zero, xX12_isWhole_L2, g1, e3, hn, Option.bind_some]
        · exact zok_some (Or.inr ⟨rfl, fun hW => hW c hc2 h h9⟩)
      · refine ⟨_, ?_, Or.inl ⟨_, rfl, rfl, ?_⟩⟩
        · simp (disch := omega) only [zlet, nI_leI, nI_ltI, nI_eq, nI_eq0, nI_clamp, nI_neg0, nI_add, nI_1, false_or, or_false, if_pos, if_neg, Int32.add_zero, Nat.add_zero, xX12_isWhole_L2, g1, e3, hn, Option.bind_some]
        · intro w hw
          rcases Nat.lt_or_ge w c with g | g
          · exact hI w g
          · obtain rfl : w = c := by omega
            exact fun _ => h9
    · refine ⟨_, ?_, Or.inl ⟨_, rfl, rfl, ?_⟩⟩
      · simp (disch := omega) only [zlet, nI_leI, nI_ltI, nI_eq, nI_eq0, nI_clamp, nI_neg0, nI_add, nI_1, false_or, or_false, if_pos, if_neg, Int32.add_zero, Nat.add_zero, xX12_isWhole_L2, g1, e3]
      · intro w hw
        rcases Nat.lt_or_ge w c with g | g
        · exact hI w g
        · obtain rfl : w = c := by omega
          exact fun q => absurd q h
  · rintro a ⟨rfl, hI⟩
    refine ⟨.inr (.inr ()), ?_, _, rfl, zok_some (Or.inl ⟨rfl, hI⟩)⟩
    simp (disch := omega) only [zlet, nI_leI, nI_ltI, nI_eq, nI_eq0, nI_clamp, nI_neg0, nI_add, nI_1, false_or, or_false, if_pos, if_neg, Int32.add_zero, Nat.add_zero, xX12_isWhole_L2, g1]
