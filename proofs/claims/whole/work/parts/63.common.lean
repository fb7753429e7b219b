/-! the common divisor of the next weights -/
def zgcs (f : Nat → Nat) : Nat → Nat
  | 0 => 0
  | n + 1 => Nat.gcd (f n) (zgcs f n)
theorem zgcs_le {f : Nat → Nat} {b : Nat} : ∀ {n : Nat}, (∀ i, i < n → f i ≤ b) → zgcs f n ≤ b
  | 0, _ => Nat.zero_le _
  | n + 1, h => by
    show Nat.gcd (f n) (zgcs f n) ≤ b
    have h1 := zgcs_le (f := f) (b := b) (n := n) (fun i hi => h i (by omega))
    have h2 := h n (by omega)
    rcases Nat.eq_zero_or_pos (f n) with e | e
    · rw [e, Nat.gcd_zero_left]; exact h1
    · exact Nat.le_trans (Nat.gcd_le_left _ e) h2
theorem zgcs_zero {f : Nat → Nat} : ∀ {n : Nat}, (∀ i, i < n → f i = 0) → zgcs f n = 0
  | 0, _ => rfl
  | n + 1, h => by
    show Nat.gcd (f n) (zgcs f n) = 0
    rw [zgcs_zero (fun i hi => h i (by omega)), h n (by omega)]
    rfl
theorem zgcs_dvd {f : Nat → Nat} : ∀ {n i : Nat}, i < n → zgcs f n ∣ f i
  | 0, _, h => absurd h (Nat.not_lt_zero _)
  | n + 1, i, h => by
    show Nat.gcd (f n) (zgcs f n) ∣ f i
    rcases Nat.lt_or_ge i n with g | g
    · exact Nat.dvd_trans (Nat.gcd_dvd_right _ _) (zgcs_dvd g)
    · obtain rfl : i = n := by omega
      exact Nat.gcd_dvd_left _ _
theorem zsum_dvd {f : Nat → Nat} {d : Nat} : ∀ {n : Nat}, (∀ i, i < n → d ∣ f i) → d ∣ zsum f n
  | 0, _ => Nat.dvd_zero d
  | n + 1, h => Nat.dvd_add (zsum_dvd (fun i hi => h i (by omega))) (h n (by omega))
theorem zsum_ge {f : Nat → Nat} : ∀ {n i : Nat}, i < n → f i ≤ zsum f n
  | 0, _, h => absurd h (Nat.not_lt_zero _)
  | n + 1, i, h => by
    show f i ≤ zsum f n + f n
    rcases Nat.lt_or_ge i n with g | g
    · have := zsum_ge (f := f) g
      omega
    · obtain rfl : i = n := by omega
      omega
/-- the weight of c, if it is next behind w -/
def zwc (par wt : Nat → Nat) (w c : Nat) : Nat := if 0 < c ∧ par c = w then wt c else 0
def zgc (n : Nat) (par wt : Nat → Nat) (w : Nat) : Nat := zgcs (zwc par wt w) n
theorem zsw_eq {n : Nat} {par wt : Nat → Nat} {w : Nat} : zsw n par wt w = zsum (zwc par wt w) n := rfl
theorem zwc_le {n : Nat} {par wt ans : Nat → Nat} (hV : zVT n par wt ans) {w i : Nat} (hi : i < n) : zwc par wt w i ≤ 9 := by
  unfold zwc
  split
  · rename_i h
    exact (hV.2.2.1 i h.1 hi).2.2.1
  · omega
theorem zwc_lo {n : Nat} {par wt ans : Nat → Nat} (hV : zVT n par wt ans) {w i : Nat} (hi : i < n) (h : i ≤ w) : zwc par wt w i = 0 := by
  refine if_neg ?_
  rintro ⟨h0, rfl⟩
  have := (hV.2.2.1 i h0 hi).1
  omega
theorem zx_commonOf {M : zM} {n : Nat} {par wt ans : Nat → Nat} (hV : zVT n par wt ans) (hR : zRT M n par wt ans) {w : Nat} (hw : w < n) : xX12_commonOf M (nI w) = some (nI (zgc n par wt w)) := by
  have hV0 := hV
  obtain ⟨h1, h2, h3, h4⟩ := hV
  obtain ⟨g1, g2⟩ := hR
  refine zok.eq ?_
  unfold xX12_commonOf
  refine zok_let (zok_bind ?_)
  refine zok_for (fun c a => a = (nI (zgcs (zwc par wt w) c), nI c)) (w + 1) n hw (by omega) ?_ ?_ ?_
  · rw [zgcs_zero (fun i hi => zwc_lo hV0 (by omega) (by omega)), nI_1]
    rfl
  · rintro c a hc1 hc2 rfl
    obtain ⟨e1, e2, e3⟩ := g2 c hc2
    obtain ⟨p1, p2, p3, -, -⟩ := h3 c (by omega) hc2
    have hb := zgcs_le (f := zwc par wt w) (b := 9) (n := c) (fun i hi => zwc_le hV0 (by omega))
    by_cases h : par c = w
    · have e4 : zwc par wt w c = wt c := if_pos ⟨by omega, h⟩
      have e5 := zx_divisor (a := wt c) (b := zgcs (zwc par wt w) c) (by omega) (by omega)
      have e6 : zgcs (zwc par wt w) (c + 1) = Nat.gcd (wt c) (zgcs (zwc par wt w) c) := by
        show Nat.gcd (zwc par wt w c) _ = _
        rw [e4]
      refine ⟨_, ?_, _, rfl, rfl⟩
      simp (disch := omega) only [zlet, nI_leI, nI_ltI, nI_eq, nI_eq0, nI_clamp, nI_neg0, nI_add, nI_1, false_or, or_false, if_pos, if_neg, Int32.add_zero, Nat.add_zero, xX12_commonOf_L6, g1, e1, e2, nI_l, e5, Option.bind_some, lN_i, e6]
    · have e4 : zwc par wt w c = 0 := if_neg (fun q => h q.2)
      have e6 : zgcs (zwc par wt w) (c + 1) = zgcs (zwc par wt w) c := by
        show Nat.gcd (zwc par wt w c) _ = _
        rw [e4, Nat.gcd_zero_left]
      refine ⟨_, ?_, _, rfl, rfl⟩
      simp (disch := omega) only [zlet, nI_leI, nI_ltI, nI_eq, nI_eq0, nI_clamp, nI_neg0, nI_add, nI_1, false_or, or_false, if_pos, if_neg, Int32.add_zero, Nat.add_zero, xX12_commonOf_L6, g1, e1, e2, e6]
  · rintro a rfl
    refine ⟨_, ?_, _, rfl, _, rfl, rfl⟩
    simp (disch := omega) only [zlet, nI_leI, nI_ltI, nI_eq, nI_eq0, nI_clamp, nI_neg0, nI_add, nI_1, false_or, or_false, if_pos, if_neg, Int32.add_zero, Nat.add_zero, xX12_commonOf_L6, g1, zgc]
theorem zgc_le {n : Nat} {par wt ans : Nat → Nat} (hV : zVT n par wt ans) {w : Nat} : zgc n par wt w ≤ 9 := zgcs_le (fun _ hi => zwc_le hV hi)
theorem zsw_le {n : Nat} {par wt ans : Nat → Nat} (hV : zVT n par wt ans) {w : Nat} : zsw n par wt w ≤ 216 := by
  have h := zsum_le (f := zwc par wt w) (b := 9) (n := n) (fun _ hi => zwc_le hV hi)
  have := hV.2.1
  rw [zsw_eq]
  omega
theorem zgc_dvd {n : Nat} {par wt : Nat → Nat} {w : Nat} : zgc n par wt w ∣ zsw n par wt w := zsum_dvd (fun _ hi => zgcs_dvd hi)
/-- a word with a next one has a common divisor -/
theorem zgc_pos {n : Nat} {par wt ans : Nat → Nat} (hV : zVT n par wt ans) {w c : Nat} (h0 : 0 < c) (hc : c < n) (hp : par c = w) : 0 < zgc n par wt w := by
  have h := zgcs_dvd (f := zwc par wt w) hc
  have e4 : zwc par wt w c = wt c := if_pos ⟨h0, hp⟩
  have := (hV.2.2.1 c h0 hc).2.1
  rcases Nat.eq_zero_or_pos (zgc n par wt w) with e | e
  · unfold zgc at e
    rw [e, e4] at h
    have := Nat.eq_zero_of_zero_dvd h
    omega
  · exact e
/-- one with a number of next ones that is not 0 has a next one -/
theorem zsum_pos {f : Nat → Nat} : ∀ {n : Nat}, zsum f n ≠ 0 → ∃ i, i < n ∧ f i ≠ 0
  | 0, h => absurd rfl h
  | n + 1, h => by
    rcases Nat.eq_zero_or_pos (f n) with e | e
    · have h1 : zsum f n ≠ 0 := fun q => h (by show zsum f n + f n = 0; omega)
      obtain ⟨i, hi, g⟩ := zsum_pos h1
      exact ⟨i, by omega, g⟩
    · exact ⟨n, by omega, by omega⟩
theorem znx_ex {n : Nat} {par : Nat → Nat} {w : Nat} (h : znx n par w ≠ 0) : ∃ c, 0 < c ∧ c < n ∧ par c = w := by
  obtain ⟨i, hi, g⟩ := zsum_pos h
  by_cases q : 0 < i ∧ par i = w
  · exact ⟨i, q.1, hi, q.2⟩
  · rw [if_neg q] at g
    exact absurd rfl g
