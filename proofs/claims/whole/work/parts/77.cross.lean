/-! the class's shares and the reference's are like fractions -/
section
variable {n : Nat} {par wt ans : Nat → Nat}
theorem zend_nx (hV : zVT n par wt ans) {w : Nat} (ha : ¬ ans w = 0) : znx n par w = 0 := by
  rcases Nat.eq_zero_or_pos (znx n par w) with e | e
  · exact e
  · obtain ⟨c, c0, c1, c2⟩ := znx_ex (n := n) (par := par) (w := w) (by omega)
    exact absurd (c2 ▸ (hV.2.2.1 c c0 c1).2.2.2.2) ha
theorem zfc_eq (hV : zVT n par wt ans) (hW : zWh n par ans) {w : Nat} (hw : w < n) : zfc n par wt w = zfw n par wt ans w := by
  unfold zfc zfw
  by_cases h : ans w = 0
  · rw [if_neg (hW w hw h), if_pos h]
  · rw [if_pos (zend_nx hV h), if_neg h]
/-- one step of a word to its parent, in shares of both kinds -/
theorem zcr4 (hV : zVT n par wt ans) (hW : zWh n par ans) {c : Nat} (h0 : 0 < c) (hc : c < n) : zst n par wt c * zbl n par wt c * zsh n par wt ans (par c) = zsh n par wt ans c * zbl n par wt (par c) := by
  have hp := (hV.2.2.1 c h0 hc).1
  rw [zst_mul h0 hc, zbl_s hV (w := par c) (by omega), zfc_eq hV hW (w := par c) (by omega), ← Nat.mul_assoc, zsh_mul hV hW h0 hc]
  simp only [Nat.mul_assoc, Nat.mul_comm, Nat.mul_left_comm]
/-- from a next word to the word -/
theorem zcrS (hV : zVT n par wt ans) (hW : zWh n par ans) {c x y : Nat} (h0 : 0 < c) (hc : c < n) (h : x * zbl n par wt c = y * zsh n par wt ans c) : x * zbl n par wt (par c) = zst n par wt c * y * zsh n par wt ans (par c) := by
  have h4 := zcr4 hV hW h0 hc
  refine Nat.eq_of_mul_eq_mul_right (zbl_pos hV c hc) ?_
  rw [Nat.mul_right_comm, h, show zst n par wt c * y * zsh n par wt ans (par c) * zbl n par wt c = y * (zst n par wt c * zbl n par wt c * zsh n par wt ans (par c)) by simp only [Nat.mul_assoc, Nat.mul_comm, Nat.mul_left_comm], h4, Nat.mul_assoc]
theorem zbl_end (hV : zVT n par wt ans) {w : Nat} (hw : w < n) (ha : ¬ ans w = 0) : zbl n par wt w = 1 := by
  have h := zend_nx hV ha
  rw [zbl_s hV hw]
  unfold zfc zml
  rw [if_pos h, zlcs_one]
  intro c hc
  refine if_neg (fun q => ?_)
  exact znx_pos q.1 hc q.2 h
theorem zcr1 (hV : zVT n par wt ans) (hW : zWh n par ans) {a : Nat} (ha : 0 < a) : ∀ w, w < n → zoA n par wt ans w a * zbl n par wt w = zsc n par wt ans w a * zsh n par wt ans w := by
  refine zback (fun w hw ih => ?_)
  rw [zoA_s hV hw, zsc_s hV hw, Nat.add_mul, Nat.add_mul]
  congr 1
  · by_cases q : a = ans w
    · rw [if_pos ⟨by omega, q⟩, if_pos ⟨ha, q⟩, zbl_end hV hw (by omega), Nat.one_mul, Nat.mul_one]
    · rw [if_neg (fun z => q z.2), if_neg (fun z => q z.2), Nat.zero_mul, Nat.zero_mul]
  · rw [← zsum_mul, ← zsum_mul]
    refine zsum_congr (fun c hc => ?_)
    try dsimp only
    by_cases q : 0 < c ∧ par c = w
    · have hlt := (hV.2.2.1 c q.1 hc).1
      have e := zcrS hV hW q.1 hc (ih c (by omega) hc)
      rw [if_pos q, if_pos q, ← q.2]
      exact e
    · rw [if_neg q, if_neg q, Nat.zero_mul, Nat.zero_mul]
theorem zcr2 (hV : zVT n par wt ans) (hW : zWh n par ans) : ∀ (k w : Nat), w ≤ k → w < n → ztm n par wt w * zbl n par wt w * zun n par wt ans = zsh n par wt ans w * zbl n par wt 0
  | 0, w, h1, _ => by
    obtain rfl : w = 0 := by omega
    rw [ztm_0, Nat.one_mul, zsh_0, Nat.mul_comm]
  | k + 1, w, h1, h2 => by
    rcases Nat.eq_zero_or_pos w with rfl | g
    · rw [ztm_0, Nat.one_mul, zsh_0, Nat.mul_comm]
    · have hp := (hV.2.2.1 w g h2).1
      have ih := zcr2 hV hW k (par w) (by omega) (by omega)
      have h4 := zcr4 hV hW g h2
      refine Nat.eq_of_mul_eq_mul_right (Nat.mul_pos (zbl_pos hV (par w) (by omega)) (zsh_posw hV hW (w := par w) (by omega))) ?_
      rw [ztm_s hV g h2]
      calc ztm n par wt (par w) * zst n par wt w * zbl n par wt w * zun n par wt ans * (zbl n par wt (par w) * zsh n par wt ans (par w))
          = (ztm n par wt (par w) * zbl n par wt (par w) * zun n par wt ans) * (zst n par wt w * zbl n par wt w * zsh n par wt ans (par w)) := by simp only [Nat.mul_assoc, Nat.mul_comm, Nat.mul_left_comm]
        _ = (zsh n par wt ans (par w) * zbl n par wt 0) * (zsh n par wt ans w * zbl n par wt (par w)) := by rw [ih, h4]
        _ = _ := by simp only [Nat.mul_assoc, Nat.mul_comm, Nat.mul_left_comm]
/-- an end's times to its share -/
theorem zcrT (hV : zVT n par wt ans) (hW : zWh n par ans) {e : Nat} (he : e < n) (ha : ¬ ans e = 0) : ztm n par wt e * zun n par wt ans = zsh n par wt ans e * zbl n par wt 0 := by
  have h := zcr2 hV hW e e (Nat.le_refl _) he
  rw [zbl_end hV he ha, Nat.mul_one] at h
  exact h
/-- an answer's shares behind a word, each times the words still to come -/
def zFr (n : Nat) (par wt ans : Nat → Nat) (w a : Nat) : Nat := zsum (fun e => if zbe par e w = true then (if ¬ ans e = 0 ∧ a = ans e then zsh n par wt ans e * (zwlen par e - zwlen par w) else 0) else 0) n
theorem zFr_s (hV : zVT n par wt ans) {w a : Nat} (hw : w < n) : zFr n par wt ans w a = zsum (fun c => if 0 < c ∧ par c = w then zFr n par wt ans c a + zoA n par wt ans c a else 0) n := by
  unfold zFr
  rw [zsum_part hV hw, Nat.sub_self, Nat.mul_zero]
  rw [show (if ¬ ans w = 0 ∧ a = ans w then 0 else 0) = 0 from ite_self 0, Nat.zero_add]
  refine zsum_congr (fun c hc => ?_)
  try dsimp only
  by_cases q : 0 < c ∧ par c = w
  · rw [if_pos q, if_pos q]
    unfold zoA
    rw [← zsum_add]
    refine zsum_congr (fun e he => ?_)
    try dsimp only
    unfold zoe
    by_cases r : zbe par e c = true
    · have h1 := zlen_up hV e e c (Nat.le_refl _) he r
      have h2 := zlen_s hV q.1 hc
      rw [q.2] at h2
      rw [if_pos r, if_pos r]
      by_cases t : ¬ ans e = 0 ∧ a = ans e
      · rw [if_pos t, if_pos t, if_pos ⟨t.1, t.2, r⟩, show zwlen par e - zwlen par w = (zwlen par e - zwlen par c) + 1 by omega, Nat.mul_add, Nat.mul_one]
      · rw [if_neg t, if_neg t, if_neg (fun z => t ⟨z.1, z.2.1⟩)]
    · rw [if_neg r, if_neg r, if_neg (fun z => r z.2.2)]
  · rw [if_neg q, if_neg q]
theorem zcrF (hV : zVT n par wt ans) (hW : zWh n par ans) {a : Nat} (ha : 0 < a) : ∀ w, w < n → zFr n par wt ans w a * zbl n par wt w = zfr n par wt ans w a * zsh n par wt ans w := by
  refine zback (fun w hw ih => ?_)
  rw [zFr_s hV hw, zfr_s hV hw, ← zsum_mul, ← zsum_mul]
  refine zsum_congr (fun c hc => ?_)
  try dsimp only
  by_cases q : 0 < c ∧ par c = w
  · have hlt := (hV.2.2.1 c q.1 hc).1
    have h1 := ih c (by omega) hc
    have h2 := zcr1 hV hW ha c hc
    have e := zcrS hV hW (x := zFr n par wt ans c a + zoA n par wt ans c a) (y := zfr n par wt ans c a + zsc n par wt ans c a) q.1 hc (by rw [Nat.add_mul, Nat.add_mul, h1, h2])
    rw [if_pos q, if_pos q, ← q.2]
    exact e
  · rw [if_neg q, if_neg q, Nat.zero_mul, Nat.zero_mul]
/-- the guesses are the same -/
theorem zgs_cross (hV : zVT n par wt ans) (hW : zWh n par ans) {w s : Nat} (hw : w < n) : zgs (zoA n par wt ans w) s = zgs (zsc n par wt ans w) s :=
  zgs_scale (zbl_pos hV w hw) (zsh_posw hV hW hw) (fun _ ha _ => zcr1 hV hW ha w hw)
/-- least terms of like fractions -/
theorem zleast {a b c d : Nat} (hb : 0 < b) (hd : 0 < d) (h : a * d = c * b) : a / Nat.gcd a b = c / Nat.gcd c d ∧ b / Nat.gcd a b = d / Nat.gcd c d := by
  have g1 : 0 < Nat.gcd a b := Nat.gcd_pos_of_pos_right _ hb
  have g2 : 0 < Nat.gcd c d := Nat.gcd_pos_of_pos_right _ hd
  obtain ⟨a', ha⟩ := Nat.gcd_dvd_left a b
  obtain ⟨b', hb'⟩ := Nat.gcd_dvd_right a b
  obtain ⟨c', hc⟩ := Nat.gcd_dvd_left c d
  obtain ⟨d', hd'⟩ := Nat.gcd_dvd_right c d
  have k1 : Nat.gcd a' b' = 1 := by
    have := Nat.gcd_mul_left (Nat.gcd a b) a' b'
    rw [← ha, ← hb'] at this
    exact Nat.eq_of_mul_eq_mul_left g1 (by rw [← this, Nat.mul_one])
  have k2 : Nat.gcd c' d' = 1 := by
    have := Nat.gcd_mul_left (Nat.gcd c d) c' d'
    rw [← hc, ← hd'] at this
    exact Nat.eq_of_mul_eq_mul_left g2 (by rw [← this, Nat.mul_one])
  have e1 : a / Nat.gcd a b = a' := Nat.div_eq_of_eq_mul_right g1 ha
  have e2 : b / Nat.gcd a b = b' := Nat.div_eq_of_eq_mul_right g1 hb'
  have e3 : c / Nat.gcd c d = c' := Nat.div_eq_of_eq_mul_right g2 hc
  have e4 : d / Nat.gcd c d = d' := Nat.div_eq_of_eq_mul_right g2 hd'
  rw [e1, e2, e3, e4]
  have h2 : a' * d' = c' * b' := by
    refine Nat.eq_of_mul_eq_mul_left (Nat.mul_pos g1 g2) ?_
    calc Nat.gcd a b * Nat.gcd c d * (a' * d') = (Nat.gcd a b * a') * (Nat.gcd c d * d') := by simp only [Nat.mul_assoc, Nat.mul_comm, Nat.mul_left_comm]
      _ = a * d := by rw [← ha, ← hd']
      _ = c * b := h
      _ = (Nat.gcd c d * c') * (Nat.gcd a b * b') := by rw [← hc, ← hb']
      _ = _ := by simp only [Nat.mul_assoc, Nat.mul_comm, Nat.mul_left_comm]
  have b0 : 0 < b' := Nat.pos_of_ne_zero (fun z => by rw [z, Nat.mul_zero] at hb'; omega)
  have d1 : b' ∣ d' := (show Nat.Coprime b' a' from Nat.Coprime.symm k1).dvd_of_dvd_mul_left (by rw [h2]; exact Nat.dvd_mul_left _ _)
  have d2 : d' ∣ b' := (show Nat.Coprime d' c' from Nat.Coprime.symm k2).dvd_of_dvd_mul_left (by rw [← h2]; exact Nat.dvd_mul_left _ _)
  have e5 : b' = d' := Nat.dvd_antisymm d1 d2
  refine ⟨?_, e5⟩
  rw [← e5] at h2
  exact Nat.eq_of_mul_eq_mul_right b0 h2
end
