/-! the reference's shares: each is shared out among the next words -/
section
variable {n : Nat} {par wt ans : Nat → Nat}
def zwg (n : Nat) (par wt : Nat → Nat) (c : Nat) : Nat := wt c / zgc n par wt (par c)
theorem zgc_dvd_wt {c : Nat} (h0 : 0 < c) (hc : c < n) : zgc n par wt (par c) ∣ wt c := by
  have h := zgcs_dvd (f := zwc par wt (par c)) hc
  rw [show zwc par wt (par c) c = wt c from if_pos ⟨h0, rfl⟩] at h
  exact h
theorem zwg_mul {c : Nat} (h0 : 0 < c) (hc : c < n) : zwg n par wt c * zgc n par wt (par c) = wt c := Nat.div_mul_cancel (zgc_dvd_wt h0 hc)
theorem zwg_pos (hV : zVT n par wt ans) {c : Nat} (h0 : 0 < c) (hc : c < n) : 0 < zwg n par wt c := by
  have h := zwg_mul (par := par) (wt := wt) h0 hc
  have := (hV.2.2.1 c h0 hc).2.1
  rcases Nat.eq_zero_or_pos (zwg n par wt c) with e | e
  · rw [e, Nat.zero_mul] at h
    omega
  · exact e
/-- the weights without their divisor make the factor -/
theorem zwg_sum (hV : zVT n par wt ans) {w c : Nat} (h0 : 0 < c) (hc : c < n) (hp : par c = w) : zsum (fun c => if 0 < c ∧ par c = w then zwg n par wt c else 0) n = zsw n par wt w / zgc n par wt w := by
  have hg := zgc_pos hV h0 hc hp
  refine (Nat.div_eq_of_eq_mul_left hg ?_).symm
  rw [← zsum_mul, zsw_eq]
  refine zsum_congr (fun i hi => ?_)
  by_cases q : 0 < i ∧ par i = w
  · have h := zwg_mul (par := par) (wt := wt) q.1 hi
    rw [q.2] at h
    show (if 0 < i ∧ par i = w then wt i else 0) = (if 0 < i ∧ par i = w then zwg n par wt i else 0) * zgc n par wt w
    rw [if_pos q, if_pos q, h]
  · show (if 0 < i ∧ par i = w then wt i else 0) = (if 0 < i ∧ par i = w then zwg n par wt i else 0) * zgc n par wt w
    rw [if_neg q, if_neg q, Nat.zero_mul]
/-- the product of the factors behind a word -/
def zPP (n : Nat) (par wt ans : Nat → Nat) (w : Nat) : Nat := zprod (fun e => if zbe par e w = true then zfw n par wt ans e else 1) n
theorem zPP_0 (hV : zVT n par wt ans) : zPP n par wt ans 0 = zun n par wt ans := by
  refine zprod_congr (fun i hi => ?_)
  try dsimp only
  rw [if_pos (zbe_root hV i i (Nat.le_refl _) hi)]
theorem zPP_s (hV : zVT n par wt ans) {c : Nat} (h0 : 0 < c) (hc : c < n) : zfw n par wt ans (par c) * zPP n par wt ans c ∣ zPP n par wt ans (par c) := by
  have hp := (hV.2.2.1 c h0 hc).1
  have h := zprod_part hV (w := par c) (by omega) (zfw n par wt ans)
  have h2 := zprod_dvd (f := fun d => if 0 < d ∧ par d = par c then zPP n par wt ans d else 1) hc
  have h3 : zPP n par wt ans c ∣ zprod (fun d => if 0 < d ∧ par d = par c then zPP n par wt ans d else 1) n := by
    have e : (if 0 < c ∧ par c = par c then zPP n par wt ans c else 1) = zPP n par wt ans c := if_pos ⟨h0, rfl⟩
    try dsimp only at h2
    rw [e] at h2
    exact h2
  show _ ∣ zprod (fun e => if zbe par e (par c) = true then zfw n par wt ans e else 1) n
  rw [h]
  exact Nat.mul_dvd_mul_left _ h3
theorem zPP_dvd (hV : zVT n par wt ans) (hW : zWh n par ans) : ∀ (k w : Nat), w ≤ k → w < n → zPP n par wt ans w ∣ zsh n par wt ans w
  | 0, w, h1, _ => by
    obtain rfl : w = 0 := by omega
    rw [zPP_0 hV]
    exact Nat.dvd_refl _
  | k + 1, w, h1, h2 => by
    rcases Nat.eq_zero_or_pos w with rfl | g
    · rw [zPP_0 hV]
      exact Nat.dvd_refl _
    · have hp := (hV.2.2.1 w g h2).1
      have ih := Nat.dvd_trans (zPP_s hV g h2) (zPP_dvd hV hW k (par w) (by omega) (by omega))
      have hf := zfw_pos hV hW (w := par w) (by omega)
      rw [zsh_s hV g h2]
      refine Nat.dvd_mul_right_of_dvd ?_ _
      obtain ⟨q, hq⟩ := ih
      rw [hq, Nat.mul_assoc, Nat.mul_div_cancel_left _ hf]
      exact Nat.dvd_mul_right _ _
theorem zsh_dvd (hV : zVT n par wt ans) (hW : zWh n par ans) {w : Nat} (hw : w < n) : zfw n par wt ans w ∣ zsh n par wt ans w := by
  refine Nat.dvd_trans ?_ (zPP_dvd hV hW w w (Nat.le_refl _) hw)
  have h := zprod_part hV hw (zfw n par wt ans)
  show _ ∣ zprod (fun e => if zbe par e w = true then zfw n par wt ans e else 1) n
  rw [h]
  exact Nat.dvd_mul_right _ _
/-- a share to its parent's -/
theorem zsh_mul (hV : zVT n par wt ans) (hW : zWh n par ans) {c : Nat} (h0 : 0 < c) (hc : c < n) : zsh n par wt ans c * zfw n par wt ans (par c) = zsh n par wt ans (par c) * zwg n par wt c := by
  have hp := (hV.2.2.1 c h0 hc).1
  rw [zsh_s hV h0 hc]
  show zsh n par wt ans (par c) / zfw n par wt ans (par c) * zwg n par wt c * zfw n par wt ans (par c) = _
  rw [Nat.mul_right_comm, Nat.div_mul_cancel (zsh_dvd hV hW (by omega))]
theorem zsh_pos (hV : zVT n par wt ans) (hW : zWh n par ans) : ∀ (k w : Nat), w ≤ k → w < n → 0 < zsh n par wt ans w
  | 0, w, h1, _ => by
    obtain rfl : w = 0 := by omega
    exact zun_pos hV hW
  | k + 1, w, h1, h2 => by
    rcases Nat.eq_zero_or_pos w with rfl | g
    · exact zun_pos hV hW
    · have hp := (hV.2.2.1 w g h2).1
      have ih := zsh_pos hV hW k (par w) (by omega) (by omega)
      have h := zsh_mul hV hW g h2
      have h3 := Nat.mul_pos ih (zwg_pos hV g h2)
      rcases Nat.eq_zero_or_pos (zsh n par wt ans w) with e | e
      · rw [e, Nat.zero_mul] at h
        omega
      · exact e
theorem zsh_posw (hV : zVT n par wt ans) (hW : zWh n par ans) {w : Nat} (hw : w < n) : 0 < zsh n par wt ans w := zsh_pos hV hW w w (Nat.le_refl _) hw
/-- the shares of the next ones make the share -/
theorem zsh_sum (hV : zVT n par wt ans) (hW : zWh n par ans) {w : Nat} (hw : w < n) (ha : ans w = 0) : zsum (fun c => if 0 < c ∧ par c = w then zsh n par wt ans c else 0) n = zsh n par wt ans w := by
  have hf := zfw_pos hV hW hw
  obtain ⟨d, d0, d1, d2⟩ := znx_ex (hW w hw ha)
  refine Nat.eq_of_mul_eq_mul_right hf ?_
  rw [← zsum_mul]
  have e1 : zsum (fun c => (if 0 < c ∧ par c = w then zsh n par wt ans c else 0) * zfw n par wt ans w) n = zsum (fun c => (if 0 < c ∧ par c = w then zwg n par wt c else 0) * zsh n par wt ans w) n := by
    refine zsum_congr (fun c hc => ?_)
    try dsimp only
    by_cases q : 0 < c ∧ par c = w
    · have h := zsh_mul hV hW q.1 hc
      rw [q.2] at h
      rw [if_pos q, if_pos q, h, Nat.mul_comm]
    · rw [if_neg q, if_neg q, Nat.zero_mul, Nat.zero_mul]
  rw [e1, zsum_mul, zwg_sum hV d0 d1 d2, Nat.mul_comm]
  congr 1
  exact (if_pos ha).symm
/-- an answer's share behind a word: its own, and those behind the next ones -/
theorem zoA_s (hV : zVT n par wt ans) {w a : Nat} (hw : w < n) : zoA n par wt ans w a = (if ¬ ans w = 0 ∧ a = ans w then zsh n par wt ans w else 0) + zsum (fun c => if 0 < c ∧ par c = w then zoA n par wt ans c a else 0) n := by
  have e : ∀ v, zoA n par wt ans v a = zsum (fun e => if zbe par e v = true then (if ¬ ans e = 0 ∧ a = ans e then zsh n par wt ans e else 0) else 0) n := by
    intro v
    refine zsum_congr (fun i hi => ?_)
    unfold zoe
    by_cases q : zbe par i v = true
    · rw [if_pos q]
      by_cases r : ¬ ans i = 0 ∧ a = ans i
      · rw [if_pos r, if_pos ⟨r.1, r.2, q⟩]
      · rw [if_neg r, if_neg (fun z => r ⟨z.1, z.2.1⟩)]
    · rw [if_neg q, if_neg (fun z => q z.2.2)]
  rw [e, zsum_part hV hw]
  congr 1
  refine zsum_congr (fun c _ => ?_)
  try dsimp only
  by_cases q : 0 < c ∧ par c = w
  · rw [if_pos q, if_pos q, e]
  · rw [if_neg q, if_neg q]
/-- no word is next behind an end -/
theorem zend_sum (hV : zVT n par wt ans) {w : Nat} (ha : ¬ ans w = 0) {f : Nat → Nat} : zsum (fun c => if 0 < c ∧ par c = w then f c else 0) n = 0 := by
  refine zsum_zero (fun c hc => if_neg ?_)
  rintro ⟨h0, rfl⟩
  exact ha (hV.2.2.1 c h0 hc).2.2.2.2
/-- all ends behind a word make its share -/
theorem zsh_all (hV : zVT n par wt ans) (hW : zWh n par ans) : ∀ w, w < n → zsum (fun e => if zbe par e w = true then (if ans e = 0 then 0 else zsh n par wt ans e) else 0) n = zsh n par wt ans w := by
  refine zback (fun w hw ih => ?_)
  rw [zsum_part hV hw]
  by_cases ha : ans w = 0
  · rw [if_pos ha, Nat.zero_add]
    refine Eq.trans (zsum_congr (fun c hc => ?_)) (zsh_sum hV hW hw ha)
    try dsimp only
    by_cases q : 0 < c ∧ par c = w
    · have := (hV.2.2.1 c q.1 hc).1
      rw [if_pos q, if_pos q, ih c (by omega) hc]
    · rw [if_neg q, if_neg q]
  · rw [if_neg ha, zend_sum hV ha, Nat.add_zero]
theorem zoA_le (hV : zVT n par wt ans) (hW : zWh n par ans) {w a : Nat} (hw : w < n) : zoA n par wt ans w a ≤ zsh n par wt ans w := by
  rw [← zsh_all hV hW w hw]
  refine zsum_mono (fun e _ => ?_)
  unfold zoe
  by_cases q : zbe par e w = true
  · by_cases r : ans e = 0
    · rw [if_neg (fun z => z.1 r), if_pos q, if_pos r]
      exact Nat.le_refl _
    · rw [if_pos q, if_neg r]
      split <;> omega
  · rw [if_neg (fun z => q z.2.2)]
    exact Nat.zero_le _
theorem zsh_lt (hV : zVT n par wt ans) (hW : zWh n par ans) {w : Nat} (hw : w < n) : zsh n par wt ans w < 2 ^ 48 := Nat.lt_of_le_of_lt (zsh_le hV w w (Nat.le_refl _) hw) (zun_lt hV hW)
theorem zoA_lt (hV : zVT n par wt ans) (hW : zWh n par ans) {w a : Nat} (hw : w < n) : zoA n par wt ans w a < 2 ^ 48 := Nat.lt_of_le_of_lt (zoA_le hV hW hw) (zsh_lt hV hW hw)
end
