/-! the class's numbers: all chances after a word are shares of one whole of its own -/
section
variable {n : Nat} {par wt ans : Nat → Nat}
def zfc (n : Nat) (par wt : Nat → Nat) (w : Nat) : Nat := if znx n par w = 0 then 1 else zsw n par wt w / zgc n par wt w
def zlcs (f : Nat → Nat) : Nat → Nat
  | 0 => 1
  | k + 1 => Nat.lcm (zlcs f k) (f k)
theorem zlcs_congr {f g : Nat → Nat} : ∀ {n : Nat}, (∀ i, i < n → f i = g i) → zlcs f n = zlcs g n
  | 0, _ => rfl
  | n + 1, h => by
    show Nat.lcm (zlcs f n) (f n) = Nat.lcm (zlcs g n) (g n)
    rw [zlcs_congr (fun i hi => h i (by omega)), h n (by omega)]
theorem zlcs_one {f : Nat → Nat} : ∀ {n : Nat}, (∀ i, i < n → f i = 1) → zlcs f n = 1
  | 0, _ => rfl
  | n + 1, h => by
    show Nat.lcm (zlcs f n) (f n) = 1
    rw [zlcs_one (fun i hi => h i (by omega)), h n (by omega)]
    rfl
theorem zlcs_dvd {f : Nat → Nat} : ∀ {n i : Nat}, i < n → f i ∣ zlcs f n
  | 0, _, h => absurd h (Nat.not_lt_zero _)
  | n + 1, i, h => by
    show f i ∣ Nat.lcm (zlcs f n) (f n)
    rcases Nat.lt_or_ge i n with g | g
    · exact Nat.dvd_trans (zlcs_dvd g) (Nat.dvd_lcm_left _ _)
    · obtain rfl : i = n := by omega
      exact Nat.dvd_lcm_right _ _
theorem zlcs_pos {f : Nat → Nat} : ∀ {n : Nat}, (∀ i, i < n → 0 < f i) → 0 < zlcs f n
  | 0, _ => Nat.one_pos
  | n + 1, h => Nat.lcm_pos (zlcs_pos (fun i hi => h i (by omega))) (h n (by omega))
theorem zlcm_le {a b : Nat} (ha : 0 < a) (hb : 0 < b) : Nat.lcm a b ≤ a * b := Nat.le_of_dvd (Nat.mul_pos ha hb) (Nat.lcm_dvd (Nat.dvd_mul_right a b) (Nat.dvd_mul_left b a))
theorem zlcs_le {f : Nat → Nat} : ∀ {n : Nat}, (∀ i, i < n → 0 < f i) → zlcs f n ≤ zprod f n
  | 0, _ => Nat.le_refl _
  | n + 1, h => by
    have h1 := zlcs_pos (f := f) (n := n) (fun i hi => h i (by omega))
    exact Nat.le_trans (zlcm_le h1 (h n (by omega))) (Nat.mul_le_mul_right _ (zlcs_le (fun i hi => h i (by omega))))
theorem zlcs_mono {f : Nat → Nat} (h : ∀ i, 0 < f i) {n : Nat} : ∀ {k : Nat}, zlcs f n ≤ zlcs f (n + k)
  | 0 => Nat.le_refl _
  | k + 1 => by
    have h1 := zlcs_mono h (n := n) (k := k)
    have h2 : zlcs f (n + k) ∣ zlcs f (n + (k + 1)) := Nat.dvd_lcm_left _ _
    exact Nat.le_trans h1 (Nat.le_of_dvd (zlcs_pos (fun i _ => h i)) h2)
def zblF (n : Nat) (par wt : Nat → Nat) (r : Nat → Nat) (w : Nat) : Nat := zfc n par wt w * zlcs (fun c => if 0 < c ∧ par c = w then r c else 1) n
def zbl (n : Nat) (par wt : Nat → Nat) (w : Nat) : Nat := zbk (zblF n par wt) 1 n w
/-- the least common multiple of the next words' numbers -/
def zmc (n : Nat) (par wt : Nat → Nat) (w c : Nat) : Nat := if 0 < c ∧ par c = w then zbl n par wt c else 1
def zml (n : Nat) (par wt : Nat → Nat) (w : Nat) : Nat := zlcs (zmc n par wt w) n
theorem zbl_s (hV : zVT n par wt ans) {w : Nat} (hw : w < n) : zbl n par wt w = zfc n par wt w * zml n par wt w := by
  refine zbk_fix (F := zblF n par wt) (fun r r' v hv h => ?_) hw
  unfold zblF
  rw [zlcs_congr (fun c hc => ?_)]
  by_cases q : 0 < c ∧ par c = v
  · have := (hV.2.2.1 c q.1 hc).1
    rw [if_pos q, if_pos q, h c (by omega) hc]
  · rw [if_neg q, if_neg q]
theorem zfc_pos (hV : zVT n par wt ans) {w : Nat} : 0 < zfc n par wt w := by
  unfold zfc
  by_cases h : znx n par w = 0
  · rw [if_pos h]; decide
  · rw [if_neg h]
    obtain ⟨c, c0, c1, c2⟩ := znx_ex h
    have hg := zgc_pos hV c0 c1 c2
    refine Nat.div_pos (Nat.le_of_dvd ?_ zgc_dvd) hg
    have h2 := zsum_ge (f := zwc par wt w) c1
    have e4 : zwc par wt w c = wt c := if_pos ⟨c0, c2⟩
    have := (hV.2.2.1 c c0 c1).2.1
    rw [zsw_eq]
    omega
theorem zfc_sq (hV : zVT n par wt ans) {w : Nat} : zfc n par wt w * zfc n par wt w ≤ 18 ^ znx n par w := by
  unfold zfc
  by_cases h1 : znx n par w = 0
  · rw [if_pos h1]
    exact Nat.one_le_pow _ _ (by decide)
  · rw [if_neg h1]
    have hone := (znx_one (par := par) (wt := wt) (w := w) (fun _ h _ => h) n).2
    have hc := zwc_cnt hV (w := w) n (Nat.le_refl _)
    have hl := znx_lt (n := n) (par := par) (w := w) hV.2.1
    rcases Nat.lt_or_ge (znx n par w) 2 with g | g
    · have g1 : znx n par w = 1 := by omega
      have e : zsw n par wt w = zgc n par wt w := hone g1
      obtain ⟨c, c0, c1, c2⟩ := znx_ex h1
      rw [e, Nat.div_self (zgc_pos hV c0 c1 c2), g1]
      decide
    · refine Nat.le_trans ?_ (zpow18 _ (by omega) g)
      have : zsw n par wt w / zgc n par wt w ≤ 9 * znx n par w := Nat.le_trans (Nat.div_le_self _ _) hc
      exact Nat.mul_le_mul this this
theorem zbl_pos (hV : zVT n par wt ans) : ∀ w, w < n → 0 < zbl n par wt w := by
  refine zback (fun w hw ih => ?_)
  rw [zbl_s hV hw]
  refine Nat.mul_pos (zfc_pos hV) (zlcs_pos (fun c hc => ?_))
  unfold zmc
  by_cases q : 0 < c ∧ par c = w
  · have := (hV.2.2.1 c q.1 hc).1
    rw [if_pos q]
    exact ih c (by omega) hc
  · rw [if_neg q]; decide
theorem zmc_pos (hV : zVT n par wt ans) {w c : Nat} (hc : c < n) : 0 < zmc n par wt w c := by
  unfold zmc
  split
  · exact zbl_pos hV c hc
  · decide
theorem zml_pos (hV : zVT n par wt ans) {w : Nat} : 0 < zml n par wt w := zlcs_pos (fun _ hc => zmc_pos hV hc)
/-- how many words are behind a word, itself too -/
def zN (n : Nat) (par : Nat → Nat) (w : Nat) : Nat := zsum (fun e => if zbe par e w = true then 1 else 0) n
theorem zN_s (hV : zVT n par wt ans) {w : Nat} (hw : w < n) : zN n par w = 1 + zsum (fun c => if 0 < c ∧ par c = w then zN n par c else 0) n := zsum_part hV hw (fun _ => 1)
theorem zN_pos (hV : zVT n par wt ans) {w : Nat} (hw : w < n) : 1 ≤ zN n par w := by
  rw [zN_s hV hw]
  omega
theorem zN_le {w : Nat} : zN n par w ≤ n := by
  have := zsum_le (f := fun e => if zbe par e w = true then 1 else 0) (b := 1) (n := n) (fun i _ => by split <;> omega)
  unfold zN
  omega
theorem zbl_sq (hV : zVT n par wt ans) : ∀ w, w < n → zbl n par wt w * zbl n par wt w ≤ 18 ^ (zN n par w - 1) := by
  refine zback (fun w hw ih => ?_)
  rw [zbl_s hV hw]
  have h1 : zml n par wt w ≤ zprod (zmc n par wt w) n := zlcs_le (fun _ hc => zmc_pos hV hc)
  have h2 : zprod (fun c => zmc n par wt w c * zmc n par wt w c) n ≤ 18 ^ zsum (fun c => if 0 < c ∧ par c = w then zN n par c - 1 else 0) n := by
    refine zprod_pow (fun c hc => ?_)
    unfold zmc
    by_cases q : 0 < c ∧ par c = w
    · have := (hV.2.2.1 c q.1 hc).1
      rw [if_pos q, if_pos q]
      exact ih c (by omega) hc
    · rw [if_neg q, if_neg q]
      decide
  rw [zprod_mul] at h2
  have h3 : znx n par w + zsum (fun c => if 0 < c ∧ par c = w then zN n par c - 1 else 0) n = zN n par w - 1 := by
    rw [zN_s hV hw, Nat.add_sub_cancel_left]
    unfold znx
    rw [← zsum_add]
    refine zsum_congr (fun c hc => ?_)
    try dsimp only
    by_cases q : 0 < c ∧ par c = w
    · have := zN_pos hV hc
      rw [if_pos q, if_pos q, if_pos q]
      omega
    · rw [if_neg q, if_neg q, if_neg q]
  rw [← h3, Nat.pow_add, Nat.mul_mul_mul_comm]
  exact Nat.mul_le_mul (zfc_sq hV) (Nat.le_trans (Nat.mul_le_mul h1 h1) h2)
theorem zbl_lt (hV : zVT n par wt ans) {w : Nat} (hw : w < n) : zbl n par wt w < 2 ^ 48 := by
  have h := zbl_sq hV w hw
  have h1 : zN n par w ≤ n := zN_le
  have h2 : 18 ^ (zN n par w - 1) ≤ 18 ^ 23 := Nat.pow_le_pow_right (by decide) (by have := hV.2.1; omega)
  have h3 : (18 : Nat) ^ 23 < 2 ^ 48 * 2 ^ 48 := by decide +kernel
  rcases Nat.lt_or_ge (zbl n par wt w) (2 ^ 48) with g | g
  · exact g
  · have := Nat.mul_le_mul g g
    omega
theorem zml_le (hV : zVT n par wt ans) {w : Nat} (hw : w < n) : zml n par wt w ≤ zbl n par wt w := by
  rw [zbl_s hV hw]
  exact Nat.le_mul_of_pos_left _ (zfc_pos hV)
/-- how many shares of its parent one share of a word is -/
def zst (n : Nat) (par wt : Nat → Nat) (c : Nat) : Nat := zwg n par wt c * (zml n par wt (par c) / zbl n par wt c)
theorem zml_dvd {c : Nat} (h0 : 0 < c) (hc : c < n) : zbl n par wt c ∣ zml n par wt (par c) := by
  have h := zlcs_dvd (f := zmc n par wt (par c)) hc
  rw [show zmc n par wt (par c) c = zbl n par wt c from if_pos ⟨h0, rfl⟩] at h
  exact h
theorem zst_mul {c : Nat} (h0 : 0 < c) (hc : c < n) : zst n par wt c * zbl n par wt c = zwg n par wt c * zml n par wt (par c) := by
  unfold zst
  rw [Nat.mul_assoc, Nat.div_mul_cancel (zml_dvd h0 hc)]
theorem zwg_sumc (hV : zVT n par wt ans) {w : Nat} (h : znx n par w ≠ 0) : zsum (fun c => if 0 < c ∧ par c = w then zwg n par wt c else 0) n = zfc n par wt w := by
  obtain ⟨c, c0, c1, c2⟩ := znx_ex h
  rw [zwg_sum hV c0 c1 c2]
  exact (if_neg h).symm
theorem znx_pos {w c : Nat} (h0 : 0 < c) (hc : c < n) (hp : par c = w) : znx n par w ≠ 0 := by
  have h2 := zsum_ge (f := fun c => if 0 < c ∧ par c = w then 1 else 0) hc
  try dsimp only at h2
  rw [if_pos ⟨h0, hp⟩] at h2
  unfold znx
  omega
theorem znx_none {w : Nat} (h : znx n par w = 0) {f : Nat → Nat} : zsum (fun c => if 0 < c ∧ par c = w then f c else 0) n = 0 :=
  zsum_zero (fun c hc => if_neg (fun q => znx_pos q.1 hc q.2 h))
/-- the steps make the whole of a word out of the next ones' -/
theorem zst_sum (hV : zVT n par wt ans) {w : Nat} (hw : w < n) (h : znx n par w ≠ 0) : zsum (fun c => if 0 < c ∧ par c = w then zst n par wt c * zbl n par wt c else 0) n = zbl n par wt w := by
  rw [zbl_s hV hw, ← zwg_sumc hV h, ← zsum_mul]
  refine zsum_congr (fun c hc => ?_)
  try dsimp only
  by_cases q : 0 < c ∧ par c = w
  · have e := zst_mul (par := par) (wt := wt) q.1 hc
    rw [if_pos q, if_pos q, e, q.2]
  · rw [if_neg q, if_neg q, Nat.zero_mul]
theorem zst_le (hV : zVT n par wt ans) {c : Nat} (h0 : 0 < c) (hc : c < n) : zst n par wt c * zbl n par wt c ≤ zbl n par wt (par c) := by
  have hp := (hV.2.2.1 c h0 hc).1
  rw [← zst_sum hV (w := par c) (by omega) (znx_pos h0 hc rfl)]
  have h2 := zsum_ge (f := fun d => if 0 < d ∧ par d = par c then zst n par wt d * zbl n par wt d else 0) hc
  try dsimp only at h2
  rw [if_pos ⟨h0, rfl⟩] at h2
  exact h2
theorem zst_lt (hV : zVT n par wt ans) {c : Nat} (h0 : 0 < c) (hc : c < n) : zst n par wt c < 2 ^ 48 := by
  have hp := (hV.2.2.1 c h0 hc).1
  have h1 := zst_le hV h0 hc
  have h2 := Nat.le_mul_of_pos_right (zst n par wt c) (zbl_pos hV c hc)
  have h3 := zbl_lt hV (w := par c) (by omega)
  omega
def zscF (n : Nat) (par wt ans : Nat → Nat) (a : Nat) (r : Nat → Nat) (w : Nat) : Nat := (if 0 < a ∧ a = ans w then 1 else 0) + zsum (fun c => if 0 < c ∧ par c = w then zst n par wt c * r c else 0) n
/-- the shares of an answer -/
def zsc (n : Nat) (par wt ans : Nat → Nat) (w a : Nat) : Nat := zbk (zscF n par wt ans a) 0 n w
theorem zsc_s (hV : zVT n par wt ans) {w a : Nat} (hw : w < n) : zsc n par wt ans w a = (if 0 < a ∧ a = ans w then 1 else 0) + zsum (fun c => if 0 < c ∧ par c = w then zst n par wt c * zsc n par wt ans c a else 0) n := by
  refine zbk_fix (F := zscF n par wt ans a) (fun r r' v hv h => ?_) hw
  unfold zscF
  rw [zsum_congr (fun c hc => ?_)]
  by_cases q : 0 < c ∧ par c = v
  · have := (hV.2.2.1 c q.1 hc).1
    rw [if_pos q, if_pos q, h c (by omega) hc]
  · rw [if_neg q, if_neg q]
theorem zsc_le (hV : zVT n par wt ans) {a : Nat} : ∀ w, w < n → zsc n par wt ans w a ≤ zbl n par wt w := by
  refine zback (fun w hw ih => ?_)
  rw [zsc_s hV hw]
  by_cases h : znx n par w = 0
  · rw [znx_none h, Nat.add_zero]
    have := zbl_pos hV w hw
    split <;> omega
  · have h0 : ans w = 0 := by
      obtain ⟨c, c0, c1, c2⟩ := znx_ex h
      rw [← c2]
      exact (hV.2.2.1 c c0 c1).2.2.2.2
    rw [if_neg (by omega), Nat.zero_add, ← zst_sum hV hw h]
    refine zsum_mono (fun c hc => ?_)
    by_cases q : 0 < c ∧ par c = w
    · have := (hV.2.2.1 c q.1 hc).1
      rw [if_pos q, if_pos q]
      exact Nat.mul_le_mul_left _ (ih c (by omega) hc)
    · rw [if_neg q, if_neg q]
      exact Nat.le_refl _
def zfrF (n : Nat) (par wt ans : Nat → Nat) (a : Nat) (r : Nat → Nat) (w : Nat) : Nat := zsum (fun c => if 0 < c ∧ par c = w then zst n par wt c * (r c + zsc n par wt ans c a) else 0) n
/-- shares, each times the words still to come -/
def zfr (n : Nat) (par wt ans : Nat → Nat) (w a : Nat) : Nat := zbk (zfrF n par wt ans a) 0 n w
theorem zfr_s (hV : zVT n par wt ans) {w a : Nat} (hw : w < n) : zfr n par wt ans w a = zsum (fun c => if 0 < c ∧ par c = w then zst n par wt c * (zfr n par wt ans c a + zsc n par wt ans c a) else 0) n := by
  refine zbk_fix (F := zfrF n par wt ans a) (fun r r' v hv h => ?_) hw
  unfold zfrF
  rw [zsum_congr (fun c hc => ?_)]
  by_cases q : 0 < c ∧ par c = v
  · have := (hV.2.2.1 c q.1 hc).1
    rw [if_pos q, if_pos q, h c (by omega) hc]
  · rw [if_neg q, if_neg q]
theorem zfr_le (hV : zVT n par wt ans) {a : Nat} : ∀ w, w < n → zfr n par wt ans w a ≤ zbl n par wt w * (n - w) := by
  refine zback (fun w hw ih => ?_)
  rw [zfr_s hV hw]
  by_cases h : znx n par w = 0
  · rw [znx_none h]
    exact Nat.zero_le _
  · rw [← zst_sum hV hw h, ← zsum_mul]
    refine zsum_mono (fun c hc => ?_)
    by_cases q : 0 < c ∧ par c = w
    · have hlt := (hV.2.2.1 c q.1 hc).1
      rw [if_pos q, if_pos q, Nat.mul_assoc]
      refine Nat.mul_le_mul_left _ ?_
      have h1 := ih c (by omega) hc
      have h2 := zsc_le hV (a := a) c hc
      have h3 : zbl n par wt c * (n - c + 1) ≤ zbl n par wt c * (n - w) := Nat.mul_le_mul_left _ (by omega)
      rw [Nat.mul_add, Nat.mul_one] at h3
      omega
    · rw [if_neg q, if_neg q, Nat.zero_mul]
      exact Nat.le_refl _
theorem zfr_lt (hV : zVT n par wt ans) {w a : Nat} (hw : w < n) : zfr n par wt ans w a < 2 ^ 53 := by
  have h := zfr_le hV (a := a) w hw
  have h1 := zbl_lt hV hw
  have h2 := hV.2.1
  have h3 : zbl n par wt w * (n - w) ≤ zbl n par wt w * 24 := Nat.mul_le_mul_left _ (by omega)
  omega
/-- how many shares of word 0 one share of a word is -/
def ztm (n : Nat) (par wt : Nat → Nat) (w : Nat) : Nat := zfd par (fun x c => x * zst n par wt c) 1 w w
theorem ztm_0 : ztm n par wt 0 = 1 := rfl
theorem ztm_s (hV : zVT n par wt ans) {w : Nat} (h0 : 0 < w) (hw : w < n) : ztm n par wt w = ztm n par wt (par w) * zst n par wt w := zfd_s (fun i a b => (hV.2.2.1 i a b).1) h0 hw
theorem ztm_le (hV : zVT n par wt ans) : ∀ (k w : Nat), w ≤ k → w < n → ztm n par wt w * zbl n par wt w ≤ zbl n par wt 0
  | 0, w, h1, _ => by
    obtain rfl : w = 0 := by omega
    rw [ztm_0, Nat.one_mul]
    exact Nat.le_refl _
  | k + 1, w, h1, h2 => by
    rcases Nat.eq_zero_or_pos w with rfl | g
    · rw [ztm_0, Nat.one_mul]
      exact Nat.le_refl _
    · have hp := (hV.2.2.1 w g h2).1
      have ih := ztm_le hV k (par w) (by omega) (by omega)
      rw [ztm_s hV g h2, Nat.mul_assoc]
      exact Nat.le_trans (Nat.mul_le_mul_left _ (zst_le hV g h2)) ih
theorem ztm_lt (hV : zVT n par wt ans) {w : Nat} (hw : w < n) : ztm n par wt w < 2 ^ 48 := by
  have h1 := ztm_le hV w w (Nat.le_refl _) hw
  have h2 := Nat.le_mul_of_pos_right (ztm n par wt w) (zbl_pos hV w hw)
  have h3 := zbl_lt hV (w := 0) hV.1
  omega
def zwlen (par : Nat → Nat) (w : Nat) : Nat := zfd par (fun x _ => x + 1) 0 w w
theorem zlen_s (hV : zVT n par wt ans) {w : Nat} (h0 : 0 < w) (hw : w < n) : zwlen par w = zwlen par (par w) + 1 := zfd_s (fun i a b => (hV.2.2.1 i a b).1) h0 hw
theorem zlen_0 : zwlen par 0 = 0 := rfl
theorem zlen_le (hV : zVT n par wt ans) : ∀ (k w : Nat), w ≤ k → w < n → zwlen par w ≤ w
  | 0, w, h1, _ => by
    obtain rfl : w = 0 := by omega
    exact Nat.le_refl _
  | k + 1, w, h1, h2 => by
    rcases Nat.eq_zero_or_pos w with rfl | g
    · exact Nat.le_refl _
    · have hp := (hV.2.2.1 w g h2).1
      have ih := zlen_le hV k (par w) (by omega) (by omega)
      rw [zlen_s hV g h2]
      omega
theorem zlen_up (hV : zVT n par wt ans) : ∀ (k e w : Nat), e ≤ k → e < n → zbe par e w = true → zwlen par w ≤ zwlen par e
  | 0, e, w, h1, h2, h => by
    have := zbe_le hV 0 e w h1 h2 h
    obtain rfl : e = 0 := by omega
    obtain rfl : w = 0 := by omega
    exact Nat.le_refl _
  | k + 1, e, w, h1, h2, h => by
    rcases Nat.eq_zero_or_pos e with rfl | g
    · have := zbe_le hV 0 0 w (Nat.le_refl _) h2 h
      obtain rfl : w = 0 := by omega
      exact Nat.le_refl _
    · have hp := (hV.2.2.1 e g h2).1
      rw [zbe_s hV g h2] at h
      rcases Bool.or_eq_true _ _ ▸ h with q | q
      · rw [eq_of_beq q]
        exact Nat.le_refl _
      · have := zlen_up hV k (par e) w (by omega) (by omega) q
        rw [zlen_s hV g h2]
        omega
end
