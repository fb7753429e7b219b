/-! products; the whole that all sums divide, and its bound -/
def zprod (f : Nat → Nat) : Nat → Nat
  | 0 => 1
  | n + 1 => zprod f n * f n
theorem zprod_pos {f : Nat → Nat} : ∀ {n : Nat}, (∀ i, i < n → 0 < f i) → 0 < zprod f n
  | 0, _ => Nat.one_pos
  | n + 1, h => Nat.mul_pos (zprod_pos (fun i hi => h i (by omega))) (h n (by omega))
theorem zprod_mono {f : Nat → Nat} {n : Nat} : ∀ {k : Nat}, (∀ i, i < n + k → 0 < f i) → zprod f n ≤ zprod f (n + k)
  | 0, _ => Nat.le_refl _
  | k + 1, h => by
    have h1 := zprod_mono (f := f) (n := n) (k := k) (fun i hi => h i (by omega))
    have h2 := h (n + k) (by omega)
    show zprod f n ≤ zprod f (n + k) * f (n + k)
    exact Nat.le_trans h1 (Nat.le_mul_of_pos_right _ h2)
theorem zprod_le {f : Nat → Nat} {m n : Nat} (hm : m ≤ n) (h : ∀ i, i < n → 0 < f i) : zprod f m ≤ zprod f n := by
  obtain ⟨k, rfl⟩ : ∃ k, n = m + k := ⟨n - m, by omega⟩
  exact zprod_mono h
theorem zprod_mul {f g : Nat → Nat} : ∀ {n : Nat}, zprod (fun i => f i * g i) n = zprod f n * zprod g n
  | 0 => rfl
  | n + 1 => by
    show zprod (fun i => f i * g i) n * (f n * g n) = (zprod f n * f n) * (zprod g n * g n)
    rw [zprod_mul]
    simp only [Nat.mul_assoc, Nat.mul_comm, Nat.mul_left_comm]
theorem zprod_congr {f g : Nat → Nat} : ∀ {n : Nat}, (∀ i, i < n → f i = g i) → zprod f n = zprod g n
  | 0, _ => rfl
  | n + 1, h => by
    show zprod f n * f n = zprod g n * g n
    rw [zprod_congr (fun i hi => h i (by omega)), h n (by omega)]
theorem zsum_congr {f g : Nat → Nat} : ∀ {n : Nat}, (∀ i, i < n → f i = g i) → zsum f n = zsum g n
  | 0, _ => rfl
  | n + 1, h => by
    show zsum f n + f n = zsum g n + g n
    rw [zsum_congr (fun i hi => h i (by omega)), h n (by omega)]
theorem zsum_add {f g : Nat → Nat} : ∀ {n : Nat}, zsum (fun i => f i + g i) n = zsum f n + zsum g n
  | 0 => rfl
  | n + 1 => by
    show zsum (fun i => f i + g i) n + (f n + g n) = (zsum f n + f n) + (zsum g n + g n)
    rw [zsum_add]
    omega
theorem zprod_pow {f e : Nat → Nat} {b : Nat} : ∀ {n : Nat}, (∀ i, i < n → f i ≤ b ^ e i) → zprod f n ≤ b ^ zsum e n
  | 0, _ => Nat.le_refl _
  | n + 1, h => by
    show zprod f n * f n ≤ b ^ (zsum e n + e n)
    rw [Nat.pow_add]
    exact Nat.mul_le_mul (zprod_pow (fun i hi => h i (by omega))) (h n (by omega))
/-- each word but the first is next behind one: so many next ones in all -/
theorem znx_all {n : Nat} {par wt ans : Nat → Nat} : ∀ k : Nat, zsum (fun w => znx n par w) k = zsum (fun c => if 0 < c ∧ par c < k then 1 else 0) n
  | 0 => by
    show 0 = _
    rw [zsum_zero]
    intro i _
    exact if_neg (by omega)
  | k + 1 => by
    show zsum (fun w => znx n par w) k + znx n par k = _
    rw [znx_all (wt := wt) (ans := ans) k]
    unfold znx
    rw [← zsum_add]
    refine zsum_congr (fun i _ => ?_)
    by_cases h : 0 < i
    · rcases Nat.lt_trichotomy (par i) k with g | g | g
      · rw [if_pos ⟨h, g⟩, if_neg (by omega), if_pos ⟨h, by omega⟩]
      · rw [if_neg (by omega), if_pos ⟨h, g⟩, if_pos ⟨h, by omega⟩]
      · rw [if_neg (by omega), if_neg (by omega), if_neg (by omega)]
    · rw [if_neg (by omega), if_neg (by omega), if_neg (by omega)]
theorem zone {n : Nat} {f : Nat → Nat} (h0 : f 0 = 0) (h : ∀ i, i < n → f i ≤ 1) : zsum f n ≤ n - 1 := by
  induction n with
  | zero => exact Nat.le_refl _
  | succ n ih =>
    have h1 := ih (fun i hi => h i (by omega))
    have h2 := h n (by omega)
    show zsum f n + f n ≤ n + 1 - 1
    rcases Nat.eq_zero_or_pos n with rfl | g
    · rw [h0]; exact Nat.le_refl _
    · omega
theorem znx_sum {n : Nat} {par wt ans : Nat → Nat} (hV : zVT n par wt ans) : zsum (fun w => znx n par w) n ≤ 23 := by
  rw [znx_all (wt := wt) (ans := ans) n]
  have h := zone (n := n) (f := fun c => if 0 < c ∧ par c < n then 1 else 0) (if_neg (by omega)) (fun i _ => by split <;> omega)
  have := hV.2.1
  omega
/-- one next word alone: its weight is the sum and the divisor -/
theorem znx_one {par wt : Nat → Nat} {w : Nat} (hw : ∀ c, 0 < c → par c = w → 0 < c) : ∀ n : Nat, (znx n par w = 0 → zsum (zwc par wt w) n = 0 ∧ zgcs (zwc par wt w) n = 0) ∧ (znx n par w = 1 → zsum (zwc par wt w) n = zgcs (zwc par wt w) n)
  | 0 => ⟨fun _ => ⟨rfl, rfl⟩, fun _ => rfl⟩
  | n + 1 => by
    obtain ⟨i0, i1⟩ := znx_one (wt := wt) hw n
    have e : znx (n + 1) par w = znx n par w + (if 0 < n ∧ par n = w then 1 else 0) := rfl
    have e1 : zsum (zwc par wt w) (n + 1) = zsum (zwc par wt w) n + zwc par wt w n := rfl
    have e2 : zgcs (zwc par wt w) (n + 1) = Nat.gcd (zwc par wt w n) (zgcs (zwc par wt w) n) := rfl
    by_cases h : 0 < n ∧ par n = w
    · rw [if_pos h] at e
      refine ⟨fun q => absurd q (by omega), fun q => ?_⟩
      obtain ⟨a, b⟩ := i0 (by omega)
      rw [e1, e2, a, b, Nat.gcd_zero_right, Nat.zero_add]
    · rw [if_neg h] at e
      have e3 : zwc par wt w n = 0 := if_neg h
      refine ⟨fun q => ?_, fun q => ?_⟩
      · obtain ⟨a, b⟩ := i0 (by omega)
        rw [e1, e2, a, b, e3]
        exact ⟨rfl, rfl⟩
      · rw [e1, e2, i1 (by omega), e3, Nat.gcd_zero_left, Nat.add_zero]
theorem zwc_cnt {n : Nat} {par wt ans : Nat → Nat} (hV : zVT n par wt ans) {w : Nat} : ∀ k : Nat, k ≤ n → zsum (zwc par wt w) k ≤ 9 * znx k par w
  | 0, _ => Nat.le_refl _
  | k + 1, hk => by
    have h := zwc_cnt hV (w := w) k (by omega)
    have h1 := zwc_le hV (w := w) (i := k) (by omega)
    show zsum (zwc par wt w) k + zwc par wt w k ≤ 9 * (znx k par w + if 0 < k ∧ par k = w then 1 else 0)
    by_cases q : 0 < k ∧ par k = w
    · rw [if_pos q]; omega
    · have e3 : zwc par wt w k = 0 := if_neg q
      rw [if_neg q]; omega
/-- the factor of a word -/
def zfw (n : Nat) (par wt ans : Nat → Nat) (w : Nat) : Nat := if ans w = 0 then zsw n par wt w / zgc n par wt w else 1
theorem zpow18 : ∀ k : Nat, k < 25 → 2 ≤ k → (9 * k) * (9 * k) ≤ 18 ^ k := by decide +kernel
theorem zfw_sq {n : Nat} {par wt ans : Nat → Nat} (hV : zVT n par wt ans) (hW : zWh n par ans) {w : Nat} (hw : w < n) : zfw n par wt ans w * zfw n par wt ans w ≤ 18 ^ znx n par w := by
  unfold zfw
  by_cases h : ans w = 0
  · rw [if_pos h]
    have h1 := hW w hw h
    have hone := (znx_one (par := par) (wt := wt) (w := w) (fun _ h _ => h) n).2
    have hc := zwc_cnt hV (w := w) n (Nat.le_refl _)
    have hl := znx_lt (n := n) (par := par) (w := w) hV.2.1
    rcases Nat.lt_or_ge (znx n par w) 2 with g | g
    · have g1 : znx n par w = 1 := by omega
      have e := hone g1
      have e : zsw n par wt w = zgc n par wt w := e
      obtain ⟨c, c0, c1, c2⟩ := znx_ex h1
      rw [e, Nat.div_self (zgc_pos hV c0 c1 c2), g1]
      decide
    · refine Nat.le_trans ?_ (zpow18 _ (by omega) g)
      have : zsw n par wt w / zgc n par wt w ≤ 9 * znx n par w := Nat.le_trans (Nat.div_le_self _ _) hc
      exact Nat.mul_le_mul this this
  · rw [if_neg h]
    exact Nat.one_le_pow _ _ (by decide)
theorem zfw_pos {n : Nat} {par wt ans : Nat → Nat} (hV : zVT n par wt ans) (hW : zWh n par ans) {w : Nat} (hw : w < n) : 0 < zfw n par wt ans w := by
  unfold zfw
  by_cases h : ans w = 0
  · rw [if_pos h]
    obtain ⟨c, c0, c1, c2⟩ := znx_ex (hW w hw h)
    have hg := zgc_pos hV c0 c1 c2
    refine Nat.div_pos (Nat.le_of_dvd ?_ zgc_dvd) hg
    have h2 := zsum_ge (f := zwc par wt w) c1
    have e4 : zwc par wt w c = wt c := if_pos ⟨c0, c2⟩
    have := (hV.2.2.1 c c0 c1).2.1
    rw [zsw_eq]
    omega
  · rw [if_neg h]
    decide
/-- the whole -/
def zun (n : Nat) (par wt ans : Nat → Nat) : Nat := zprod (zfw n par wt ans) n
theorem zun_lt {n : Nat} {par wt ans : Nat → Nat} (hV : zVT n par wt ans) (hW : zWh n par ans) : zun n par wt ans < 2 ^ 48 := by
  have h : zprod (fun w => zfw n par wt ans w * zfw n par wt ans w) n ≤ 18 ^ zsum (fun w => znx n par w) n := zprod_pow (fun i hi => zfw_sq hV hW hi)
  rw [zprod_mul] at h
  have h2 : 18 ^ zsum (fun w => znx n par w) n ≤ 18 ^ 23 := Nat.pow_le_pow_right (by decide) (znx_sum hV)
  have h3 : (18 : Nat) ^ 23 < 2 ^ 48 * 2 ^ 48 := by decide +kernel
  unfold zun
  rcases Nat.lt_or_ge (zprod (zfw n par wt ans) n) (2 ^ 48) with g | g
  · exact g
  · have := Nat.mul_le_mul g g
    omega
theorem zun_pos {n : Nat} {par wt ans : Nat → Nat} (hV : zVT n par wt ans) (hW : zWh n par ans) : 0 < zun n par wt ans := zprod_pos (fun _ hi => zfw_pos hV hW hi)
