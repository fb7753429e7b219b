/-! one alone: what words are worth to it, by the reference's shares and by the class's -/
def zSm (f : Nat → Int) (n : Nat) : Int := zop (· + ·) 0 f n
theorem zSm_s {f : Nat → Int} {n : Nat} : zSm f (n + 1) = zSm f n + f n := rfl
theorem zSm_congr {f g : Nat → Int} {n : Nat} (h : ∀ i, i < n → f i = g i) : zSm f n = zSm g n := zop_congr h
theorem zSm_zero {f : Nat → Int} {n : Nat} (h : ∀ i, i < n → f i = 0) : zSm f n = 0 := zop_u Int.add_zero h
theorem zSm_add {f g : Nat → Int} {n : Nat} : zSm (fun i => f i + g i) n = zSm f n + zSm g n := zop_op Int.add_assoc Int.add_comm Int.add_zero
theorem zSm_mul {f : Nat → Int} {k : Int} : ∀ {n : Nat}, zSm (fun i => f i * k) n = zSm f n * k
  | 0 => (Int.zero_mul k).symm
  | n + 1 => by
    rw [zSm_s, zSm_s, zSm_mul, Int.add_mul]
theorem zSm_nat {f : Nat → Nat} : ∀ {n : Nat}, zSm (fun i => (f i : Int)) n = ((zsum f n : Nat) : Int)
  | 0 => rfl
  | n + 1 => by
    rw [zSm_s, zSm_nat]
    show _ = ((zsum f n + f n : Nat) : Int)
    omega
theorem zSm_abs {f : Nat → Int} {g : Nat → Nat} : ∀ {n : Nat}, (∀ i, i < n → (f i).natAbs ≤ g i) → (zSm f n).natAbs ≤ zsum g n
  | 0, _ => Nat.le_refl _
  | n + 1, h => by
    have h1 := zSm_abs (f := f) (g := g) (n := n) (fun i hi => h i (by omega))
    have h2 := h n (by omega)
    rw [zSm_s]
    show _ ≤ zsum g n + g n
    omega
section
variable {n : Nat} {par wt ans : Nat → Nat}
/-- pressing with this guess, in shares of the reference, of the class -/
def zpm (n : Nat) (par wt ans pt : Nat → Nat) (w g : Nat) : Int := (pt 0 : Int) * zoA n par wt ans w g + (pt 2 : Int) * zFr n par wt ans w g - (pt 1 : Int) * ((zsh n par wt ans w : Int) - zoA n par wt ans w g)
def zpc (n : Nat) (par wt ans pt : Nat → Nat) (w g : Nat) : Int := (pt 0 : Int) * zsc n par wt ans w g + (pt 2 : Int) * zfr n par wt ans w g - (pt 1 : Int) * ((zbl n par wt w : Int) - zsc n par wt ans w g)
theorem zpm_zpc (hV : zVT n par wt ans) (hW : zWh n par ans) {pt : Nat → Nat} {w g : Nat} (hw : w < n) (hg : 0 < g) : zpm n par wt ans pt w g * zbl n par wt w = zpc n par wt ans pt w g * zsh n par wt ans w := by
  have h1 := zcr1 hV hW hg w hw
  have h2 := zcrF hV hW hg w hw
  have h1' : (zoA n par wt ans w g : Int) * zbl n par wt w = (zsc n par wt ans w g : Int) * zsh n par wt ans w := by exact_mod_cast h1
  have h2' : (zFr n par wt ans w g : Int) * zbl n par wt w = (zfr n par wt ans w g : Int) * zsh n par wt ans w := by exact_mod_cast h2
  unfold zpm zpc
  rw [Int.sub_mul, Int.add_mul, Int.mul_assoc, h1', Int.mul_assoc, h2', Int.mul_assoc, Int.sub_mul, h1', Int.sub_mul, Int.add_mul, Int.mul_assoc, Int.mul_assoc, Int.mul_assoc, Int.sub_mul, Int.mul_comm (zsh n par wt ans w : Int) (zbl n par wt w : Int)]
/-- waiting -/
def zwt (n : Nat) (par : Nat → Nat) (m : Nat → Nat) (r : Nat → Int) (w : Nat) : Int := zSm (fun c => if 0 < c ∧ par c = w then (m c : Int) * r c else 0) n
/-- whether it presses; gu: the guesses, pr: what pressing brings -/
def zPa (n : Nat) (par : Nat → Nat) (m gu : Nat → Nat) (pr : Nat → Int) (r : Nat → Int) (w : Nat) : Bool := decide (0 < w ∧ gu w ≠ 0 ∧ zwt n par m r w ≤ pr w)
def zvF (n : Nat) (par : Nat → Nat) (m gu : Nat → Nat) (pr : Nat → Int) (r : Nat → Int) (w : Nat) : Int := if zPa n par m gu pr r w = true then pr w else zwt n par m r w
/-- the value -/
def zva (n : Nat) (par : Nat → Nat) (m gu : Nat → Nat) (pr : Nat → Int) (w : Nat) : Int := zbk (zvF n par m gu pr) 0 n w
theorem zwt_eq (hV : zVT n par wt ans) {m : Nat → Nat} {r r' : Nat → Int} {w : Nat} (h : ∀ c, w < c → c < n → r c = r' c) : zwt n par m r w = zwt n par m r' w := by
  refine zSm_congr (fun c hc => ?_)
  by_cases q : 0 < c ∧ par c = w
  · have := (hV.2.2.1 c q.1 hc).1
    rw [if_pos q, if_pos q, h c (by omega) hc]
  · rw [if_neg q, if_neg q]
theorem zva_s (hV : zVT n par wt ans) {m gu : Nat → Nat} {pr : Nat → Int} {w : Nat} (hw : w < n) : zva n par m gu pr w = zvF n par m gu pr (zva n par m gu pr) w := by
  refine zbk_fix (F := zvF n par m gu pr) (fun r r' v hv h => ?_) hw
  unfold zvF zPa
  rw [zwt_eq hV h]
theorem zint_cancel {a b k : Int} (hk : 0 < k) (h : a * k = b * k) : a = b := Int.eq_of_mul_eq_mul_right (by omega) h
/-- like shares: the same words, like values -/
theorem zva_cross (hV : zVT n par wt ans) (hW : zWh n par ans) {gu : Nat → Nat} {p1 p2 : Nat → Int} (hp : ∀ w, w < n → 0 < w → gu w ≠ 0 → p1 w * zbl n par wt w = p2 w * zsh n par wt ans w) : ∀ w, w < n → zva n par (fun _ => 1) gu p1 w * zbl n par wt w = zva n par (zst n par wt) gu p2 w * zsh n par wt ans w ∧ zPa n par (fun _ => 1) gu p1 (zva n par (fun _ => 1) gu p1) w = zPa n par (zst n par wt) gu p2 (zva n par (zst n par wt) gu p2) w := by
  refine zback (fun w hw ih => ?_)
  have hb : (0 : Int) < zbl n par wt w := by have := zbl_pos hV w hw; omega
  have hs : (0 : Int) < zsh n par wt ans w := by have := zsh_posw hV hW hw; omega
  have e1 : zwt n par (fun _ => 1) (zva n par (fun _ => 1) gu p1) w * zbl n par wt w = zwt n par (zst n par wt) (zva n par (zst n par wt) gu p2) w * zsh n par wt ans w := by
    unfold zwt
    rw [← zSm_mul, ← zSm_mul]
    refine zSm_congr (fun c hc => ?_)
    try dsimp only
    by_cases q : 0 < c ∧ par c = w
    · have hlt := (hV.2.2.1 c q.1 hc).1
      have hi := (ih c (by omega) hc).1
      have h4 := zcr4 hV hW q.1 hc
      rw [q.2] at h4
      have h4' : (zst n par wt c : Int) * zbl n par wt c * zsh n par wt ans w = (zsh n par wt ans c : Int) * zbl n par wt w := by exact_mod_cast h4
      have hbc : (0 : Int) < zbl n par wt c := by have := zbl_pos hV c hc; omega
      rw [if_pos q, if_pos q]
      refine zint_cancel hbc ?_
      generalize zva n par (fun _ => 1) gu p1 c = x at hi ⊢
      generalize zva n par (zst n par wt) gu p2 c = y at hi ⊢
      generalize (zbl n par wt c : Int) = bc at hi h4' ⊢
      generalize (zbl n par wt w : Int) = bw at h4' ⊢
      generalize (zsh n par wt ans c : Int) = sc at hi h4' ⊢
      generalize (zsh n par wt ans w : Int) = sw at h4' ⊢
      generalize (zst n par wt c : Int) = t at h4' ⊢
      calc ((1 : Nat) : Int) * x * bw * bc = (x * bc) * bw := by
            show (1 : Int) * x * bw * bc = _
            rw [Int.one_mul, Int.mul_right_comm]
        _ = (y * sc) * bw := by rw [hi]
        _ = y * (sc * bw) := Int.mul_assoc _ _ _
        _ = y * (t * bc * sw) := by rw [h4']
        _ = t * y * sw * bc := by simp only [Int.mul_assoc, Int.mul_comm, Int.mul_left_comm]
    · rw [if_neg q, if_neg q, Int.zero_mul, Int.zero_mul]
  have e2 : zPa n par (fun _ => 1) gu p1 (zva n par (fun _ => 1) gu p1) w = zPa n par (zst n par wt) gu p2 (zva n par (zst n par wt) gu p2) w := by
    unfold zPa
    refine decide_eq_decide.mpr ?_
    refine and_congr_right (fun g1 => and_congr_right (fun g2 => ?_))
    have h3 := hp w hw g1 g2
    rw [← Int.mul_le_mul_right hb, e1, h3, Int.mul_le_mul_right hs]
  refine ⟨?_, e2⟩
  rw [zva_s hV hw, zva_s hV hw]
  unfold zvF
  rw [e2]
  by_cases q : zPa n par (zst n par wt) gu p2 (zva n par (zst n par wt) gu p2) w = true
  · rw [if_pos q, if_pos q]
    unfold zPa at q
    have q2 := of_decide_eq_true q
    exact hp w hw q2.1 q2.2.1
  · rw [if_neg q, if_neg q]
    exact e1
/-- bounds -/
theorem zva_abs (hV : zVT n par wt ans) {m gu b : Nat → Nat} {pr : Nat → Int} {K : Nat} (hp : ∀ w, w < n → gu w ≠ 0 → (pr w).natAbs ≤ K * b w) (hb : ∀ w, w < n → zsum (fun c => if 0 < c ∧ par c = w then m c * b c else 0) n ≤ b w) : ∀ w, w < n → (zwt n par m (zva n par m gu pr) w).natAbs ≤ K * b w ∧ (zva n par m gu pr w).natAbs ≤ K * b w := by
  refine zback (fun w hw ih => ?_)
  have e1 : (zwt n par m (zva n par m gu pr) w).natAbs ≤ K * b w := by
    have h1 : (zwt n par m (zva n par m gu pr) w).natAbs ≤ zsum (fun c => (if 0 < c ∧ par c = w then m c * b c else 0) * K) n := by
      refine zSm_abs (fun c hc => ?_)
      by_cases q : 0 < c ∧ par c = w
      · have hlt := (hV.2.2.1 c q.1 hc).1
        have hi := (ih c (by omega) hc).2
        rw [if_pos q, if_pos q, Int.natAbs_mul, Int.natAbs_natCast, Nat.mul_assoc, Nat.mul_comm (b c) K]
        exact Nat.mul_le_mul_left _ hi
      · rw [if_neg q]
        exact Nat.zero_le _
    rw [zsum_mul] at h1
    refine Nat.le_trans h1 ?_
    rw [Nat.mul_comm]
    exact Nat.mul_le_mul_left _ (hb w hw)
  refine ⟨e1, ?_⟩
  rw [zva_s hV hw]
  unfold zvF
  by_cases q : zPa n par m gu pr (zva n par m gu pr) w = true
  · rw [if_pos q]
    unfold zPa at q
    exact hp w hw (of_decide_eq_true q).2.1
  · rw [if_neg q]
    exact e1
theorem zFr_le (hV : zVT n par wt ans) (hW : zWh n par ans) {w a : Nat} (hw : w < n) (ha : 0 < a) : zFr n par wt ans w a ≤ 24 * zsh n par wt ans w := by
  have h := zcrF hV hW ha w hw
  have h1 := zfr_le hV (a := a) w hw
  have hb := zbl_pos hV w hw
  have hn := hV.2.1
  refine Nat.le_of_mul_le_mul_right ?_ hb
  rw [h]
  refine Nat.le_trans (Nat.mul_le_mul_right _ h1) ?_
  rw [Nat.mul_assoc, Nat.mul_comm]
  refine Nat.mul_le_mul_right _ ?_
  exact Nat.mul_le_mul_right _ (by omega)
def zVQ (pt : Nat → Nat) : Prop := pt 0 ≤ 20 ∧ pt 1 ≤ 20 ∧ pt 2 ≤ 5 ∧ pt 3 ≤ 1
theorem zbnd {p0 p1 p2 a f s : Nat} (h0 : p0 ≤ 20) (h1 : p1 ≤ 20) (h2 : p2 ≤ 5) (ha : a ≤ s) (hf : f ≤ 24 * s) : ((p0 : Int) * a + (p2 : Int) * f - (p1 : Int) * ((s : Int) - a)).natAbs ≤ 160 * s := by
  have e0 : p0 * a ≤ 20 * s := Nat.mul_le_mul h0 ha
  have e2 : p2 * f ≤ 5 * (24 * s) := Nat.mul_le_mul h2 hf
  have e1 : p1 * (s - a) ≤ 20 * s := Nat.mul_le_mul h1 (by omega)
  have e0' : ((p0 * a : Nat) : Int) = (p0 : Int) * a := Int.natCast_mul _ _
  have e2' : ((p2 * f : Nat) : Int) = (p2 : Int) * f := Int.natCast_mul _ _
  have e1' : ((p1 * (s - a) : Nat) : Int) = (p1 : Int) * ((s : Int) - a) := by rw [Int.natCast_mul, Int.natCast_sub ha]
  rw [← e0', ← e2', ← e1']
  omega
theorem zpm_abs (hV : zVT n par wt ans) (hW : zWh n par ans) {pt : Nat → Nat} (hQ : zVQ pt) {w g : Nat} (hw : w < n) (hg : 0 < g) : (zpm n par wt ans pt w g).natAbs ≤ 160 * zsh n par wt ans w :=
  zbnd hQ.1 hQ.2.1 hQ.2.2.1 (zoA_le hV hW hw) (zFr_le hV hW hw hg)
theorem zpc_abs (hV : zVT n par wt ans) {pt : Nat → Nat} (hQ : zVQ pt) {w g : Nat} (hw : w < n) : (zpc n par wt ans pt w g).natAbs ≤ 160 * zbl n par wt w := by
  refine zbnd hQ.1 hQ.2.1 hQ.2.2.1 (zsc_le hV w hw) ?_
  have h1 := zfr_le hV (a := g) w hw
  have hn := hV.2.1
  have : zbl n par wt w * (n - w) ≤ zbl n par wt w * 24 := Nat.mul_le_mul_left _ (by omega)
  omega
theorem zsm_next (hV : zVT n par wt ans) (hW : zWh n par ans) {w : Nat} (hw : w < n) : zsum (fun c => if 0 < c ∧ par c = w then 1 * zsh n par wt ans c else 0) n ≤ zsh n par wt ans w := by
  by_cases h : ans w = 0
  · rw [← zsh_sum hV hW hw h]
    refine zsum_mono (fun c _ => ?_)
    try dsimp only
    rw [Nat.one_mul]
    exact Nat.le_refl _
  · rw [zend_sum hV h]
    exact Nat.zero_le _
theorem zcm_next (hV : zVT n par wt ans) {w : Nat} (hw : w < n) : zsum (fun c => if 0 < c ∧ par c = w then zst n par wt c * zbl n par wt c else 0) n ≤ zbl n par wt w := by
  by_cases h : znx n par w = 0
  · rw [znx_none h]
    exact Nat.zero_le _
  · rw [zst_sum hV hw h]
    exact Nat.le_refl _
end
