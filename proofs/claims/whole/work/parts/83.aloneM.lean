/-! one alone, as the reference reckons it -/
section
variable {n : Nat} {par wt ans : Nat → Nat}
theorem zx_isBehind (hV : zVT n par wt ans) {M : zM} (hR : zRT M n par wt ans) {e w : Nat} (he : e < n) (hw : w < n) : xX12_isBehind M (nI e) (nI w) = some (if zbe par e w = true then 1 else 0) := by
  have hn := hV.2.1
  refine zok.eq ?_
  unfold xX12_isBehind
  refine zok_bind ?_
  refine zok_it (fun u z => z = nI u ∧ u < n ∧ zbe par e w = zbe par u w) e ⟨rfl, he, rfl⟩ (by omega) ?_
  rintro u z ⟨rfl, hu, hz⟩
  rcases Nat.lt_or_ge w u with g | g
  · have hp := (hV.2.2.1 u (by omega) hu).1
    obtain ⟨t1, t2, t3⟩ := hR.2 u hu
    refine ⟨.inl (nI (par u)), ?_, Or.inl ⟨_, par u, rfl, hp, rfl, by omega, ?_⟩⟩
    · simp (disch := first | assumption | omega) only [zlet, nI_leI, nI_ltI, nI_eq, nI_eq0, nI_clamp, nI_neg0, nI_add, nI_1, false_or, or_false, if_pos, if_neg, Int32.add_zero, Nat.add_zero, Option.bind_some, if_true, if_false, and_true, true_and, and_false, false_and, nI_10, nI_mul, zl2, zl3, zl4, zl5, zl6, zl8, zl9, zl20, zl24, zor0, zsi_g, zsj_g, zsi_2, zsj_1, xX12_isBehind_L2, t1]
    · rw [hz, zbe_s hV (by omega) hu, beq_eq_false_iff_ne.mpr (by omega), Bool.false_or]
  · refine ⟨.inr (nI u), ?_, Or.inr ⟨_, rfl, ?_⟩⟩
    · simp (disch := first | assumption | omega) only [zlet, nI_leI, nI_ltI, nI_eq, nI_eq0, nI_clamp, nI_neg0, nI_add, nI_1, false_or, or_false, if_pos, if_neg, Int32.add_zero, Nat.add_zero, Option.bind_some, if_true, if_false, and_true, true_and, and_false, false_and, nI_10, nI_mul, zl2, zl3, zl4, zl5, zl6, zl8, zl9, zl20, zl24, zor0, zsi_g, zsj_g, zsi_2, zsj_1, xX12_isBehind_L2]
    · rw [hz]
      by_cases q : u = w
      · subst q
        rw [if_pos rfl, if_pos zbe_self]
        exact zok_some rfl
      · have hq : ¬ zbe par u w = true := fun z => by
          have := zbe_le hV u u w (Nat.le_refl _) hu z
          omega
        rw [if_neg (by rw [nI_eq (by omega) (by omega)]; exact q), if_neg hq]
        exact zok_some rfl
/-- the reference has the lengths, the points -/
def zRL (M : zM) (n : Nat) (par : Nat → Nat) : Prop := ∀ i, i < n → M.1 5 i = nI (zwlen par i)
def zRQ (M : zM) (pt : Nat → Nat) : Prop := ∀ k, k < 4 → M.1 11 k = nI (pt k)
/-- what an end brings to one that presses at w with the guess g -/
def zpt (n : Nat) (par wt ans pt : Nat → Nat) (w g e : Nat) : Int := if zbe par e w = true then (if ans e = 0 then 0 else (zsh n par wt ans e : Int) * (if ans e = g then (pt 0 : Int) + (pt 2 : Int) * ((zwlen par e : Int) - zwlen par w) else -(pt 1 : Int))) else 0
theorem zpt_sum (hV : zVT n par wt ans) (hW : zWh n par ans) {pt : Nat → Nat} {w g : Nat} (hw : w < n) (hg : 0 < g) : zSm (zpt n par wt ans pt w g) n = zpm n par wt ans pt w g := by
  have hall := zsh_all hV hW w hw
  have hB : zsum (fun e => if zbe par e w = true then (if ans e = 0 then 0 else if ans e = g then 0 else zsh n par wt ans e) else 0) n + zoA n par wt ans w g = zsh n par wt ans w := by
    rw [← hall]
    unfold zoA
    rw [← zsum_add]
    refine zsum_congr (fun e _ => ?_)
    try dsimp only
    unfold zoe
    by_cases q : zbe par e w = true
    · by_cases r : ans e = 0
      · rw [if_pos q, if_pos r, if_pos q, if_pos r, if_neg (fun z => z.1 r)]
      · by_cases t : ans e = g
        · rw [if_pos q, if_neg r, if_pos q, if_neg r, if_pos t, if_pos ⟨r, t.symm, q⟩, Nat.zero_add]
        · rw [if_pos q, if_neg r, if_pos q, if_neg r, if_neg t, if_neg (fun z => t z.2.1.symm)]
          rfl
    · rw [if_neg q, if_neg q, if_neg (fun z => q z.2.2)]
  have e : ∀ i, i < n → zpt n par wt ans pt w g i = ((zoe n par wt ans w g i : Nat) : Int) * (pt 0 : Int) + (((if zbe par i w = true then (if ¬ ans i = 0 ∧ g = ans i then zsh n par wt ans i * (zwlen par i - zwlen par w) else 0) else 0 : Nat) : Int) * (pt 2 : Int) + (((if zbe par i w = true then (if ans i = 0 then 0 else if ans i = g then 0 else zsh n par wt ans i) else 0) : Nat) : Int) * (-(pt 1 : Int))) := by
    intro i hi
    unfold zpt zoe
    by_cases q : zbe par i w = true
    · have hl := zlen_up hV i i w (Nat.le_refl _) hi q
      by_cases r : ans i = 0
      · rw [if_pos q, if_pos r, if_neg (fun z => z.1 r), if_pos q, if_neg (fun z => z.1 r), if_pos q, if_pos r]
        simp
      · by_cases t : ans i = g
        · rw [if_pos q, if_neg r, if_pos t, if_pos ⟨r, t.symm, q⟩, if_pos q, if_pos ⟨r, t.symm⟩, if_pos q, if_neg r, if_pos t, Int.natCast_mul, Int.natCast_sub hl]
          generalize (zsh n par wt ans i : Int) = s
          generalize (zwlen par i : Int) - (zwlen par w : Int) = d
          rw [Int.mul_add, Int.natCast_zero, Int.zero_mul, Int.add_zero, Int.mul_assoc, Int.mul_comm d]
        · rw [if_pos q, if_neg r, if_neg t, if_neg (fun z => t z.2.1.symm), if_pos q, if_neg (fun z => t z.2.symm), if_pos q, if_neg r, if_neg t]
          simp
    · rw [if_neg q, if_neg (fun z => q z.2.2), if_neg q, if_neg q]
      simp
  rw [zSm_congr e, zSm_add, zSm_add, zSm_mul, zSm_mul, zSm_mul, zSm_nat, zSm_nat, zSm_nat]
  unfold zpm
  have e1 : zsum (zoe n par wt ans w g) n = zoA n par wt ans w g := rfl
  have e2 : zsum (fun i => if zbe par i w = true then (if ¬ ans i = 0 ∧ g = ans i then zsh n par wt ans i * (zwlen par i - zwlen par w) else 0) else 0) n = zFr n par wt ans w g := rfl
  rw [e1, e2]
  have h3 : ((zsum (fun e => if zbe par e w = true then (if ans e = 0 then 0 else if ans e = g then 0 else zsh n par wt ans e) else 0) n : Nat) : Int) = (zsh n par wt ans w : Int) - zoA n par wt ans w g := by omega
  rw [h3]
  generalize (zoA n par wt ans w g : Int) = a
  generalize (zFr n par wt ans w g : Int) = f
  generalize (zsh n par wt ans w : Int) - a = b
  rw [Int.mul_comm a, Int.mul_comm f, Int.mul_neg, Int.mul_comm b]
  omega
theorem zx_pressWorth (hV : zVT n par wt ans) (hW : zWh n par ans) {M : zM} (hR : zRT M n par wt ans) (hL : zRL M n par) {pt : Nat → Nat} (hQ : zVQ pt) (hP : zRQ M pt) (hS : ∀ i, i < n → M.2 20 i = lN (zsh n par wt ans i)) {p w g : Nat} (hp : p < 4) (hw : w < n) (hg : 0 < g) (hg2 : g < 10) (hG : M.1 22 (24 * p + w) = nI g) : xX12_pressWorth M (nI p) (nI w) = some (lI (zpm n par wt ans pt w g)) := by
  have hn := hV.2.1
  unfold xX12_pressWorth
  have e1 : ((24 : Int32) * nI p) + nI w = nI (24 * p + w) := by rw [zl24, nI_mul, nI_add]
  rw [e1, if_neg (nI_in (by omega) (by decide)), nI_clamp (by omega), hG]
  simp only [zlet]
  rw [zfor (r := lI (zpm n par wt ans pt w g)) (fun c => (lI (zSm (zpt n par wt ans pt w g) c), nI c)) w n (by omega) (by omega) ?_ ?_ ?_]
  · rfl
  · rw [zSm_zero, lI_0]
    intro i hi
    refine if_neg (fun z => ?_)
    have := zbe_le hV i i w (Nat.le_refl _) (by omega) z
    omega
  · intro c h1 h2
    obtain ⟨t1, t2, t3⟩ := hR.2 c h2
    have ha := zans_le hV h2
    have hb := zx_isBehind hV hR h2 hw
    rw [zSm_s]
    have l1 := hL c h2
    have l2 := hL w hw
    have q0 := hP 0 (by decide)
    have q1 := hP 1 (by decide)
    have q2 := hP 2 (by decide)
    have s1 := hS c h2
    have hlc := zlen_le hV c c (Nat.le_refl _) h2
    by_cases r : ans c = 0
    · have e : zpt n par wt ans pt w g c = 0 := by
        unfold zpt
        rw [if_pos r]
        exact ite_self 0
      rw [e, Int.add_zero]
      simp (disch := first | assumption | omega) only [zlet, nI_leI, nI_ltI, nI_eq, nI_eq0, nI_clamp, nI_neg0, nI_add, nI_1, false_or, or_false, if_pos, if_neg, Int32.add_zero, Nat.add_zero, Option.bind_some, if_true, if_false, and_true, true_and, and_false, false_and, nI_10, nI_mul, zl2, zl3, zl4, zl5, zl6, zl8, zl9, zl20, zl24, zor0, zsi_g, zsj_g, zsi_2, zsj_1, xX12_pressWorth_L18, hR.1, t3]
    · by_cases q : zbe par c w = true
      · have hl := zlen_up hV c c w (Nat.le_refl _) h2 q
        rw [if_pos q] at hb
        have h10 : ¬ (1 : Int32) = 0 := by decide
        by_cases t : ans c = g
        · have e : zpt n par wt ans pt w g c = ((zsh n par wt ans c * (pt 0 + pt 2 * (zwlen par c - zwlen par w)) : Nat) : Int) := by
            unfold zpt
            rw [if_pos q, if_neg r, if_pos t, Int.natCast_mul, Int.natCast_add, Int.natCast_mul, Int.natCast_sub hl]
          have hm : pt 2 * (zwlen par c - zwlen par w) ≤ 5 * 24 := Nat.mul_le_mul hQ.2.2.1 (by omega)
          have hq0 := hQ.1
          have e2 : (M.1 11 ((0 : Int32)).toNatClampNeg + M.1 11 2 * (M.1 5 c - M.1 5 w)) = nI (pt 0 + pt 2 * (zwlen par c - zwlen par w)) := by
            rw [show ((0 : Int32)).toNatClampNeg = 0 by decide, q0, q2, l1, l2, nI_sub hl, nI_mul, nI_add]
          rw [e, ← lI_add, ← lN_lI]
          simp (disch := first | assumption | omega) only [zlet, nI_leI, nI_ltI, nI_eq, nI_eq0, nI_clamp, nI_neg0, nI_add, nI_1, false_or, or_false, if_pos, if_neg, Int32.add_zero, Nat.add_zero, Option.bind_some, if_true, if_false, and_true, true_and, and_false, false_and, nI_10, nI_mul, zl2, zl3, zl4, zl5, zl6, zl8, zl9, zl20, zl24, zor0, zsi_g, zsj_g, zsi_2, zsj_1, xX12_pressWorth_L18, hR.1, t3, hb, h10]
          rw [s1, e2, nI_l (by omega), lN_mul]
        · have e : zpt n par wt ans pt w g c = (zsh n par wt ans c : Int) * -(pt 1 : Int) := by
            unfold zpt
            rw [if_pos q, if_neg r, if_neg t]
          have hq1 := hQ.2.1
          have e2 : (-(M.1 11 ((1 : Int32)).toNatClampNeg)).toInt64 = lI (-(pt 1 : Int)) := by
            rw [show ((1 : Int32)).toNatClampNeg = 1 by decide, q1, nI_iI, iI_neg, iI_l (by omega)]
          rw [e, ← lI_add, ← lI_mul, ← lN_lI]
          simp (disch := first | assumption | omega) only [zlet, nI_leI, nI_ltI, nI_eq, nI_eq0, nI_clamp, nI_neg0, nI_add, nI_1, false_or, or_false, if_pos, if_neg, Int32.add_zero, Nat.add_zero, Option.bind_some, if_true, if_false, and_true, true_and, and_false, false_and, nI_10, nI_mul, zl2, zl3, zl4, zl5, zl6, zl8, zl9, zl20, zl24, zor0, zsi_g, zsj_g, zsi_2, zsj_1, xX12_pressWorth_L18, hR.1, t3, hb, h10]
          rw [s1, e2]
      · have e : zpt n par wt ans pt w g c = 0 := if_neg q
        rw [if_neg q] at hb
        rw [e, Int.add_zero]
        simp (disch := first | assumption | omega) only [zlet, nI_leI, nI_ltI, nI_eq, nI_eq0, nI_clamp, nI_neg0, nI_add, nI_1, false_or, or_false, if_pos, if_neg, Int32.add_zero, Nat.add_zero, Option.bind_some, if_true, if_false, and_true, true_and, and_false, false_and, nI_10, nI_mul, zl2, zl3, zl4, zl5, zl6, zl8, zl9, zl20, zl24, zor0, zsi_g, zsj_g, zsi_2, zsj_1, xX12_pressWorth_L18, hR.1, t3, hb, if_true]
  · try dsimp only
    rw [zpt_sum hV hW hw hg]
    simp (disch := first | assumption | omega) only [zlet, nI_leI, nI_ltI, nI_eq, nI_eq0, nI_clamp, nI_neg0, nI_add, nI_1, false_or, or_false, if_pos, if_neg, Int32.add_zero, Nat.add_zero, Option.bind_some, if_true, if_false, and_true, true_and, and_false, false_and, nI_10, nI_mul, zl2, zl3, zl4, zl5, zl6, zl8, zl9, zl20, zl24, zor0, zsi_g, zsj_g, zsi_2, zsj_1, xX12_pressWorth_L18, hR.1]
/-- the value of a word by the reference, its set -/
def zma (n : Nat) (par wt ans pt gu : Nat → Nat) (w : Nat) : Int := zva n par (fun _ => 1) gu (fun w => zpm n par wt ans pt w (gu w)) w
def zPm (n : Nat) (par wt ans pt gu : Nat → Nat) (w : Nat) : Bool := zPa n par (fun _ => 1) gu (fun w => zpm n par wt ans pt w (gu w)) (zma n par wt ans pt gu) w
theorem zbits_ge {P : Nat → Bool} {n k : Nat} (hk : k < n) : zbits (fun v => decide (k ≤ v) && P v) n = zbits (fun v => decide (k + 1 ≤ v) && P v) n ||| (if P k = true then 2 ^ k else 0) := by
  refine Nat.eq_of_testBit_eq fun i => ?_
  rw [Nat.testBit_or, zbits_test, zbits_test]
  by_cases q : P k = true
  · rw [if_pos q, Nat.testBit_two_pow]
    by_cases g : k = i
    · subst g
      simp [hk, q]
    · have : (k ≤ i) = (k + 1 ≤ i) := propext (by omega)
      simp [g, this]
  · rw [if_neg q, Nat.zero_testBit, Bool.or_false]
    by_cases g : k = i
    · subst g
      have q2 : P k = false := by simpa using q
      simp [q2]
    · have : (k ≤ i) = (k + 1 ≤ i) := propext (by omega)
      simp [this]
theorem zbits_none {P : Nat → Bool} {n : Nat} : zbits (fun v => decide (n ≤ v) && P v) n = 0 := by
  refine Nat.eq_of_testBit_eq fun i => ?_
  rw [zbits_test, Nat.zero_testBit]
  by_cases g : i < n
  · have : ¬ n ≤ i := by omega
    simp [this]
  · simp [g]
theorem zbits_all {P : Nat → Bool} {n : Nat} : zbits (fun v => decide (0 ≤ v) && P v) n = zbits P n := zbits_eq (fun k _ => by simp)
theorem zSm_one {x : Int} {e n : Nat} : zSm (fun i => if i = e then x else 0) n = if e < n then x else 0 := zop_one Int.add_comm Int.add_zero
/-- what has come to a word from next words at k and behind it -/
def zacc (n : Nat) (par : Nat → Nat) (r : Nat → Int) (k v : Nat) : Int := zSm (fun c => if k ≤ c ∧ 0 < c ∧ par c = v then r c else 0) n
theorem zacc_s {r : Nat → Int} {k v : Nat} (hk : k < n) : zacc n par r k v = zacc n par r (k + 1) v + (if 0 < k ∧ par k = v then r k else 0) := by
  have e : (if 0 < k ∧ par k = v then r k else 0) = zSm (fun c => if c = k then (if 0 < k ∧ par k = v then r k else 0) else 0) n := by
    rw [zSm_one, if_pos hk]
  rw [e]
  unfold zacc
  rw [← zSm_add]
  refine zSm_congr (fun c _ => ?_)
  try dsimp only
  by_cases g : c = k
  · subst g
    rw [if_pos rfl, if_neg (show ¬ (c + 1 ≤ c ∧ 0 < c ∧ par c = v) by omega), Int.zero_add]
    by_cases q : 0 < c ∧ par c = v
    · rw [if_pos q, if_pos ⟨Nat.le_refl _, q⟩]
    · rw [if_neg q, if_neg (fun z => q z.2)]
  · rw [if_neg g, Int.add_zero]
    have : (k ≤ c) = (k + 1 ≤ c) := propext (by omega)
    simp only [this]
theorem zacc_wt (hV : zVT n par wt ans) {r : Nat → Int} {k : Nat} : zacc n par r (k + 1) k = zwt n par (fun _ => 1) r k := by
  refine zSm_congr (fun c hc => ?_)
  try dsimp only
  by_cases q : 0 < c ∧ par c = k
  · have := (hV.2.2.1 c q.1 hc).1
    rw [if_pos q, if_pos ⟨by omega, q⟩]
    omega
  · rw [if_neg q, if_neg (fun z => q z.2)]
theorem zacc_n {r : Nat → Int} {v : Nat} : zacc n par r n v = 0 := zSm_zero (fun c hc => if_neg (by omega))
theorem zx_findAlone (hV : zVT n par wt ans) (hW : zWh n par ans) {M : zM} (hR : zRT M n par wt ans) (hL : zRL M n par) {pt gu : Nat → Nat} (hQ : zVQ pt) (hP : zRQ M pt) (hS : ∀ i, i < n → M.2 20 i = lN (zsh n par wt ans i)) {p : Nat} (hp : p < 4) (hgu : ∀ w, gu w < 10) (hG : ∀ w, w < n → M.1 22 (24 * p + w) = nI (gu w)) : zok (xX12_findAlone M (nI p)) (fun r => (∀ w, w < n → r.2 25 w = lI (zma n par wt ans pt gu w)) ∧ r.1 0 31 = nI (zbits (zPm n par wt ans pt gu) n) ∧ (∀ j k, ¬ (j = 0 ∧ k = 31) → r.1 j k = M.1 j k) ∧ ∀ j k, j ≠ 25 → r.2 j k = M.2 j k) := by
  have hn := hV.2.1
  have hn1 := hV.1
  unfold xX12_findAlone
  refine zok_let (zok_bind ?_)
  have fr0 : ∀ j k, ¬ (j = 0 ∧ k = 31) → (zsi M 0 31 0).1 j k = M.1 j k := fun j k g => by rw [zsi_g, if_neg g]
  refine (zok_for (fun c (z : zM × Int32) => z.2 = nI c ∧ z.1.1 = (zsi M 0 31 0).1 ∧ (∀ v, v < c → z.1.2 25 v = lI 0) ∧ ∀ j k, j ≠ 25 → z.1.2 j k = M.2 j k) 0 n (Nat.zero_le _) (by omega) ⟨rfl, rfl, fun v h => absurd h (Nat.not_lt_zero _), fun _ _ _ => rfl⟩ ?_ ?_ (P := fun r => r.1 = (zsi M 0 31 0).1 ∧ (∀ v, v < n → r.2 25 v = lI 0) ∧ ∀ j k, j ≠ 25 → r.2 j k = M.2 j k)).imp ?_
  · rintro c ⟨A, i⟩ h1 h2 ⟨e0, e1, e2, e3⟩
    try dsimp only at e0 e1 e2 e3
    subst e0
    have f0 : A.1 0 12 = nI n := by rw [e1, fr0 0 12 (by decide)]; exact hR.1
    refine ⟨.inl (zsj A 25 c 0, nI (c + 1)), ?_, _, rfl, rfl, e1, fun v hv => ?_, fun j k g => ?_⟩
    · simp (disch := first | assumption | omega) only [zlet, nI_leI, nI_ltI, nI_eq, nI_eq0, nI_clamp, nI_neg0, nI_add, nI_1, false_or, or_false, if_pos, if_neg, Int32.add_zero, Nat.add_zero, Option.bind_some, if_true, if_false, and_true, true_and, and_false, false_and, nI_10, nI_mul, zl2, zl3, zl4, zl5, zl6, zl8, zl9, zl20, zl24, zor0, zsi_g, zsj_g, zsi_2, zsj_1, xX12_findAlone_L7, f0]
    · by_cases g : v = c
      · rw [g, zsj_y ⟨rfl, rfl⟩, lI_0]
      · rw [zsj_ne (fun z => g z.2)]
        exact e2 v (by omega)
    · rw [zsj_ne (fun z => g z.1)]
      exact e3 j k g
  · rintro ⟨A, i⟩ ⟨e0, e1, e2, e3⟩
    try dsimp only at e0 e1 e2 e3
    subst e0
    have f0 : A.1 0 12 = nI n := by rw [e1, fr0 0 12 (by decide)]; exact hR.1
    refine ⟨.inr A, ?_, A, rfl, e1, e2, e3⟩
    simp (disch := first | assumption | omega) only [zlet, nI_leI, nI_ltI, nI_eq, nI_eq0, nI_clamp, nI_neg0, nI_add, nI_1, false_or, or_false, if_pos, if_neg, Int32.add_zero, Nat.add_zero, Option.bind_some, if_true, if_false, and_true, true_and, and_false, false_and, nI_10, nI_mul, zl2, zl3, zl4, zl5, zl6, zl8, zl9, zl20, zl24, zor0, zsi_g, zsj_g, zsi_2, zsj_1, xX12_findAlone_L7, f0]
  rintro R ⟨a1, a2, a3⟩
  have f0 : R.1 0 12 = nI n := by rw [a1, fr0 0 12 (by decide)]; exact hR.1
  refine zok_let (zok_bind ?_)
  have e9 : R.1 0 12 - 1 = zdn n := by
    rw [f0]
    obtain ⟨m, rfl⟩ : ∃ m, n = m + 1 := ⟨n - 1, by omega⟩
    exact nI_pred m
  rw [e9]
  refine zok_ford (fun k (z : zM × Int32) => z.2 = zdn k ∧ (∀ v, k ≤ v → v < n → z.1.2 25 v = lI (zma n par wt ans pt gu v)) ∧ (∀ v, v < k → z.1.2 25 v = lI (zacc n par (zma n par wt ans pt gu) k v)) ∧ z.1.1 0 31 = nI (zbits (fun v => decide (k ≤ v) && zPm n par wt ans pt gu v) n) ∧ (∀ j k, ¬ (j = 0 ∧ k = 31) → z.1.1 j k = M.1 j k) ∧ ∀ j k, j ≠ 25 → z.1.2 j k = M.2 j k) n (by omega) ⟨rfl, fun v h1 h2 => absurd h2 (by omega), fun v hv => ?_, ?_, fun j k g => ?_, a3⟩ ?_ ?_
  · rw [zacc_n]
    exact a2 v hv
  · rw [a1, zsi_y ⟨rfl, rfl⟩, zbits_none]
    rfl
  · rw [a1]
    exact fr0 j k g
  · rintro k ⟨A, i⟩ hk ⟨e0, e1, e2, e3, e4, e5⟩
    try dsimp only at e0 e1 e2 e3 e4 e5
    rw [zdn_s] at e0
    subst e0
    have hRA : zRT A n par wt ans := by
      refine ⟨(e4 0 12 (by decide)).trans hR.1, fun i hi => ?_⟩
      rw [e4 2 i (by omega), e4 3 i (by omega), e4 4 i (by omega)]
      exact hR.2 i hi
    have hLA : zRL A n par := fun i hi => (e4 5 i (by omega)).trans (hL i hi)
    have hPA : zRQ A pt := fun i hi => (e4 11 i (by omega)).trans (hP i hi)
    have hSA : ∀ i, i < n → A.2 20 i = lN (zsh n par wt ans i) := fun i hi => (e5 20 i (by decide)).trans (hS i hi)
    have gA : A.1 22 (24 * p + k) = nI (gu k) := (e4 22 _ (by omega)).trans (hG k hk)
    have wA : A.2 25 k = lI (zwt n par (fun _ => 1) (zma n par wt ans pt gu) k) := by rw [e2 k (by omega), zacc_wt hV]
    have hab : (zwt n par (fun _ => 1) (zma n par wt ans pt gu) k).natAbs ≤ 160 * zsh n par wt ans k ∧ (zma n par wt ans pt gu k).natAbs ≤ 160 * zsh n par wt ans k := zva_abs hV (m := fun _ => 1) (gu := gu) (b := zsh n par wt ans) (pr := fun w => zpm n par wt ans pt w (gu w)) (K := 160) (fun w hw hg => zpm_abs hV hW hQ hw (by omega)) (fun w hw => zsm_next hV hW hw) k hk
    have hsl := zsh_lt hV hW hk
    have es : zma n par wt ans pt gu k = if zPm n par wt ans pt gu k = true then zpm n par wt ans pt k (gu k) else zwt n par (fun _ => 1) (zma n par wt ans pt gu) k := zva_s hV hk
    have hgk := hgu k
    obtain ⟨t1, t2, t3⟩ := hRA.2 k hk
    -- what is left to do once the word's own value stands
    have fin : ∀ B : zM, B.2 25 k = lI (zma n par wt ans pt gu k) → (∀ v, v ≠ k → B.2 25 v = A.2 25 v) → B.1 0 31 = nI (zbits (fun v => decide (k ≤ v) && zPm n par wt ans pt gu v) n) → (∀ j k, ¬ (j = 0 ∧ k = 31) → B.1 j k = M.1 j k) → (∀ j k, j ≠ 25 → B.2 j k = M.2 j k) → ((k = 0 → (fun (z : zM × Int32) => z.2 = zdn k ∧ (∀ v, k ≤ v → v < n → z.1.2 25 v = lI (zma n par wt ans pt gu v)) ∧ (∀ v, v < k → z.1.2 25 v = lI (zacc n par (zma n par wt ans pt gu) k v)) ∧ z.1.1 0 31 = nI (zbits (fun v => decide (k ≤ v) && zPm n par wt ans pt gu v) n) ∧ (∀ j k, ¬ (j = 0 ∧ k = 31) → z.1.1 j k = M.1 j k) ∧ ∀ j k, j ≠ 25 → z.1.2 j k = M.2 j k) (B, zdn k)) ∧ (0 < k → (fun (z : zM × Int32) => z.2 = zdn k ∧ (∀ v, k ≤ v → v < n → z.1.2 25 v = lI (zma n par wt ans pt gu v)) ∧ (∀ v, v < k → z.1.2 25 v = lI (zacc n par (zma n par wt ans pt gu) k v)) ∧ z.1.1 0 31 = nI (zbits (fun v => decide (k ≤ v) && zPm n par wt ans pt gu v) n) ∧ (∀ j k, ¬ (j = 0 ∧ k = 31) → z.1.1 j k = M.1 j k) ∧ ∀ j k, j ≠ 25 → z.1.2 j k = M.2 j k) (zsj B 25 (par k) (B.2 25 (par k) + B.2 25 k), zdn k))) := by
      intro B b1 b2 b3 b4 b5
      refine ⟨fun hk0 => ⟨rfl, fun v g1 g2 => ?_, fun v hv => absurd hv (by omega), b3, b4, b5⟩, fun hk0 => ⟨rfl, fun v g1 g2 => ?_, fun v hv => ?_, b3, b4, fun j i g => ?_⟩⟩
      · by_cases g : v = k
        · rw [g]; exact b1
        · show B.2 25 v = _
          rw [b2 v g]
          exact e1 v (by omega) g2
      · have hpk := (hV.2.2.1 k hk0 hk).1
        show (zsj B 25 (par k) (B.2 25 (par k) + B.2 25 k)).2 25 v = _
        rw [zsj_ne (by omega)]
        by_cases g : v = k
        · rw [g]; exact b1
        · rw [b2 v g]
          exact e1 v (by omega) g2
      · have hpk := (hV.2.2.1 k hk0 hk).1
        show (zsj B 25 (par k) (B.2 25 (par k) + B.2 25 k)).2 25 v = _
        rw [zacc_s hk, zsj_g]
        by_cases g : par k = v
        · rw [if_pos ⟨rfl, g.symm⟩, if_pos ⟨hk0, g⟩, b1, b2 (par k) (by omega), g, e2 v (by omega), lI_add]
        · rw [if_neg (fun z => g z.2.symm), if_neg (fun z => g z.2), Int.add_zero, b2 v (by omega)]
          exact e2 v (by omega)
      · show (zsj B 25 (par k) (B.2 25 (par k) + B.2 25 k)).2 j i = _
        rw [zsj_ne (fun z => g z.1)]
        exact b5 j i g
    by_cases hk0 : k = 0
    · have hPf : zPm n par wt ans pt gu k = false := by
        unfold zPm zPa
        exact decide_eq_false (fun z => by omega)
      have es2 : zma n par wt ans pt gu k = zwt n par (fun _ => 1) (zma n par wt ans pt gu) k := by
        rw [es, hPf]
        exact if_neg (by decide)
      refine ⟨.inl (A, zdn k), ?_, _, rfl, (fin A (by rw [wA, es2]) (fun _ _ => rfl) ?_ e4 e5).1 hk0⟩
      · subst hk0
        simp (disch := first | assumption | omega) only [zlet, nI_leI, nI_ltI, nI_eq, nI_eq0, nI_clamp, nI_neg0, nI_add, nI_1, false_or, or_false, if_pos, if_neg, Int32.add_zero, Nat.add_zero, Option.bind_some, if_true, if_false, and_true, true_and, and_false, false_and, nI_10, nI_mul, zl2, zl3, zl4, zl5, zl6, zl8, zl9, zl20, zl24, zor0, zsi_g, zsj_g, zsi_2, zsj_1, xX12_findAlone_L35, nI_le0]
        rw [zdn_p (by decide)]
      · rw [e3, zbits_ge hk, hPf, if_neg (by decide), Nat.or_zero]
    · have hp2 := (hV.2.2.1 k (by omega) hk).1
      by_cases hg0 : gu k = 0
      · have hPf : zPm n par wt ans pt gu k = false := by
          unfold zPm zPa
          exact decide_eq_false (fun z => z.2.1 hg0)
        have es2 : zma n par wt ans pt gu k = zwt n par (fun _ => 1) (zma n par wt ans pt gu) k := by
          rw [es, hPf]
          exact if_neg (by decide)
        refine ⟨.inl (zsj A 25 (par k) (A.2 25 (par k) + A.2 25 k), zdn k), ?_, _, rfl, (fin A (by rw [wA, es2]) (fun _ _ => rfl) ?_ e4 e5).2 (by omega)⟩
        · simp (disch := first | assumption | omega) only [zlet, nI_leI, nI_ltI, nI_eq, nI_eq0, nI_clamp, nI_neg0, nI_add, nI_1, false_or, or_false, if_pos, if_neg, Int32.add_zero, Nat.add_zero, Option.bind_some, if_true, if_false, and_true, true_and, and_false, false_and, nI_10, nI_mul, zl2, zl3, zl4, zl5, zl6, zl8, zl9, zl20, zl24, zor0, zsi_g, zsj_g, zsi_2, zsj_1, xX12_findAlone_L35, nI_le0, gA, t1]
          rw [zdn_p (by omega)]
        · rw [e3, zbits_ge hk, hPf, if_neg (by decide), Nat.or_zero]
      · have hpw := zx_pressWorth hV hW hRA hLA hQ hPA hSA (w := k) (g := gu k) hp hk (by omega) (hgu k) gA
        have hpb := zpm_abs hV hW hQ (g := gu k) hk (by omega)
        have hPd : zPm n par wt ans pt gu k = decide (zwt n par (fun _ => 1) (zma n par wt ans pt gu) k ≤ zpm n par wt ans pt k (gu k)) := by
          unfold zPm zPa
          refine decide_eq_decide.mpr ⟨fun z => z.2.2, fun z => ⟨by omega, hg0, z⟩⟩
        have hcmp := lI_lt (a := zpm n par wt ans pt k (gu k)) (b := zwt n par (fun _ => 1) (zma n par wt ans pt gu) k) (by omega) (by have := hab.1; omega)
        by_cases q : zwt n par (fun _ => 1) (zma n par wt ans pt gu) k ≤ zpm n par wt ans pt k (gu k)
        · rw [decide_eq_true q] at hPd
          have es2 : zma n par wt ans pt gu k = zpm n par wt ans pt k (gu k) := by
            rw [es, hPd]
            exact if_pos rfl
          refine ⟨.inl (zsj (zsi (zsj A 25 k (lI (zpm n par wt ans pt k (gu k)))) 0 31 (A.1 0 31 ||| nI (2 ^ k))) 25 (par k) ((zsi (zsj A 25 k (lI (zpm n par wt ans pt k (gu k)))) 0 31 (A.1 0 31 ||| nI (2 ^ k))).2 25 (par k) + (zsi (zsj A 25 k (lI (zpm n par wt ans pt k (gu k)))) 0 31 (A.1 0 31 ||| nI (2 ^ k))).2 25 k), zdn k), ?_, _, rfl, (fin (zsi (zsj A 25 k (lI (zpm n par wt ans pt k (gu k)))) 0 31 (A.1 0 31 ||| nI (2 ^ k))) ?_ ?_ ?_ ?_ ?_).2 (by omega)⟩
          · have hq : ¬ zpm n par wt ans pt k (gu k) < zwt n par (fun _ => 1) (zma n par wt ans pt gu) k := by omega
            simp (disch := first | assumption | omega) only [zlet, nI_leI, nI_ltI, nI_eq, nI_eq0, nI_clamp, nI_neg0, nI_add, nI_1, false_or, or_false, if_pos, if_neg, Int32.add_zero, Nat.add_zero, Option.bind_some, if_true, if_false, and_true, true_and, and_false, false_and, nI_10, nI_mul, zl2, zl3, zl4, zl5, zl6, zl8, zl9, zl20, zl24, zor0, zsi_g, zsj_g, zsi_2, zsj_1, xX12_findAlone_L35, nI_le0, gA, t1, hpw, wA, lg_cmp_lt, hcmp, zshl]
            rw [zdn_p (by omega)]
          · rw [zsi_2, zsj_y ⟨rfl, rfl⟩, es2]
          · intro v g
            rw [zsi_2, zsj_ne (fun z => g z.2)]
          · rw [zsi_y ⟨rfl, rfl⟩, e3, zor, zbits_ge hk, hPd, if_pos rfl]
          · intro j i g
            rw [zsi_g, if_neg g]
            exact e4 j i g
          · intro j i g
            rw [zsi_2, zsj_ne (fun z => g z.1)]
            exact e5 j i g
        · rw [decide_eq_false q] at hPd
          have es2 : zma n par wt ans pt gu k = zwt n par (fun _ => 1) (zma n par wt ans pt gu) k := by
            rw [es, hPd]
            exact if_neg (by decide)
          refine ⟨.inl (zsj A 25 (par k) (A.2 25 (par k) + A.2 25 k), zdn k), ?_, _, rfl, (fin A (by rw [wA, es2]) (fun _ _ => rfl) ?_ e4 e5).2 (by omega)⟩
          · have hq : zpm n par wt ans pt k (gu k) < zwt n par (fun _ => 1) (zma n par wt ans pt gu) k := by omega
            have hk00 : ¬ k = 0 := hk0
            simp (disch := first | assumption | omega) only [zlet, nI_leI, nI_ltI, nI_eq, nI_eq0, nI_clamp, nI_neg0, nI_add, nI_1, false_or, or_false, if_pos, if_neg, Int32.add_zero, Nat.add_zero, Option.bind_some, if_true, if_false, and_true, true_and, and_false, false_and, nI_10, nI_mul, zl2, zl3, zl4, zl5, zl6, zl8, zl9, zl20, zl24, zor0, zsi_g, zsj_g, zsi_2, zsj_1, xX12_findAlone_L35, nI_le0, gA, t1, hpw, lg_cmp_lt, wA, hcmp]
            rw [zdn_p (by omega)]
          · rw [e3, zbits_ge hk, hPd, if_neg (by decide), Nat.or_zero]
  · rintro ⟨A, i⟩ ⟨e0, e1, e2, e3, e4, e5⟩
    try dsimp only at e0 e1 e2 e3 e4 e5
    subst e0
    refine ⟨.inr A, ?_, A, rfl, zok_some ⟨fun w hw => e1 w (Nat.zero_le _) hw, ?_, e4, e5⟩⟩
    · unfold xX12_findAlone_L35
      rw [if_pos (by rw [zdn_0]; trivial)]
    · rw [e3, zbits_all]
end
