/-! where players press, by the reference -/
section
variable {n : Nat} {par wt ans : Nat → Nat}
def zsu (n : Nat) (par wt ans : Nat → Nat) (w g h : Nat) : Bool := decide (¬ ans w = 0 ∨ h * zsh n par wt ans w ≤ 100 * zoA n par wt ans w g)
def zmy (n : Nat) (par wt ans : Nat → Nat) (k t w g h : Nat) : Bool := if k = 0 then decide (¬ ans w = 0) else if k = 4 then t.testBit w else zsu n par wt ans w g h
/-- the guess after a word of one who knows s -/
def zgu (n : Nat) (par wt ans : Nat → Nat) (s w : Nat) : Nat := zgs (zoA n par wt ans w) s
theorem zgu_lt {s w : Nat} : zgu n par wt ans s w < 10 := zgs_lt
def zpb (n : Nat) (par wt ans : Nat → Nat) (k t s h w : Nat) : Bool := decide (0 < w) && (decide (zgu n par wt ans s w ≠ 0) && zmy n par wt ans k t w (zgu n par wt ans s w) h)
def zal (n : Nat) (par wt ans pt : Nat → Nat) (s : Nat) : Nat := zbits (zPm n par wt ans pt (zgu n par wt ans s)) n
/-- the set of words at which one of kind k, with the set t, the answers s, and so sure, presses -/
def zPS (n : Nat) (par wt ans pt : Nat → Nat) (k t s h : Nat) : Nat := if k = 5 then zal n par wt ans pt s else zbits (zpb n par wt ans k t s h) n
def zh0 (k s : Nat) : Nat := if k = 2 then s - 20 else s
def zh1 (k s : Nat) : Nat := if k = 3 then s / 2 else zh0 k s
theorem zPS_lt (hV : zVT n par wt ans) {pt : Nat → Nat} {k t s h : Nat} : zPS n par wt ans pt k t s h < 2 ^ n := by
  unfold zPS zal
  split <;> exact zbits_lt
/-- the players -/
def zVP (np : Nat) (kd kn hd su td : Nat → Nat) : Prop := np ≤ 4 ∧ ∀ p, p < np → kd p ≤ 5 ∧ kn p < 1024 ∧ hd p ≤ 9 ∧ su p ≤ 100 ∧ td p < 2 ^ 24 ∧ (kd p ≠ 4 → td p = 0)
def zRP (M : zM) (np : Nat) (kd kn hd su td : Nat → Nat) : Prop := M.1 0 13 = nI np ∧ ∀ p, p < np → M.1 6 p = nI (kd p) ∧ M.1 7 p = nI (kn p) ∧ M.1 8 p = nI (hd p) ∧ M.1 9 p = nI (su p) ∧ M.1 10 p = nI (td p)
theorem zx_isSure (hV : zVT n par wt ans) (hW : zWh n par ans) {M : zM} (hR : zRT M n par wt ans) (hF : zFS M n par wt ans) {w g h : Nat} (hw : w < n) (hg : g < 10) (hh : h ≤ 100) : xX12_isSure M (nI w) (nI g) (nI h) = some (if zsu n par wt ans w g h = true then 1 else 0) := by
  have hn := hV.2.1
  obtain ⟨t1, t2, t3⟩ := hR.2 w hw
  have ha := zans_le hV hw
  have s1 := hF.2.1 w hw
  have s2 := hF.2.2 w g hw hg
  have b1 := zsh_lt hV hW hw
  have b2 := zoA_lt hV hW (a := g) hw
  have b3 : h * zsh n par wt ans w ≤ 100 * zsh n par wt ans w := Nat.mul_le_mul_right _ hh
  by_cases q : ans w = 0
  · by_cases r : h * zsh n par wt ans w ≤ 100 * zoA n par wt ans w g
    · have e : zsu n par wt ans w g h = true := decide_eq_true (Or.inr r)
      rw [if_pos e]
      simp (disch := first | assumption | omega) only [zlet, nI_leI, nI_ltI, nI_eq, nI_eq0, nI_clamp, nI_neg0, nI_add, nI_1, false_or, or_false, if_pos, if_neg, Int32.add_zero, Nat.add_zero, Option.bind_some, if_true, if_false, and_true, true_and, and_false, false_and, nI_10, nI_mul, zl2, zl3, zl4, zl5, zl6, zl8, zl9, zl20, zl24, zor0, zsi_g, zsj_g, zsi_2, zsj_1, xX12_isSure, t3, s1, s2, zL100, lN_mul, nI_l, lg_cmp_lt, jN_lt]
    · have e : zsu n par wt ans w g h = false := decide_eq_false (fun z => z.elim (fun y => y q) r)
      rw [e, if_neg (by decide)]
      simp (disch := first | assumption | omega) only [zlet, nI_leI, nI_ltI, nI_eq, nI_eq0, nI_clamp, nI_neg0, nI_add, nI_1, false_or, or_false, if_pos, if_neg, Int32.add_zero, Nat.add_zero, Option.bind_some, if_true, if_false, and_true, true_and, and_false, false_and, nI_10, nI_mul, zl2, zl3, zl4, zl5, zl6, zl8, zl9, zl20, zl24, zor0, zsi_g, zsj_g, zsi_2, zsj_1, xX12_isSure, t3, s1, s2, zL100, lN_mul, nI_l, lg_cmp_lt, jN_lt]
  · have e : zsu n par wt ans w g h = true := decide_eq_true (Or.inl q)
    rw [if_pos e]
    simp (disch := first | assumption | omega) only [zlet, nI_leI, nI_ltI, nI_eq, nI_eq0, nI_clamp, nI_neg0, nI_add, nI_1, false_or, or_false, if_pos, if_neg, Int32.add_zero, Nat.add_zero, Option.bind_some, if_true, if_false, and_true, true_and, and_false, false_and, nI_10, nI_mul, zl2, zl3, zl4, zl5, zl6, zl8, zl9, zl20, zl24, zor0, zsi_g, zsj_g, zsi_2, zsj_1, xX12_isSure, t3]
theorem zx_mayPress (hV : zVT n par wt ans) (hW : zWh n par ans) {M : zM} (hR : zRT M n par wt ans) (hF : zFS M n par wt ans) {p k t w g h : Nat} (hp : p < 4) (hk : k ≤ 5) (ht : t < 2 ^ 24) (h6 : M.1 6 p = nI k) (h10 : M.1 10 p = nI t) (hw : w < n) (hg : g < 10) (hh : h ≤ 100) (hG : M.1 22 (24 * p + w) = nI g) : xX12_mayPress M (nI p) (nI w) (nI h) = some (if zmy n par wt ans k t w g h = true then 1 else 0) := by
  have hn := hV.2.1
  obtain ⟨t1, t2, t3⟩ := hR.2 w hw
  have ha := zans_le hV hw
  unfold zmy
  by_cases q0 : k = 0
  · rw [if_pos q0]
    by_cases q : ans w = 0
    · rw [decide_eq_false (fun z => z q), if_neg (by decide)]
      simp (disch := first | assumption | omega) only [zlet, nI_leI, nI_ltI, nI_eq, nI_eq0, nI_clamp, nI_neg0, nI_add, nI_1, false_or, or_false, if_pos, if_neg, Int32.add_zero, Nat.add_zero, Option.bind_some, if_true, if_false, and_true, true_and, and_false, false_and, nI_10, nI_mul, zl2, zl3, zl4, zl5, zl6, zl8, zl9, zl20, zl24, zor0, zsi_g, zsj_g, zsi_2, zsj_1, xX12_mayPress, h6, t3, show (0 : Int32) = nI 0 from rfl]
    · rw [decide_eq_true q, if_pos rfl]
      simp (disch := first | assumption | omega) only [zlet, nI_leI, nI_ltI, nI_eq, nI_eq0, nI_clamp, nI_neg0, nI_add, nI_1, false_or, or_false, if_pos, if_neg, Int32.add_zero, Nat.add_zero, Option.bind_some, if_true, if_false, and_true, true_and, and_false, false_and, nI_10, nI_mul, zl2, zl3, zl4, zl5, zl6, zl8, zl9, zl20, zl24, zor0, zsi_g, zsj_g, zsi_2, zsj_1, xX12_mayPress, h6, t3, show (0 : Int32) = nI 0 from rfl, Nat.not_lt_zero]
  · rw [if_neg q0]
    by_cases q4 : k = 4
    · rw [if_pos q4]
      by_cases b : t.testBit w = true
      · rw [if_pos b]
        simp (disch := first | assumption | omega) only [zlet, nI_leI, nI_ltI, nI_eq, nI_eq0, nI_clamp, nI_neg0, nI_add, nI_1, false_or, or_false, if_pos, if_neg, Int32.add_zero, Nat.add_zero, Option.bind_some, if_true, if_false, and_true, true_and, and_false, false_and, nI_10, nI_mul, zl2, zl3, zl4, zl5, zl6, zl8, zl9, zl20, zl24, zor0, zsi_g, zsj_g, zsi_2, zsj_1, xX12_mayPress, h6, h10, zbit]
      · rw [if_neg b]
        simp (disch := first | assumption | omega) only [zlet, nI_leI, nI_ltI, nI_eq, nI_eq0, nI_clamp, nI_neg0, nI_add, nI_1, false_or, or_false, if_pos, if_neg, Int32.add_zero, Nat.add_zero, Option.bind_some, if_true, if_false, and_true, true_and, and_false, false_and, nI_10, nI_mul, zl2, zl3, zl4, zl5, zl6, zl8, zl9, zl20, zl24, zor0, zsi_g, zsj_g, zsi_2, zsj_1, xX12_mayPress, h6, h10, zbit]
    · rw [if_neg q4]
      have hs := zx_isSure hV hW hR hF hw hg hh
      have e : ¬ ¬ ((if zsu n par wt ans w g h = true then (1 : Int32) else 0) = 0 ∨ (if zsu n par wt ans w g h = true then (1 : Int32) else 0) = 1) := by
        split <;> decide
      simp (disch := first | assumption | omega) only [zlet, nI_leI, nI_ltI, nI_eq, nI_eq0, nI_clamp, nI_neg0, nI_add, nI_1, false_or, or_false, if_pos, if_neg, Int32.add_zero, Nat.add_zero, Option.bind_some, if_true, if_false, and_true, true_and, and_false, false_and, nI_10, nI_mul, zl2, zl3, zl4, zl5, zl6, zl8, zl9, zl20, zl24, zor0, zsi_g, zsj_g, zsi_2, zsj_1, xX12_mayPress, h6, hG, hs]
theorem zx_sureOf {M : zM} {p k s : Nat} (hp : p < 4) (hk : k ≤ 5) (hs : s ≤ 100) (h6 : M.1 6 p = nI k) (h9 : M.1 9 p = nI s) : xX12_sureOf M (nI p) = some (nI (zh0 k s)) := by
  unfold zh0
  by_cases q : k = 2
  · rw [if_pos q]
    by_cases r : 20 ≤ s
    · simp (disch := first | assumption | omega) only [zlet, nI_leI, nI_ltI, nI_eq, nI_eq0, nI_clamp, nI_neg0, nI_add, nI_1, false_or, or_false, if_pos, if_neg, Int32.add_zero, Nat.add_zero, Option.bind_some, if_true, if_false, and_true, true_and, and_false, false_and, nI_10, nI_mul, zl2, zl3, zl4, zl5, zl6, zl8, zl9, zl20, zl24, zor0, zsi_g, zsj_g, zsi_2, zsj_1, xX12_sureOf, h6, h9, nI_sub]
    · rw [show s - 20 = 0 by omega]
      simp (disch := first | assumption | omega) only [zlet, nI_leI, nI_ltI, nI_eq, nI_eq0, nI_clamp, nI_neg0, nI_add, nI_1, false_or, or_false, if_pos, if_neg, Int32.add_zero, Nat.add_zero, Option.bind_some, if_true, if_false, and_true, true_and, and_false, false_and, nI_10, nI_mul, zl2, zl3, zl4, zl5, zl6, zl8, zl9, zl20, zl24, zor0, zsi_g, zsj_g, zsi_2, zsj_1, xX12_sureOf, h6, h9, nI_0]
  · rw [if_neg q]
    simp (disch := first | assumption | omega) only [zlet, nI_leI, nI_ltI, nI_eq, nI_eq0, nI_clamp, nI_neg0, nI_add, nI_1, false_or, or_false, if_pos, if_neg, Int32.add_zero, Nat.add_zero, Option.bind_some, if_true, if_false, and_true, true_and, and_false, false_and, nI_10, nI_mul, zl2, zl3, zl4, zl5, zl6, zl8, zl9, zl20, zl24, zor0, zsi_g, zsj_g, zsi_2, zsj_1, xX12_sureOf, h6, h9]
theorem zx_pressing (hV : zVT n par wt ans) (hW : zWh n par ans) {M : zM} (hR : zRT M n par wt ans) (hF : zFS M n par wt ans) {p k t s h : Nat} (hp : p < 4) (hk : k ≤ 5) (ht : t < 2 ^ 24) (h6 : M.1 6 p = nI k) (h10 : M.1 10 p = nI t) (hh : h ≤ 100) (hG : ∀ w, w < n → M.1 22 (24 * p + w) = nI (zgu n par wt ans s w)) : xX12_pressing M (nI p) (nI h) = some (nI (zbits (zpb n par wt ans k t s h) n)) := by
  have hn := hV.2.1
  unfold xX12_pressing
  rw [zfor (r := nI (zbits (zpb n par wt ans k t s h) n)) (fun c => (nI (zbits (zpb n par wt ans k t s h) c), nI c)) 1 n hV.1 (by omega) ?_ ?_ ?_]
  · rfl
  · rw [zbits_1]
    · rfl
    · rfl
  · intro c h1 h2
    have hg := zgu_lt (n := n) (par := par) (wt := wt) (ans := ans) (s := s) (w := c)
    have hm := zx_mayPress hV hW hR hF hp hk ht h6 h10 h2 hg hh (hG c h2)
    have g1 := hG c h2
    by_cases q : zgu n par wt ans s c = 0
    · have e : zpb n par wt ans k t s h c = false := by
        unfold zpb
        rw [decide_eq_false (p := zgu n par wt ans s c ≠ 0) (fun z => z q), Bool.false_and, Bool.and_false]
      rw [zbits_n e]
      simp (disch := first | assumption | omega) only [zlet, nI_leI, nI_ltI, nI_eq, nI_eq0, nI_clamp, nI_neg0, nI_add, nI_1, false_or, or_false, if_pos, if_neg, Int32.add_zero, Nat.add_zero, Option.bind_some, if_true, if_false, and_true, true_and, and_false, false_and, nI_10, nI_mul, zl2, zl3, zl4, zl5, zl6, zl8, zl9, zl20, zl24, zor0, zsi_g, zsj_g, zsi_2, zsj_1, xX12_pressing_L5, hR.1, g1]
    · by_cases r : zmy n par wt ans k t c (zgu n par wt ans s c) h = true
      · have e : zpb n par wt ans k t s h c = true := by
          unfold zpb
          rw [decide_eq_true q, r, decide_eq_true (show 0 < c from h1)]
          rfl
        rw [if_pos r] at hm
        rw [zbits_y e]
        have h10 : ¬ (1 : Int32) = 0 := by decide
        simp (disch := first | assumption | omega) only [zlet, nI_leI, nI_ltI, nI_eq, nI_eq0, nI_clamp, nI_neg0, nI_add, nI_1, false_or, or_false, if_pos, if_neg, Int32.add_zero, Nat.add_zero, Option.bind_some, if_true, if_false, and_true, true_and, and_false, false_and, nI_10, nI_mul, zl2, zl3, zl4, zl5, zl6, zl8, zl9, zl20, zl24, zor0, zsi_g, zsj_g, zsi_2, zsj_1, xX12_pressing_L5, hR.1, g1, hm, zshl, zor]
      · have e : zpb n par wt ans k t s h c = false := by
          unfold zpb
          rw [show zmy n par wt ans k t c (zgu n par wt ans s c) h = false by simpa using r, Bool.and_false, Bool.and_false]
        rw [if_neg r] at hm
        rw [zbits_n e]
        simp (disch := first | assumption | omega) only [zlet, nI_leI, nI_ltI, nI_eq, nI_eq0, nI_clamp, nI_neg0, nI_add, nI_1, false_or, or_false, if_pos, if_neg, Int32.add_zero, Nat.add_zero, Option.bind_some, if_true, if_false, and_true, true_and, and_false, false_and, nI_10, nI_mul, zl2, zl3, zl4, zl5, zl6, zl8, zl9, zl20, zl24, zor0, zsi_g, zsj_g, zsi_2, zsj_1, xX12_pressing_L5, hR.1, g1, hm, if_true]
  · simp (disch := first | assumption | omega) only [zlet, nI_leI, nI_ltI, nI_eq, nI_eq0, nI_clamp, nI_neg0, nI_add, nI_1, false_or, or_false, if_pos, if_neg, Int32.add_zero, Nat.add_zero, Option.bind_some, if_true, if_false, and_true, true_and, and_false, false_and, nI_10, nI_mul, zl2, zl3, zl4, zl5, zl6, zl8, zl9, zl20, zl24, zor0, zsi_g, zsj_g, zsi_2, zsj_1, xX12_pressing_L5, hR.1]
/-- all is found: guesses, where each presses, and where once another was wrong -/
def zFP (M : zM) (n : Nat) (par wt ans pt : Nat → Nat) (np : Nat) (kd kn su td : Nat → Nat) : Prop := ∀ p, p < np → (∀ w, w < n → M.1 22 (24 * p + w) = nI (zgu n par wt ans (kn p) w)) ∧ M.1 23 p = nI (zPS n par wt ans pt (kd p) (td p) (kn p) (zh0 (kd p) (su p))) ∧ M.1 24 p = nI (zPS n par wt ans pt (kd p) (td p) (kn p) (zh1 (kd p) (su p)))
theorem zx_fillGuess (hV : zVT n par wt ans) (hW : zWh n par ans) {M : zM} (hR : zRT M n par wt ans) (hF : zFS M n par wt ans) {p s : Nat} (hp : p < 4) (hs : s < 1024) (h7 : M.1 7 p = nI s) : zok (x_it (fun a9 => xX12_findPresses_L12_L2 (nI p) a9.1 a9.2) zFU (M, (0 : Int32))) (fun r => (∀ w, w < n → r.1 22 (24 * p + w) = nI (zgu n par wt ans s w)) ∧ r.2 = M.2 ∧ ∀ j k, ¬ (j = 22 ∧ 24 * p ≤ k ∧ k < 24 * p + n) → r.1 j k = M.1 j k) := by
  have hn := hV.2.1
  refine zok_for (fun c (z : zM × Int32) => z.2 = nI c ∧ (∀ w, w < c → z.1.1 22 (24 * p + w) = nI (zgu n par wt ans s w)) ∧ z.1.2 = M.2 ∧ ∀ j k, ¬ (j = 22 ∧ 24 * p ≤ k ∧ k < 24 * p + n) → z.1.1 j k = M.1 j k) 0 n (Nat.zero_le _) (by omega) ⟨rfl, fun w h => absurd h (Nat.not_lt_zero _), rfl, fun _ _ _ => rfl⟩ ?_ ?_
  · rintro c ⟨A, i⟩ h1 h2 ⟨e0, e1, e2, e3⟩
    try dsimp only at e0 e1 e2 e3
    subst e0
    have f0 : A.1 0 12 = nI n := (e3 0 12 (by omega)).trans hR.1
    have f7 : A.1 7 p = nI s := (e3 7 p (by omega)).trans h7
    have hg := zx_guessOf (M := A) (X := zoA n par wt ans c) (s := s) (w := c) (by omega) (by omega) (fun a ha => by rw [e2]; exact hF.2.2 c a h2 ha) (fun a _ => by have := zoA_lt hV hW (a := a) h2; omega)
    refine ⟨.inl (zsi A 22 (24 * p + c) (nI (zgu n par wt ans s c)), nI (c + 1)), ?_, _, rfl, rfl, fun w hw => ?_, e2, fun j k g => ?_⟩
    · simp (disch := first | assumption | omega) only [zlet, nI_leI, nI_ltI, nI_eq, nI_eq0, nI_clamp, nI_neg0, nI_add, nI_1, false_or, or_false, if_pos, if_neg, Int32.add_zero, Nat.add_zero, Option.bind_some, if_true, if_false, and_true, true_and, and_false, false_and, nI_10, nI_mul, zl2, zl3, zl4, zl5, zl6, zl8, zl9, zl20, zl24, zor0, zsi_g, zsj_g, zsi_2, zsj_1, xX12_findPresses_L12_L2, f0, f7, hg, zgu]
    · by_cases g : w = c
      · rw [g, zsi_y ⟨rfl, rfl⟩]
      · rw [zsi_ne (by omega)]
        exact e1 w (by omega)
    · rw [zsi_ne (by omega)]
      exact e3 j k g
  · rintro ⟨A, i⟩ ⟨e0, e1, e2, e3⟩
    try dsimp only at e0 e1 e2 e3
    subst e0
    have f0 : A.1 0 12 = nI n := (e3 0 12 (by omega)).trans hR.1
    refine ⟨.inr A, ?_, A, rfl, e1, e2, e3⟩
    simp (disch := first | assumption | omega) only [zlet, nI_leI, nI_ltI, nI_eq, nI_eq0, nI_clamp, nI_neg0, nI_add, nI_1, false_or, or_false, if_pos, if_neg, Int32.add_zero, Nat.add_zero, Option.bind_some, if_true, if_false, and_true, true_and, and_false, false_and, nI_10, nI_mul, zl2, zl3, zl4, zl5, zl6, zl8, zl9, zl20, zl24, zor0, zsi_g, zsj_g, zsi_2, zsj_1, xX12_findPresses_L12_L2, f0]
theorem zx_findPresses (hV : zVT n par wt ans) (hW : zWh n par ans) {np : Nat} {kd kn hd su td pt : Nat → Nat} (hVP : zVP np kd kn hd su td) (hQ : zVQ pt) {M : zM} (hR : zRT M n par wt ans) (hL : zRL M n par) (hP : zRQ M pt) (hRP : zRP M np kd kn hd su td) (hF : zFS M n par wt ans) : zok (xX12_findPresses M) (fun r => zFP r n par wt ans pt np kd kn su td ∧ (∀ j k, j ≠ 22 → j ≠ 23 → j ≠ 24 → ¬ (j = 0 ∧ k = 31) → r.1 j k = M.1 j k) ∧ ∀ j k, j ≠ 25 → r.2 j k = M.2 j k) := by
  have hn := hV.2.1
  have hnp := hVP.1
  unfold xX12_findPresses
  refine zok_bind ?_
  refine zok_for (fun c (z : zM × Int32) => z.2 = nI c ∧ zFP z.1 n par wt ans pt c kd kn su td ∧ (∀ j k, j ≠ 22 → j ≠ 23 → j ≠ 24 → ¬ (j = 0 ∧ k = 31) → z.1.1 j k = M.1 j k) ∧ ∀ j k, j ≠ 25 → z.1.2 j k = M.2 j k) 0 np (Nat.zero_le _) (by omega) ⟨rfl, fun p h => absurd h (Nat.not_lt_zero _), fun _ _ _ _ _ _ => rfl, fun _ _ _ => rfl⟩ ?_ ?_
  · rintro p ⟨A, i⟩ h1 h2 ⟨e0, e1, e2, e3⟩
    try dsimp only at e0 e1 e2 e3
    subst e0
    obtain ⟨v1, v2, v3, v4, v5, v6⟩ := hVP.2 p h2
    obtain ⟨m6, m7, m8, m9, m10⟩ := hRP.2 p h2
    have f13 : A.1 0 13 = nI np := (e2 0 13 (by decide) (by decide) (by decide) (by decide)).trans hRP.1
    have tr : ∀ B : zM, (∀ j k, j ≠ 22 → j ≠ 23 → j ≠ 24 → ¬ (j = 0 ∧ k = 31) → B.1 j k = M.1 j k) → (∀ j k, j ≠ 25 → B.2 j k = M.2 j k) → zRT B n par wt ans ∧ zRL B n par ∧ zRQ B pt ∧ zFS B n par wt ans ∧ B.1 6 p = nI (kd p) ∧ B.1 7 p = nI (kn p) ∧ B.1 9 p = nI (su p) ∧ B.1 10 p = nI (td p) := by
      intro B b1 b2
      refine ⟨⟨(b1 0 12 (by decide) (by decide) (by decide) (by decide)).trans hR.1, fun i hi => ?_⟩, fun i hi => (b1 5 i (by decide) (by decide) (by decide) (by omega)).trans (hL i hi), fun k hk => (b1 11 k (by decide) (by decide) (by decide) (by omega)).trans (hP k hk), ⟨(b2 0 29 (by decide)).trans hF.1, fun i hi => (b2 20 i (by decide)).trans (hF.2.1 i hi), fun w a hw ha => (b2 21 _ (by decide)).trans (hF.2.2 w a hw ha)⟩, (b1 6 p (by decide) (by decide) (by decide) (by omega)).trans m6, (b1 7 p (by decide) (by decide) (by decide) (by omega)).trans m7, (b1 9 p (by decide) (by decide) (by decide) (by omega)).trans m9, (b1 10 p (by decide) (by decide) (by decide) (by omega)).trans m10⟩
      rw [b1 2 i (by decide) (by decide) (by decide) (by omega), b1 3 i (by decide) (by decide) (by decide) (by omega), b1 4 i (by decide) (by decide) (by decide) (by omega)]
      exact hR.2 i hi
    obtain ⟨tA1, tA2, tA3, tA4, tA6, tA7, tA9, tA10⟩ := tr A e2 e3
    obtain ⟨B, hB, b1, b2, b3⟩ := zx_fillGuess hV hW tA1 tA4 (p := p) (by omega) v2 tA7
    have eB1 : ∀ j k, j ≠ 22 → j ≠ 23 → j ≠ 24 → ¬ (j = 0 ∧ k = 31) → B.1 j k = M.1 j k := fun j k g1 g2 g3 g4 => (b3 j k (fun z => g1 z.1)).trans (e2 j k g1 g2 g3 g4)
    have eB2 : ∀ j k, j ≠ 25 → B.2 j k = M.2 j k := fun j k g => by rw [b2]; exact e3 j k g
    obtain ⟨tB1, tB2, tB3, tB4, tB6, tB7, tB9, tB10⟩ := tr B eB1 eB2
    have old : ∀ q, q < p → (∀ w, w < n → B.1 22 (24 * q + w) = nI (zgu n par wt ans (kn q) w)) ∧ B.1 23 q = nI (zPS n par wt ans pt (kd q) (td q) (kn q) (zh0 (kd q) (su q))) ∧ B.1 24 q = nI (zPS n par wt ans pt (kd q) (td q) (kn q) (zh1 (kd q) (su q))) := by
      intro q hq
      obtain ⟨o1, o2, o3⟩ := e1 q hq
      refine ⟨fun w hw => ?_, ?_, ?_⟩
      · rw [b3 22 _ (by omega)]
        exact o1 w hw
      · rw [b3 23 q (by omega)]; exact o2
      · rw [b3 24 q (by omega)]; exact o3
    -- the end of a round, once both sets are known
    have fin : ∀ (C : zM) (x y : Nat), (∀ j k, j ≠ 23 → ¬ (j = 0 ∧ k = 31) → C.1 j k = B.1 j k) → (∀ q, q ≠ p → C.1 23 q = B.1 23 q) → C.1 23 p = nI x → (∀ j k, j ≠ 25 → C.2 j k = M.2 j k) → x = zPS n par wt ans pt (kd p) (td p) (kn p) (zh0 (kd p) (su p)) → y = zPS n par wt ans pt (kd p) (td p) (kn p) (zh1 (kd p) (su p)) → (fun (z : zM × Int32) => z.2 = nI (p + 1) ∧ zFP z.1 n par wt ans pt (p + 1) kd kn su td ∧ (∀ j k, j ≠ 22 → j ≠ 23 → j ≠ 24 → ¬ (j = 0 ∧ k = 31) → z.1.1 j k = M.1 j k) ∧ ∀ j k, j ≠ 25 → z.1.2 j k = M.2 j k) (zsi C 24 p (nI y), nI (p + 1)) := by
      intro C x y c1 c2 c3 c4 hx hy
      refine ⟨rfl, fun q hq => ?_, fun j k g1 g2 g3 g4 => ?_, c4⟩
      · by_cases g : q = p
        · subst g
          refine ⟨fun w hw => ?_, ?_, ?_⟩
          · show (zsi C 24 q (nI y)).1 22 _ = _
            rw [zsi_ne (by omega), c1 22 _ (by decide) (by omega)]
            exact b1 w hw
          · show (zsi C 24 q (nI y)).1 23 _ = _
            rw [zsi_ne (by omega), c3, hx]
          · show (zsi C 24 q (nI y)).1 24 _ = _
            rw [zsi_y ⟨rfl, rfl⟩, hy]
        · obtain ⟨o1, o2, o3⟩ := old q (by omega)
          refine ⟨fun w hw => ?_, ?_, ?_⟩
          · show (zsi C 24 p (nI y)).1 22 _ = _
            rw [zsi_ne (by omega), c1 22 _ (by decide) (by omega)]
            exact o1 w hw
          · show (zsi C 24 p (nI y)).1 23 _ = _
            rw [zsi_ne (by omega), c2 q g]
            exact o2
          · show (zsi C 24 p (nI y)).1 24 _ = _
            rw [zsi_ne (by omega), c1 24 _ (by decide) (by omega)]
            exact o3
      · show (zsi C 24 p (nI y)).1 j k = _
        rw [zsi_ne (fun z => g3 z.1), c1 j k g2 g4]
        exact eB1 j k g1 g2 g3 g4
    have hsu : zh0 (kd p) (su p) ≤ 100 := by
      unfold zh0
      split <;> omega
    by_cases q5 : kd p = 5
    · obtain ⟨C, hC, c1, c2, c3, c4⟩ := zx_findAlone hV hW tB1 tB2 hQ tB3 (fun i hi => tB4.2.1 i hi) (p := p) (gu := zgu n par wt ans (kn p)) (by omega) (fun w => zgu_lt) b1
      have hx : zbits (zPm n par wt ans pt (zgu n par wt ans (kn p))) n = zPS n par wt ans pt (kd p) (td p) (kn p) (zh0 (kd p) (su p)) := (if_pos q5).symm
      have hy : zbits (zPm n par wt ans pt (zgu n par wt ans (kn p))) n = zPS n par wt ans pt (kd p) (td p) (kn p) (zh1 (kd p) (su p)) := (if_pos q5).symm
      refine ⟨.inl (zsi (zsi C 23 p (nI (zbits (zPm n par wt ans pt (zgu n par wt ans (kn p))) n))) 24 p (nI (zbits (zPm n par wt ans pt (zgu n par wt ans (kn p))) n)), nI (p + 1)), ?_, _, rfl, fin (zsi C 23 p (nI (zbits (zPm n par wt ans pt (zgu n par wt ans (kn p))) n))) _ _ ?_ ?_ ?_ ?_ hx hy⟩
      · have g6 : C.1 6 p = nI (kd p) := (c3 6 p (by omega)).trans tB6
        simp (disch := first | assumption | omega) only [zlet, nI_leI, nI_ltI, nI_eq, nI_eq0, nI_clamp, nI_neg0, nI_add, nI_1, false_or, or_false, if_pos, if_neg, Int32.add_zero, Nat.add_zero, Option.bind_some, if_true, if_false, and_true, true_and, and_false, false_and, nI_10, nI_mul, zl2, zl3, zl4, zl5, zl6, zl8, zl9, zl20, zl24, zor0, zsi_g, zsj_g, zsi_2, zsj_1, xX12_findPresses_L2, f13, hB, tB6, hC, c2, g6]
      · intro j k g1 g2
        rw [zsi_ne (fun z => g1 z.1)]
        exact c3 j k g2
      · intro q g
        rw [zsi_ne (fun z => g z.2)]
        exact c3 23 q (by omega)
      · rw [zsi_y ⟨rfl, rfl⟩]
      · intro j k g
        rw [zsi_2, c4 j k g]
        exact eB2 j k g
    · have hs1 := zx_sureOf (M := B) (p := p) (by omega) v1 v4 tB6 tB9
      have hp1 := zx_pressing hV hW tB1 tB4 (p := p) (s := kn p) (by omega) v1 v5 tB6 tB10 hsu b1
      have hx : zbits (zpb n par wt ans (kd p) (td p) (kn p) (zh0 (kd p) (su p))) n = zPS n par wt ans pt (kd p) (td p) (kn p) (zh0 (kd p) (su p)) := (if_neg q5).symm
      have c1 : ∀ j k, j ≠ 23 → ¬ (j = 0 ∧ k = 31) → (zsi B 23 p (nI (zbits (zpb n par wt ans (kd p) (td p) (kn p) (zh0 (kd p) (su p))) n))).1 j k = B.1 j k := by
        intro j k g1 g2
        rw [zsi_ne (fun z => g1 z.1)]
      have c2 : ∀ q, q ≠ p → (zsi B 23 p (nI (zbits (zpb n par wt ans (kd p) (td p) (kn p) (zh0 (kd p) (su p))) n))).1 23 q = B.1 23 q := by
        intro q g
        rw [zsi_ne (fun z => g z.2)]
      have c3 : (zsi B 23 p (nI (zbits (zpb n par wt ans (kd p) (td p) (kn p) (zh0 (kd p) (su p))) n))).1 23 p = nI (zbits (zpb n par wt ans (kd p) (td p) (kn p) (zh0 (kd p) (su p))) n) := by
        rw [zsi_y ⟨rfl, rfl⟩]
      by_cases q3 : kd p = 3
      · have hC1 : ∀ j k, j ≠ 22 → j ≠ 23 → j ≠ 24 → ¬ (j = 0 ∧ k = 31) → (zsi B 23 p (nI (zbits (zpb n par wt ans (kd p) (td p) (kn p) (zh0 (kd p) (su p))) n))).1 j k = M.1 j k := fun j k g1 g2 g3 g4 => (c1 j k g2 g4).trans (eB1 j k g1 g2 g3 g4)
        obtain ⟨tC1, tC2, tC3, tC4, tC6, tC7, tC9, tC10⟩ := tr (zsi B 23 p (nI (zbits (zpb n par wt ans (kd p) (td p) (kn p) (zh0 (kd p) (su p))) n))) hC1 eB2
        have hp2 := zx_pressing hV hW tC1 tC4 (p := p) (s := kn p) (h := su p / 2) (by omega) v1 v5 tC6 tC10 (by omega) (fun w hw => by rw [c1 22 _ (by decide) (by omega)]; exact b1 w hw)
        have hy : zbits (zpb n par wt ans (kd p) (td p) (kn p) (su p / 2)) n = zPS n par wt ans pt (kd p) (td p) (kn p) (zh1 (kd p) (su p)) := by
          unfold zPS zh1
          rw [if_neg q5, if_pos q3]
        refine ⟨.inl (zsi (zsi B 23 p (nI (zbits (zpb n par wt ans (kd p) (td p) (kn p) (zh0 (kd p) (su p))) n))) 24 p (nI (zbits (zpb n par wt ans (kd p) (td p) (kn p) (su p / 2)) n)), nI (p + 1)), ?_, _, rfl, fin _ _ _ c1 c2 c3 eB2 hx hy⟩
        simp only [xX12_findPresses_L2, zlet]
        rw [if_neg (by rw [f13, nI_leI (by omega) (by omega)]; omega), hB, Option.bind_some, if_neg (nI_in (by omega) (by decide)), nI_clamp (by omega), tB6, if_neg (by rw [zl5, nI_eq (by omega) (by decide)]; exact q5), hs1, Option.bind_some, hp1, Option.bind_some, tC6, if_pos (by rw [q3]; rfl), tC9, zl2, nI_div (by omega) (by decide), hp2, Option.bind_some, nI_1]
      · have hy : zbits (zpb n par wt ans (kd p) (td p) (kn p) (zh0 (kd p) (su p))) n = zPS n par wt ans pt (kd p) (td p) (kn p) (zh1 (kd p) (su p)) := by
          unfold zPS zh1
          rw [if_neg q5, if_neg q3]
        refine ⟨.inl (zsi (zsi B 23 p (nI (zbits (zpb n par wt ans (kd p) (td p) (kn p) (zh0 (kd p) (su p))) n))) 24 p (nI (zbits (zpb n par wt ans (kd p) (td p) (kn p) (zh0 (kd p) (su p))) n)), nI (p + 1)), ?_, _, rfl, fin _ _ _ c1 c2 c3 eB2 hx hy⟩
        simp only [xX12_findPresses_L2, zlet]
        rw [if_neg (by rw [f13, nI_leI (by omega) (by omega)]; omega), hB, Option.bind_some, if_neg (nI_in (by omega) (by decide)), nI_clamp (by omega), tB6, if_neg (by rw [zl5, nI_eq (by omega) (by decide)]; exact q5), hs1, Option.bind_some, hp1, Option.bind_some, c1 6 p (by decide) (by omega), tB6, if_neg (by rw [zl3, nI_eq (by omega) (by decide)]; exact q3), c3, nI_1]
  · rintro ⟨A, i⟩ ⟨e0, e1, e2, e3⟩
    try dsimp only at e0 e1 e2 e3
    subst e0
    have f13 : A.1 0 13 = nI np := (e2 0 13 (by decide) (by decide) (by decide) (by decide)).trans hRP.1
    refine ⟨.inr A, ?_, A, rfl, zok_some ⟨e1, e2, e3⟩⟩
    simp (disch := first | assumption | omega) only [zlet, nI_leI, nI_ltI, nI_eq, nI_eq0, nI_clamp, nI_neg0, nI_add, nI_1, false_or, or_false, if_pos, if_neg, Int32.add_zero, Nat.add_zero, Option.bind_some, if_true, if_false, and_true, true_and, and_false, false_and, nI_10, nI_mul, zl2, zl3, zl4, zl5, zl6, zl8, zl9, zl20, zl24, zor0, zsi_g, zsj_g, zsi_2, zsj_1, xX12_findPresses_L2, f13]
end
