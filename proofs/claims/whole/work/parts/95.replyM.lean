/-! replies, by the reference -/
section
variable {n : Nat} {par wt ans : Nat → Nat} {np : Nat} {hd kn cm sr pt : Nat → Nat}
/-- what changes while replies are tried -/
def zfrY (p : Nat) (M A : zM) : Prop := (∀ j k, ¬ ((j = 23 ∨ j = 24) ∧ k = p) → j ≠ 26 → j ≠ 27 → ¬ (j = 0 ∧ 34 ≤ k ∧ k ≤ 38) → ¬ (j = 0 ∧ k = 40) → A.1 j k = M.1 j k) ∧ ∀ j k, ¬ (j = 0 ∧ k = 39) → A.2 j k = M.2 j k
theorem zfrY_r {p : Nat} {M : zM} : zfrY p M M := ⟨fun _ _ _ _ _ _ _ => rfl, fun _ _ _ => rfl⟩
theorem zfrY_t {p : Nat} {A B C : zM} (h1 : zfrY p A B) (h2 : zfrY p B C) : zfrY p A C := ⟨fun j k g1 g2 g3 g4 g5 => (h2.1 j k g1 g2 g3 g4 g5).trans (h1.1 j k g1 g2 g3 g4 g5), fun j k g => (h2.2 j k g).trans (h1.2 j k g)⟩
theorem zfrY_m {p : Nat} {A B : zM} (h : zfrM A B) : zfrY p A B := ⟨fun j k _ g2 g3 g4 _ => h.1 j k g2 g3 g4, fun j k _ => by rw [h.2]⟩
theorem zRE_y {M A : zM} {p t : Nat} (hE : zRE M n par wt ans np hd cm sr pt (zgu2 n par wt ans kn)) (f : zfrY p M A) (h23 : A.1 23 p = nI t) (h24 : A.1 24 p = nI t) : zRE A n par wt ans np hd (zup cm p t) (zup sr p t) pt (zgu2 n par wt ans kn) := by
  obtain ⟨⟨a1, a2⟩, a3, a4, a5, a6⟩ := hE
  obtain ⟨f1, f2⟩ := f
  refine ⟨⟨(f1 0 12 (by omega) (by decide) (by decide) (by omega) (by omega)).trans a1, fun i hi => ?_⟩, fun i hi => (f1 5 i (by omega) (by decide) (by decide) (by omega) (by omega)).trans (a3 i hi), fun k hk => (f1 11 k (by omega) (by decide) (by decide) (by omega) (by omega)).trans (a4 k hk), (f1 0 13 (by omega) (by decide) (by decide) (by omega) (by omega)).trans a5, fun q hq => ?_⟩
  · rw [f1 2 i (by omega) (by decide) (by decide) (by omega) (by omega), f1 3 i (by omega) (by decide) (by decide) (by omega) (by omega), f1 4 i (by omega) (by decide) (by decide) (by omega) (by omega)]
    exact a2 i hi
  · obtain ⟨b1, b2, b3, b4⟩ := a6 q hq
    refine ⟨(f1 8 q (by omega) (by decide) (by decide) (by omega) (by omega)).trans b1, ?_, ?_, fun w hw => (f1 22 _ (by omega) (by decide) (by decide) (by omega) (by omega)).trans (b4 w hw)⟩
    · by_cases g : q = p
      · rw [g, zup_s]; exact h23
      · rw [zup_n g, f1 23 q (by omega) (by decide) (by decide) (by omega) (by omega)]
        exact b2
    · by_cases g : q = p
      · rw [g, zup_s]; exact h24
      · rw [zup_n g, f1 24 q (by omega) (by decide) (by decide) (by omega) (by omega)]
        exact b3
theorem zGB_test {s i : Nat} : (zGB n par wt ans s).testBit i = (decide (i < n) && (decide (0 < i) && decide (zgu n par wt ans s i ≠ 0))) := zbits_test
theorem zx_may {A : zM} (hn : n ≤ 24) (h1n : 1 ≤ n) (h12 : A.1 0 12 = nI n) {p s t : Nat} (hp : p < 4) (ht : t < 2 ^ 24) (hG : ∀ w, w < n → A.1 22 (24 * p + w) = nI (zgu n par wt ans s w)) : x_it (fun a9 => xX12_tries_L5 A (nI p) (nI t) a9.1 a9.2) zFU ((0 : Int32), (1 : Int32)) = some (nI (t &&& zGB n par wt ans s)) := by
  have e : t &&& zGB n par wt ans s = zbits (fun w => decide (0 < w) && (t.testBit w && decide (zgu n par wt ans s w ≠ 0))) n := by
    refine Nat.eq_of_testBit_eq fun i => ?_
    rw [Nat.testBit_and, zGB_test, zbits_test]
    cases decide (i < n) <;> cases decide (0 < i) <;> cases t.testBit i <;> cases decide (zgu n par wt ans s i ≠ 0) <;> rfl
  rw [e]
  refine zfor (fun c => (nI (zbits (fun w => decide (0 < w) && (t.testBit w && decide (zgu n par wt ans s w ≠ 0))) c), nI c)) 1 n h1n (by omega) ?_ ?_ ?_
  · rw [zbits_1] <;> rfl
  · intro c h1 h2
    have hg := hG c h2
    have hl := zgu_lt (n := n) (par := par) (wt := wt) (ans := ans) (s := s) (w := c)
    by_cases b : t.testBit c = true
    · by_cases q : zgu n par wt ans s c = 0
      · rw [zbits_n (by rw [decide_eq_false (p := zgu n par wt ans s c ≠ 0) (fun z => z q), Bool.and_false, Bool.and_false])]
        simp (disch := first | assumption | omega) only [zlet, nI_leI, nI_ltI, nI_eq, nI_eq0, nI_clamp, nI_neg0, nI_add, nI_1, false_or, or_false, if_pos, if_neg, Int32.add_zero, Nat.add_zero, Option.bind_some, if_true, if_false, and_true, true_and, and_false, false_and, nI_10, nI_mul, zl2, zl3, zl4, zl5, zl6, zl8, zl9, zl20, zl24, zor0, zsi_g, zsj_g, zsi_2, zsj_1, xX12_tries_L5, h12, zbit, hg]
      · rw [zbits_y (by rw [decide_eq_true q, decide_eq_true (show 0 < c from h1), b]; rfl)]
        simp (disch := first | assumption | omega) only [zlet, nI_leI, nI_ltI, nI_eq, nI_eq0, nI_clamp, nI_neg0, nI_add, nI_1, false_or, or_false, if_pos, if_neg, Int32.add_zero, Nat.add_zero, Option.bind_some, if_true, if_false, and_true, true_and, and_false, false_and, nI_10, nI_mul, zl2, zl3, zl4, zl5, zl6, zl8, zl9, zl20, zl24, zor0, zsi_g, zsj_g, zsi_2, zsj_1, xX12_tries_L5, h12, zbit, hg, zshl, zor]
    · have b2 : t.testBit c = false := by simpa using b
      rw [zbits_n (by rw [b2, Bool.false_and, Bool.and_false])]
      simp (disch := first | assumption | omega) only [zlet, nI_leI, nI_ltI, nI_eq, nI_eq0, nI_clamp, nI_neg0, nI_add, nI_1, false_or, or_false, if_pos, if_neg, Int32.add_zero, Nat.add_zero, Option.bind_some, if_true, if_false, and_true, true_and, and_false, false_and, nI_10, nI_mul, zl2, zl3, zl4, zl5, zl6, zl8, zl9, zl20, zl24, zor0, zsi_g, zsj_g, zsi_2, zsj_1, xX12_tries_L5, h12, zbit]
  · simp (disch := first | assumption | omega) only [zlet, nI_leI, nI_ltI, nI_eq, nI_eq0, nI_clamp, nI_neg0, nI_add, nI_1, false_or, or_false, if_pos, if_neg, Int32.add_zero, Nat.add_zero, Option.bind_some, if_true, if_false, and_true, true_and, and_false, false_and, nI_10, nI_mul, zl2, zl3, zl4, zl5, zl6, zl8, zl9, zl20, zl24, zor0, zsi_g, zsj_g, zsi_2, zsj_1, xX12_tries_L5, h12]
/-- one more set is tried -/
theorem zx_tries (hV : zVT n par wt ans) (hW : zWh n par ans) (hQ : zVQ pt) (hB : zBE np hd cm sr (zgu2 n par wt ans kn)) {M A : zM} (hE : zRE M n par wt ans np hd cm sr pt (zgu2 n par wt ans kn)) (hS : ∀ i, i < n → M.2 20 i = lN (zsh n par wt ans i)) {p s : Nat} (hp : p < np) (hf : zfrY p M A) (hs : s < 2 ^ 24) : ∃ r, xX12_tries A (nI p) (nI s) = some r ∧ zfrY p M r ∧ (A.1 0 40 < 0 → r.1 0 40 = nI s ∧ r.2 0 39 = lI (zVs n par ans (zsh n par wt ans) np hd cm sr pt (zgu2 n par wt ans kn) p (s &&& zGB n par wt ans (kn p)))) ∧ (¬ A.1 0 40 < 0 → (A.2 0 39 < lI (zVs n par ans (zsh n par wt ans) np hd cm sr pt (zgu2 n par wt ans kn) p (s &&& zGB n par wt ans (kn p))) → r.1 0 40 = nI s ∧ r.2 0 39 = lI (zVs n par ans (zsh n par wt ans) np hd cm sr pt (zgu2 n par wt ans kn) p (s &&& zGB n par wt ans (kn p)))) ∧ (¬ A.2 0 39 < lI (zVs n par ans (zsh n par wt ans) np hd cm sr pt (zgu2 n par wt ans kn) p (s &&& zGB n par wt ans (kn p))) → r.1 0 40 = A.1 0 40 ∧ r.2 0 39 = A.2 0 39)) := by
  have hn := hV.2.1
  have hnp := hB.1
  have ht : s &&& zGB n par wt ans (kn p) < 2 ^ 24 := Nat.lt_of_le_of_lt Nat.and_le_left hs
  have h12 : A.1 0 12 = nI n := (hf.1 0 12 (by omega) (by decide) (by decide) (by omega) (by omega)).trans hE.1.1
  have hmay := zx_may (A := A) (s := kn p) (t := s) (p := p) hn hV.1 h12 (by omega) hs (fun w hw => (hf.1 22 _ (by omega) (by decide) (by decide) (by omega) (by omega)).trans ((hE.2.2.2.2 p hp).2.2.2 w hw))
  generalize htd : s &&& zGB n par wt ans (kn p) = t at ht hmay ⊢
  have f2 : zfrY p M (zsi (zsi A 23 p (nI t)) 24 p (nI t)) := zfrY_t hf ⟨fun j k g1 _ _ _ _ => by rw [zsi_ne (fun z => g1 ⟨Or.inr z.1, z.2⟩), zsi_ne (fun z => g1 ⟨Or.inl z.1, z.2⟩)], fun _ _ _ => rfl⟩
  have hE2 := zRE_y hE f2 (t := t) (by rw [zsi_ne (by omega), zsi_y ⟨rfl, rfl⟩]) (by rw [zsi_y ⟨rfl, rfl⟩])
  obtain ⟨q, hq, q1, q2⟩ := zx_sumOver hV hQ (zBE_up hB ht) hE2 (fun i hi => (f2.2 20 i (by omega)).trans (hS i hi)) (what := 1) (p := p) (by decide) (by omega)
  have f3 : zfrY p M q.2 := zfrY_t f2 (zfrY_m q2)
  have c40 : q.2.1 0 40 = A.1 0 40 := by
    rw [q2.1 0 40 (by decide) (by decide) (by decide), zsi_ne (by omega), zsi_ne (by omega)]
  have c39 : q.2.2 0 39 = A.2 0 39 := by rw [q2.2]; rfl
  have q1' : q.1 = lI (zVs n par ans (zsh n par wt ans) np hd cm sr pt (zgu2 n par wt ans kn) p t) := q1
  have tk : zfrY p M (zsi (zsj q.2 0 39 q.1) 0 40 (nI s)) := zfrY_t f3 ⟨fun j k _ _ _ _ g5 => by rw [zsi_ne (fun z => g5 z)]; rfl, fun j k g => by rw [zsi_2, zsj_g, if_neg g]⟩
  have run : xX12_tries A (nI p) (nI s) = some (if A.1 0 40 < 0 then zsi (zsj q.2 0 39 q.1) 0 40 (nI s) else if A.2 0 39 < q.1 then zsi (zsj q.2 0 39 q.1) 0 40 (nI s) else q.2) := by
    unfold xX12_tries
    rw [hmay, Option.bind_some, if_neg (nI_in (by omega) (by decide)), nI_clamp (by omega)]
    simp only [zlet]
    rw [show (1 : Int32) = nI 1 from rfl, hq, Option.bind_some, c40, c39]
    by_cases g : A.1 0 40 < 0
    · rw [if_pos g, if_pos g]
    · rw [if_neg g, if_neg g]
      have : (0 < lg_cmp q.1 (A.2 0 39)) = (A.2 0 39 < q.1) := propext (lg_cmp_gt _ _)
      rw [zif this]
      by_cases g2 : A.2 0 39 < q.1
      · rw [if_pos g2, if_pos g2]
      · rw [if_neg g2, if_neg g2]
  refine ⟨_, run, ?_, fun g => ?_, fun g => ⟨fun g2 => ?_, fun g2 => ?_⟩⟩
  · split
    · exact tk
    · split
      · exact tk
      · exact f3
  · rw [if_pos g, ← q1']
    exact ⟨by rw [zsi_y ⟨rfl, rfl⟩], by rw [zsi_2, zsj_y ⟨rfl, rfl⟩]⟩
  · rw [← q1'] at g2 ⊢
    rw [if_neg g, if_pos g2]
    exact ⟨by rw [zsi_y ⟨rfl, rfl⟩], by rw [zsi_2, zsj_y ⟨rfl, rfl⟩]⟩
  · rw [← q1'] at g2
    rw [if_neg g, if_neg g2]
    exact ⟨c40, c39⟩
/-- the class's worth of a set, the reference's -/
def zVc (n : Nat) (par wt ans : Nat → Nat) (np : Nat) (hd cm sr pt kn : Nat → Nat) (p t : Nat) : Int := zVs n par ans (ztm n par wt) np hd cm sr pt (zgu2 n par wt ans kn) p t
def zVm (n : Nat) (par wt ans : Nat → Nat) (np : Nat) (hd cm sr pt kn : Nat → Nat) (p t : Nat) : Int := zVs n par ans (zsh n par wt ans) np hd cm sr pt (zgu2 n par wt ans kn) p t
/-- the best so far is B -/
def zYB (n : Nat) (par wt ans : Nat → Nat) (np : Nat) (hd cm sr pt kn : Nat → Nat) (p : Nat) (M A : zM) (B : Nat × Int) : Prop := zfrY p M A ∧ A.1 0 40 = nI B.1 ∧ A.2 0 39 = lI (zVm n par wt ans np hd cm sr pt kn p B.1)
/-- a try goes as the best goes, if what is left of the set was there before -/
theorem zx_tries2 (hV : zVT n par wt ans) (hW : zWh n par ans) (hQ : zVQ pt) (hB : zBE np hd cm sr (zgu2 n par wt ans kn)) {M A : zM} (hE : zRE M n par wt ans np hd cm sr pt (zgu2 n par wt ans kn)) (hS : ∀ i, i < n → M.2 20 i = lN (zsh n par wt ans i)) {p s : Nat} (hp : p < np) (hs : s < 2 ^ 24) {B : Nat × Int} (hBo : zBo (zVc n par wt ans np hd cm sr pt kn p) (zGB n par wt ans (kn p)) B) (hY : zYB n par wt ans np hd cm sr pt kn p M A B) (hold : ¬ s &&& zGB n par wt ans (kn p) = s → zVc n par wt ans np hd cm sr pt kn p (s &&& zGB n par wt ans (kn p)) ≤ B.2) : ∃ r, xX12_tries A (nI p) (nI s) = some r ∧ zYB n par wt ans np hd cm sr pt kn p M r (ztr (zVc n par wt ans np hd cm sr pt kn p) (zGB n par wt ans (kn p)) B s) := by
  obtain ⟨y1, y2, y3⟩ := hY
  obtain ⟨r, hr, r1, r2, r3⟩ := zx_tries hV hW hQ hB hE hS hp y1 hs
  have ht : s &&& zGB n par wt ans (kn p) < 2 ^ 24 := Nat.lt_of_le_of_lt Nat.and_le_left hs
  have b3 := hBo.2.2.1
  have hneg : ¬ A.1 0 40 < 0 := by rw [y2]; exact nI_pos (by omega)
  obtain ⟨r4, r5⟩ := r3 hneg
  have a1 := zVsM_abs (p := p) (t := s &&& zGB n par wt ans (kn p)) hV hW hQ hB ht
  have a2 := zVsM_abs (p := p) (t := B.1) hV hW hQ hB b3
  have hcmp : (A.2 0 39 < lI (zVs n par ans (zsh n par wt ans) np hd cm sr pt (zgu2 n par wt ans kn) p (s &&& zGB n par wt ans (kn p)))) ↔ B.2 < zVc n par wt ans np hd cm sr pt kn p (s &&& zGB n par wt ans (kn p)) := by
    rw [y3]
    unfold zVm
    rw [lI_lt (by omega) (by omega), zVs_lt hV hW, hBo.2.1]
    exact Iff.rfl
  refine ⟨r, hr, r1, ?_⟩
  by_cases g : s &&& zGB n par wt ans (kn p) = s
  · rw [g] at hcmp r4 r5
    unfold ztr
    by_cases q : B.2 < zVc n par wt ans np hd cm sr pt kn p s
    · rw [if_pos ⟨g, q⟩]
      exact r4 (hcmp.mpr q)
    · rw [if_neg (fun z => q z.2)]
      obtain ⟨u1, u2⟩ := r5 (fun z => q (hcmp.mp z))
      exact ⟨u1.trans y2, u2.trans y3⟩
  · rw [ztr_off g]
    have h1 := hold g
    obtain ⟨u1, u2⟩ := r5 (fun z => by have := hcmp.mp z; omega)
    exact ⟨u1.trans y2, u2.trans y3⟩
theorem zGB_0 {s : Nat} : (zGB n par wt ans s).testBit 0 = false := by
  rw [zGB_test]
  simp
theorem zGB_lt {s : Nat} : zGB n par wt ans s < 2 ^ n := zbits_lt
theorem zand_pow {a G : Nat} : 2 ^ a &&& G = if G.testBit a = true then 2 ^ a else 0 := by
  refine Nat.eq_of_testBit_eq fun i => ?_
  rw [Nat.testBit_and, Nat.testBit_two_pow]
  by_cases g : G.testBit a = true
  · rw [if_pos g, Nat.testBit_two_pow]
    by_cases q : a = i
    · subst q
      rw [g, Bool.and_true]
    · rw [decide_eq_false q, Bool.false_and]
  · rw [if_neg g, Nat.zero_testBit]
    by_cases q : a = i
    · subst q
      have : G.testBit a = false := by simpa using g
      rw [this, Bool.and_false]
    · rw [decide_eq_false q, Bool.false_and]
theorem zx_replyOf (hV : zVT n par wt ans) (hW : zWh n par ans) (hQ : zVQ pt) (hB : zBE np hd cm sr (zgu2 n par wt ans kn)) {M : zM} (hE : zRE M n par wt ans np hd cm sr pt (zgu2 n par wt ans kn)) (hS : ∀ i, i < n → M.2 20 i = lN (zsh n par wt ans i)) {p most : Nat} (hp : p < np) (hm : most ≤ 2) : zok (xX12_replyOf M (nI p) (nI most)) (fun r => r.1 = nI (zrp (zVc n par wt ans np hd cm sr pt kn p) (zGB n par wt ans (kn p)) most) ∧ zfrY p M r.2) := by
  have hn := hV.2.1
  have hn1 := hV.1
  have hG0 := zGB_0 (n := n) (par := par) (wt := wt) (ans := ans) (s := kn p)
  have hGn := zGB_lt (n := n) (par := par) (wt := wt) (ans := ans) (s := kn p)
  generalize hVd : zVc n par wt ans np hd cm sr pt kn p = V
  have tr2 := fun (A : zM) (s : Nat) (B : Nat × Int) => zx_tries2 (s := s) (B := B) (A := A) hV hW hQ hB hE hS hp
  rw [hVd] at tr2
  generalize hGd : zGB n par wt ans (kn p) = G at hG0 hGn tr2 ⊢
  have tr0 := fun (A : zM) (s : Nat) => zx_tries (A := A) (s := s) hV hW hQ hB hE hS hp
  rw [hGd] at tr0
  unfold xX12_replyOf
  refine zok_let ?_
  have f0 : zfrY p M (zsi M 0 40 (-1)) := ⟨fun j k _ _ _ _ g5 => by rw [zsi_ne (fun z => g5 z)], fun _ _ _ => rfl⟩
  obtain ⟨A, hA, A1, A2, -⟩ := tr0 (zsi M 0 40 (-1)) 0 f0 (by decide)
  obtain ⟨A3, A4⟩ := A2 (by rw [zsi_y ⟨rfl, rfl⟩]; decide)
  rw [Nat.zero_and] at A4
  have Y0 : zYB n par wt ans np hd cm sr pt kn p M A (0, V 0) := ⟨A1, A3, A4⟩
  refine zok_eb hA (zok_bind ?_)
  -- sets of one word
  have one : zok (x_it (fun a9 => xX12_replyOf_L13 (nI p) (nI most) a9.1 a9.2) zFU (A, (0 : Int32))) (fun r => zYB n par wt ans np hd cm sr pt kn p M r (if most = 0 then (0, V 0) else zb1 V G 24)) := by
    by_cases q0 : most = 0
    · rw [if_pos q0]
      refine ⟨A, zfor (fun _ => (A, (0 : Int32))) 0 0 (Nat.le_refl _) (by decide) rfl (fun c h1 h2 => absurd h2 (by omega)) ?_, Y0⟩
      try dsimp only
      unfold xX12_replyOf_L13
      rw [(A1.1 0 12 (by omega) (by decide) (by decide) (by omega) (by omega)).trans hE.1.1, if_neg (by rw [show (0 : Int32) = nI 0 from rfl, nI_leI (by omega) (by omega)]; omega), if_pos (by rw [q0]; decide)]
    · rw [if_neg q0]
      refine zok_for (fun c (z : zM × Int32) => z.2 = nI c ∧ zYB n par wt ans np hd cm sr pt kn p M z.1 (zb1 V G c)) 0 n (Nat.zero_le _) (by omega) ⟨rfl, Y0⟩ ?_ ?_
      · rintro c ⟨C, i⟩ h1 h2 ⟨e0, e1⟩
        try dsimp only at e0 e1
        subst e0
        have ho := zb1_o (V := V) (G := G) c (by omega)
        obtain ⟨D, hD, D1⟩ := tr2 C (2 ^ c) (zb1 V G c) (Nat.pow_lt_pow_right (by decide) (by omega)) ho e1 (fun g => by
          rw [zand_pow, if_neg (fun z => g (zpow_sub.mpr z))]
          exact ho.2.2.2)
        refine ⟨.inl (D, nI (c + 1)), ?_, _, rfl, rfl, D1⟩
        unfold xX12_replyOf_L13
        rw [(e1.1.1 0 12 (by omega) (by decide) (by decide) (by omega) (by omega)).trans hE.1.1, if_neg (by rw [nI_leI (by omega) (by omega)]; omega), if_neg (by rw [nI_le0 (by omega)]; exact q0), zshl c (by omega), hD, Option.bind_some, nI_1]
      · rintro ⟨C, i⟩ ⟨e0, e1⟩
        try dsimp only at e0 e1
        subst e0
        refine ⟨.inr C, ?_, C, rfl, ?_⟩
        · unfold xX12_replyOf_L13
          rw [(e1.1.1 0 12 (by omega) (by decide) (by decide) (by omega) (by omega)).trans hE.1.1, if_pos (nI_le (Nat.le_refl _) (by omega))]
        · have := zb1_n (V := V) hGn (24 - n)
          rw [show n + (24 - n) = 24 by omega] at this
          rw [this]
          exact e1
  refine one.imp ?_
  intro A5 Y5
  refine zok_bind ?_
  -- sets of two
  by_cases q2 : most = 2
  · rw [if_neg (show ¬ most = 0 by omega)] at Y5
    refine (zok_for (fun b (z : zM × Int32) => z.2 = nI b ∧ zYB n par wt ans np hd cm sr pt kn p M z.1 (zb2 V G b)) 1 n hn1 (by omega) ⟨rfl, Y5⟩ ?_ ?_ (P := fun r => zYB n par wt ans np hd cm sr pt kn p M r (zb2 V G 24))).imp ?_
    · rintro b ⟨C, i⟩ h1 h2 ⟨e0, e1⟩
      try dsimp only at e0 e1
      subst e0
      have hbo := zb2_o (V := V) (G := G) b (by omega)
      have inner : zok (x_it (fun a9 => xX12_replyOf_L57_L41 (nI p) (nI most) (nI b) a9.1 a9.2) zFU (C, (0 : Int32))) (fun r => zYB n par wt ans np hd cm sr pt kn p M r (zb2 V G (b + 1))) := by
        refine zok_for (fun a (z : zM × Int32) => z.2 = nI a ∧ zYB n par wt ans np hd cm sr pt kn p M z.1 (zb2i V G (zb2 V G b) b a)) 0 b (Nat.zero_le _) (by omega) ⟨rfl, e1⟩ ?_ ?_
        · rintro a ⟨D, i⟩ g1 g2 ⟨d0, d1⟩
          try dsimp only at d0 d1
          subst d0
          have ho := zb2i_o (V := V) (G := G) hbo (show b < 24 by omega) a (by omega)
          have hge : (zb1 V G 24).2 ≤ (zb2i V G (zb2 V G b) b a).2 := Int.le_trans (zb2_ge b) (zb2i_ge a)
          obtain ⟨F, hF, F1⟩ := tr2 D (2 ^ a ||| 2 ^ b) (zb2i V G (zb2 V G b) b a) (Nat.or_lt_two_pow (Nat.pow_lt_pow_right (by decide) (by omega)) (Nat.pow_lt_pow_right (by decide) (by omega))) ho d1 (fun g => by
            rw [zpow2_sub] at g
            rw [Nat.and_or_distrib_right, zand_pow, zand_pow]
            by_cases ga : G.testBit a = true
            · have gb : ¬ G.testBit b = true := fun z => g ⟨ga, z⟩
              rw [if_pos ga, if_neg gb, Nat.or_zero]
              exact Int.le_trans (zb1_got ga 24 (by omega)) hge
            · rw [if_neg ga, Nat.zero_or]
              by_cases gb : G.testBit b = true
              · rw [if_pos gb]
                exact Int.le_trans (zb1_got gb 24 (by omega)) hge
              · rw [if_neg gb]
                exact ho.2.2.2)
          refine ⟨.inl (F, nI (a + 1)), ?_, _, rfl, rfl, F1⟩
          unfold xX12_replyOf_L57_L41
          rw [if_neg (by rw [nI_leI (by omega) (by omega)]; omega), zshl a (by omega), zshl b (by omega), zor, hF, Option.bind_some, nI_1]
        · rintro ⟨D, i⟩ ⟨d0, d1⟩
          try dsimp only at d0 d1
          subst d0
          refine ⟨.inr D, ?_, D, rfl, d1⟩
          unfold xX12_replyOf_L57_L41
          rw [if_pos (nI_le (Nat.le_refl _) (by omega))]
      obtain ⟨D, hD, D1⟩ := inner
      refine ⟨.inl (D, nI (b + 1)), ?_, _, rfl, rfl, D1⟩
      unfold xX12_replyOf_L41
      rw [(e1.1.1 0 12 (by omega) (by decide) (by decide) (by omega) (by omega)).trans hE.1.1, if_neg (by rw [nI_leI (by omega) (by omega)]; omega), if_neg (by rw [q2]; decide), hD, Option.bind_some, nI_1]
    · rintro ⟨C, i⟩ ⟨e0, e1⟩
      try dsimp only at e0 e1
      subst e0
      refine ⟨.inr C, ?_, C, rfl, ?_⟩
      · unfold xX12_replyOf_L41
        rw [(e1.1.1 0 12 (by omega) (by decide) (by decide) (by omega) (by omega)).trans hE.1.1, if_pos (nI_le (Nat.le_refl _) (by omega))]
      · have := zb2_n (V := V) hGn (24 - n)
        rw [show n + (24 - n) = 24 by omega] at this
        rw [this]
        exact e1
    · intro A6 Y6
      refine zok_some ⟨?_, Y6.1⟩
      unfold zrp zrB
      rw [if_neg (show ¬ most = 0 by omega), if_neg (show ¬ most = 1 by omega)]
      exact Y6.2.1
  · refine ⟨A5, zfor (fun _ => (A5, (1 : Int32))) 1 1 (Nat.le_refl _) (by decide) rfl (fun c h1 h2 => absurd h2 (by omega)) ?_, zok_some ⟨?_, Y5.1⟩⟩
    · try dsimp only
      unfold xX12_replyOf_L41
      by_cases g : (A5.1 0 12) ≤ (1 : Int32)
      · rw [if_pos g]
      · rw [if_neg g, if_pos (by rw [show (1 : Int32) = nI 1 from rfl]; exact nI_le (by omega) (by decide))]
    · unfold zrp zrB
      by_cases q0 : most = 0
      · rw [if_pos q0] at Y5 ⊢
        exact Y5.2.1
      · rw [if_neg q0] at Y5 ⊢
        rw [if_pos (show most = 1 by omega)]
        exact Y5.2.1
end
