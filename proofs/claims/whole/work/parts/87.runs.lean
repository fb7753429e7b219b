/-! a run, word by word -/
def zless (hd : Nat → Nat) (p : Nat) (o : Option Nat) : Bool := match o with
  | none => true
  | some b => decide (hd p < hd b)
/-- of those who press the one with the least hand, of several the least number -/
def zqk (hd : Nat → Nat) (bs : Nat → Bool) : Nat → Option Nat
  | 0 => none
  | p + 1 => if bs p = true ∧ zless hd p (zqk hd bs p) = true then some p else zqk hd bs p
theorem zqk_lt {hd : Nat → Nat} {bs : Nat → Bool} : ∀ {n p : Nat}, zqk hd bs n = some p → p < n ∧ bs p = true
  | 0, p, h => by cases h
  | n + 1, p, h => by
    have e : zqk hd bs (n + 1) = if bs n = true ∧ zless hd n (zqk hd bs n) = true then some n else zqk hd bs n := rfl
    rw [e] at h
    by_cases q : bs n = true ∧ zless hd n (zqk hd bs n) = true
    · rw [if_pos q] at h
      cases h
      exact ⟨by omega, q.1⟩
    · rw [if_neg q] at h
      obtain ⟨h1, h2⟩ := zqk_lt h
      exact ⟨by omega, h2⟩
theorem zqk_none {hd : Nat → Nat} {bs : Nat → Bool} : ∀ {n : Nat}, (∀ p, p < n → bs p = false) → zqk hd bs n = none
  | 0, _ => rfl
  | n + 1, h => by
    show (if bs n = true ∧ zless hd n (zqk hd bs n) = true then some n else zqk hd bs n) = none
    rw [if_neg (fun z => by rw [h n (by omega)] at z; exact absurd z.1 (by decide))]
    exact zqk_none (fun p hp => h p (by omega))
theorem zqk_some {hd : Nat → Nat} {bs : Nat → Bool} : ∀ {n : Nat}, zqk hd bs n = none → ∀ p, p < n → bs p = false
  | 0, _, p, hp => absurd hp (Nat.not_lt_zero _)
  | n + 1, h, p, hp => by
    have e : zqk hd bs (n + 1) = if bs n = true ∧ zless hd n (zqk hd bs n) = true then some n else zqk hd bs n := rfl
    rw [e] at h
    by_cases q : bs n = true ∧ zless hd n (zqk hd bs n) = true
    · rw [if_pos q] at h
      cases h
    · rw [if_neg q] at h
      rcases Nat.lt_or_ge p n with g | g
      · exact zqk_some h p g
      · obtain rfl : p = n := by omega
        cases hb : bs p with
        | false => rfl
        | true =>
          exact absurd ⟨hb, by rw [h]; rfl⟩ q
/-- what a run has come to: who wins, who answered first and where, who is out, how many, whether it is over, what each gets -/
abbrev zRst : Type := Option Nat × Option (Nat × Nat) × Nat × Nat × Bool × (Nat → Int)
def zS0 : zRst := (none, none, 0, 0, false, fun _ => 0)
/-- who presses there now -/
def zbs (cm sr : Nat → Nat) (out w p : Nat) : Bool := !(out.testBit p) && (if out = 0 then cm p else sr p).testBit w
def zwho (np : Nat) (hd cm sr : Nat → Nat) (S : zRst) (w : Nat) : Option Nat := zqk hd (zbs cm sr S.2.2.1 w) np
def zfst (o : Option (Nat × Nat)) (p w : Nat) : Option (Nat × Nat) := match o with
  | none => some (p, w)
  | some x => some x
def zgn (f : Nat → Int) (p : Nat) (v : Int) : Nat → Int := fun q => if q = p then v else f q
/-- one answers -/
def zaw (pt len ans : Nat → Nat) (gu : Nat → Nat → Nat) (e w : Nat) (S : zRst) (p : Nat) : zRst :=
  if gu p w = ans e then (some p, zfst S.2.1 p w, S.2.2.1, S.2.2.2.1, true, zgn S.2.2.2.2.2 p ((pt 0 : Int) + (pt 2 : Int) * ((len e : Int) - len w)))
  else (S.1, zfst S.2.1 p w, S.2.2.1 ||| 2 ^ p, S.2.2.2.1 + 1, decide (pt 3 = 0), zgn S.2.2.2.2.2 p (-(pt 1 : Int)))
/-- a word is heard -/
def zan (np : Nat) (hd cm sr pt len ans : Nat → Nat) (gu : Nat → Nat → Nat) (e w : Nat) (S : zRst) : zRst :=
  if S.2.2.2.2.1 = true then S else match zwho np hd cm sr S w with
  | none => S
  | some p => zaw pt len ans gu e w S p
/-- so many turns at the end -/
def zitn (f : zRst → zRst) : Nat → zRst → zRst
  | 0, S => S
  | k + 1, S => f (zitn f k S)
/-- up to a word on the way -/
def zrn (par : Nat → Nat) (np : Nat) (hd cm sr pt len ans : Nat → Nat) (gu : Nat → Nat → Nat) (e w : Nat) : zRst := zfd par (fun S v => zan np hd cm sr pt len ans gu e v S) zS0 w w
def zrun (par : Nat → Nat) (np : Nat) (hd cm sr pt len ans : Nat → Nat) (gu : Nat → Nat → Nat) (e : Nat) : zRst := zitn (zan np hd cm sr pt len ans gu e e) 4 (zrn par np hd cm sr pt len ans gu e (par e))
/-- how many bits of 0 .. 3 -/
def zpop (s : Nat) : Nat := (if s.testBit 0 then 1 else 0) + (if s.testBit 1 then 1 else 0) + (if s.testBit 2 then 1 else 0) + (if s.testBit 3 then 1 else 0)
theorem zpop_or : ∀ s, s < 16 → ∀ p, p < 4 → s.testBit p = false → zpop (s ||| 2 ^ p) = zpop s + 1 ∧ s ||| 2 ^ p < 16 := by decide
theorem zpop_0 : ∀ s, s < 16 → (zpop s = 0 ↔ s = 0) := by decide
theorem zpop_le : ∀ s, s < 16 → zpop s ≤ 4 := by decide
theorem zpop_4 : ∀ s, s < 16 → zpop s = 4 → ∀ p, p < 4 → s.testBit p = true := by decide
/-- what holds of a run's state -/
def zWS (S : zRst) : Prop := S.2.2.1 < 16 ∧ S.2.2.2.1 = zpop S.2.2.1 ∧ (S.2.2.2.2.1 = false → S.1 = none ∧ ∀ p, S.2.2.1.testBit p = false → S.2.2.2.2.2 p = 0) ∧ (∀ p, (S.2.2.2.2.2 p).natAbs ≤ 160) ∧ (S.2.1 = none → S.2.2.1 = 0 ∧ S.2.2.2.2.1 = false) ∧ (∀ x, S.2.1 = some x → x.1 < 4 ∧ x.2 < 24) ∧ ∀ x, S.1 = some x → x < 4
theorem zWS_0 : zWS zS0 := ⟨by decide, by decide, fun _ => ⟨rfl, fun _ _ => rfl⟩, fun _ => Nat.zero_le _, fun _ => ⟨rfl, rfl⟩, fun x h => (by cases h), fun x h => (by cases h)⟩
section
variable {par : Nat → Nat} {np : Nat} {hd cm sr pt len ans : Nat → Nat} {gu : Nat → Nat → Nat} {e w : Nat} {S : zRst}
theorem zwho_lt {p : Nat} (h : zwho np hd cm sr S w = some p) : p < np ∧ S.2.2.1.testBit p = false := by
  obtain ⟨h1, h2⟩ := zqk_lt h
  refine ⟨h1, ?_⟩
  unfold zbs at h2
  rw [Bool.and_eq_true, Bool.not_eq_true'] at h2
  exact h2.1
theorem zWS_aw (hQ : zVQ pt) (hnp : np ≤ 4) (hl : len e ≤ 24) (hw : len w ≤ len e) (hw24 : w < 24) (hS : zWS S) (ho : S.2.2.2.2.1 = false) {p : Nat} (hp : zwho np hd cm sr S w = some p) : zWS (zaw pt len ans gu e w S p) := by
  obtain ⟨h1, h2, h3, h4, h5, h6, h7⟩ := hS
  obtain ⟨g1, g2⟩ := zwho_lt hp
  obtain ⟨p1, p2⟩ := zpop_or _ h1 p (by omega) g2
  obtain ⟨q0, q1, q2, q3⟩ := hQ
  have hm : pt 2 * (len e - len w) ≤ 5 * 24 := Nat.mul_le_mul q2 (by omega)
  have hm' : ((pt 2 * (len e - len w) : Nat) : Int) = (pt 2 : Int) * ((len e : Int) - len w) := by rw [Int.natCast_mul, Int.natCast_sub hw]
  have hf : ∀ x, zfst S.2.1 p w = some x → x.1 < 4 ∧ x.2 < 24 := by
    intro x hx
    cases hq : S.2.1 with
    | none =>
      rw [hq] at hx
      cases hx
      exact ⟨by omega, hw24⟩
    | some y =>
      rw [hq] at hx
      have hxy : some y = some x := hx
      injection hxy with hxy
      rw [← hxy]
      exact h6 y hq
  have hf2 : zfst S.2.1 p w ≠ none := by
    cases S.2.1 <;> exact fun h => by cases h
  unfold zaw
  by_cases q : gu p w = ans e
  · rw [if_pos q]
    refine ⟨h1, h2, fun h => (by cases h), fun r => ?_, fun h => absurd h hf2, hf, fun x h => (by cases h; omega)⟩
    show (zgn S.2.2.2.2.2 p _ r).natAbs ≤ 160
    unfold zgn
    split
    · rw [← hm']
      omega
    · exact h4 r
  · rw [if_neg q]
    refine ⟨p2, by rw [p1, h2], fun h => ⟨(h3 ho).1, fun r hr => ?_⟩, fun r => ?_, fun h => absurd h hf2, hf, h7⟩
    · show zgn S.2.2.2.2.2 p _ r = 0
      have hr : (S.2.2.1 ||| 2 ^ p).testBit r = false := hr
      rw [Nat.testBit_or, Nat.testBit_two_pow] at hr
      have hrp : r ≠ p := fun z => by
        rw [z, decide_eq_true rfl, Bool.or_true] at hr
        cases hr
      unfold zgn
      rw [if_neg hrp]
      refine (h3 ho).2 r ?_
      revert hr
      cases S.2.2.1.testBit r
      · intro _; rfl
      · intro hr; cases hr
    · show (zgn S.2.2.2.2.2 p _ r).natAbs ≤ 160
      unfold zgn
      split
      · omega
      · exact h4 r
theorem zWS_an (hQ : zVQ pt) (hnp : np ≤ 4) (hl : len e ≤ 24) (hw : len w ≤ len e) (hw24 : w < 24) (hS : zWS S) : zWS (zan np hd cm sr pt len ans gu e w S) := by
  unfold zan
  by_cases q : S.2.2.2.2.1 = true
  · rw [if_pos q]; exact hS
  · rw [if_neg q]
    cases hp : zwho np hd cm sr S w with
    | none => exact hS
    | some p => exact zWS_aw hQ hnp hl hw hw24 hS (by simpa using q) hp
theorem zWS_it (hQ : zVQ pt) (hnp : np ≤ 4) (hl : len e ≤ 24) (hw : len w ≤ len e) (hw24 : w < 24) (hS : zWS S) : ∀ k, zWS (zitn (zan np hd cm sr pt len ans gu e w) k S)
  | 0 => hS
  | k + 1 => zWS_an hQ hnp hl hw hw24 (zWS_it hQ hnp hl hw hw24 hS k)
/-- turn by turn one more is out, till none presses or it is over -/
theorem zit_out (hS : zWS S) (hQ : zVQ pt) (hnp : np ≤ 4) (hl : len e ≤ 24) (he24 : e < 24) : ∀ k, (zitn (zan np hd cm sr pt len ans gu e e) k S).2.2.2.2.1 = true ∨ zwho np hd cm sr (zitn (zan np hd cm sr pt len ans gu e e) k S) e = none ∨ k ≤ (zitn (zan np hd cm sr pt len ans gu e e) k S).2.2.2.1
  | 0 => Or.inr (Or.inr (Nat.zero_le _))
  | k + 1 => by
    have ih := zit_out hS hQ hnp hl he24 k
    have e1 : zitn (zan np hd cm sr pt len ans gu e e) (k + 1) S = zan np hd cm sr pt len ans gu e e (zitn (zan np hd cm sr pt len ans gu e e) k S) := rfl
    rw [e1]
    generalize zitn (zan np hd cm sr pt len ans gu e e) k S = X at ih
    unfold zan
    by_cases q : X.2.2.2.2.1 = true
    · rw [if_pos q]
      exact Or.inl q
    · rw [if_neg q]
      cases hp : zwho np hd cm sr X e with
      | none => exact Or.inr (Or.inl hp)
      | some p =>
        rw [hp] at ih
        have h3 : k ≤ X.2.2.2.1 := by
          rcases ih with h | h | h
          · exact absurd h q
          · cases h
          · exact h
        show (zaw pt len ans gu e e X p).2.2.2.2.1 = true ∨ _
        by_cases g : gu p e = ans e
        · left
          unfold zaw
          rw [if_pos g]
        · right; right
          show k + 1 ≤ (zaw pt len ans gu e e X p).2.2.2.1
          unfold zaw
          rw [if_neg g]
          show k + 1 ≤ X.2.2.2.1 + 1
          omega
theorem zit_who (hS : zWS S) (hQ : zVQ pt) (hnp : np ≤ 4) (hl : len e ≤ 24) (he24 : e < 24) {k : Nat} (hk : 4 ≤ k) : (zitn (zan np hd cm sr pt len ans gu e e) k S).2.2.2.2.1 = true ∨ zwho np hd cm sr (zitn (zan np hd cm sr pt len ans gu e e) k S) e = none := by
  rcases zit_out (np := np) (hd := hd) (cm := cm) (sr := sr) (pt := pt) (len := len) (ans := ans) (gu := gu) hS hQ hnp hl he24 k with h | h | h
  · exact Or.inl h
  · exact Or.inr h
  · right
    obtain ⟨w1, w2, -⟩ := zWS_it (np := np) (hd := hd) (cm := cm) (sr := sr) (ans := ans) (gu := gu) hQ hnp hl (Nat.le_refl _) he24 hS k
    have h4 := zpop_le _ w1
    refine zqk_none (fun p hp => ?_)
    unfold zbs
    rw [zpop_4 _ w1 (by omega) p (by omega)]
    rfl
theorem zan_fix (h : S.2.2.2.2.1 = true ∨ zwho np hd cm sr S w = none) : zan np hd cm sr pt len ans gu e w S = S := by
  unfold zan
  by_cases q : S.2.2.2.2.1 = true
  · rw [if_pos q]
  · rw [if_neg q, h.resolve_left q]
theorem zan_some {p : Nat} (ho : S.2.2.2.2.1 = false) (hp : zwho np hd cm sr S w = some p) : zan np hd cm sr pt len ans gu e w S = zaw pt len ans gu e w S p := by
  unfold zan
  rw [if_neg (by rw [ho]; decide), hp]
/-- once still, still -/
theorem zit_still {k : Nat} (h : (zitn (zan np hd cm sr pt len ans gu e w) k S).2.2.2.2.1 = true ∨ zwho np hd cm sr (zitn (zan np hd cm sr pt len ans gu e w) k S) w = none) : ∀ d, zitn (zan np hd cm sr pt len ans gu e w) (k + d) S = zitn (zan np hd cm sr pt len ans gu e w) k S
  | 0 => rfl
  | d + 1 => by
    show zan np hd cm sr pt len ans gu e w (zitn (zan np hd cm sr pt len ans gu e w) (k + d) S) = _
    rw [zit_still h d, zan_fix h]
/-- where it comes to rest, it is what four turns make -/
theorem zit_4 (hS : zWS S) (hQ : zVQ pt) (hnp : np ≤ 4) (hl : len e ≤ 24) (he24 : e < 24) {k : Nat} (h : (zitn (zan np hd cm sr pt len ans gu e e) k S).2.2.2.2.1 = true ∨ zwho np hd cm sr (zitn (zan np hd cm sr pt len ans gu e e) k S) e = none) : zitn (zan np hd cm sr pt len ans gu e e) k S = zitn (zan np hd cm sr pt len ans gu e e) 4 S := by
  rcases Nat.lt_or_ge k 4 with g | g
  · have := zit_still h (4 - k)
    rw [show k + (4 - k) = 4 by omega] at this
    exact this.symm
  · have := zit_still (zit_who (np := np) (hd := hd) (cm := cm) (sr := sr) (pt := pt) (len := len) (ans := ans) (gu := gu) hS hQ hnp hl he24 (Nat.le_refl 4)) (k - 4)
    rw [show 4 + (k - 4) = k by omega] at this
    exact this
end
section
variable {n : Nat} {par wt ans : Nat → Nat} {np : Nat} {hd cm sr pt len : Nat → Nat} {gu : Nat → Nat → Nat} {e w : Nat}
theorem zrn_s (hV : zVT n par wt ans) (h0 : 0 < w) (hw : w < n) : zrn par np hd cm sr pt len ans gu e w = zan np hd cm sr pt len ans gu e w (zrn par np hd cm sr pt len ans gu e (par w)) := zfd_s (fun i a b => (hV.2.2.1 i a b).1) h0 hw
theorem zrn_0 : zrn par np hd cm sr pt len ans gu e 0 = zS0 := rfl
theorem zWS_rn (hV : zVT n par wt ans) (hQ : zVQ pt) (hnp : np ≤ 4) (he : e < n) : ∀ (k w : Nat), w ≤ k → w < n → zbe par e w = true → zWS (zrn par np hd cm sr pt (zwlen par) ans gu e w)
  | 0, w, h1, _, _ => by
    obtain rfl : w = 0 := by omega
    exact zWS_0
  | k + 1, w, h1, h2, h3 => by
    have hn := hV.2.1
    have hl := zlen_le hV e e (Nat.le_refl _) he
    rcases Nat.eq_zero_or_pos w with rfl | g
    · exact zWS_0
    · have hp := (hV.2.2.1 w g h2).1
      rw [zrn_s hV g h2]
      exact zWS_an hQ hnp (by omega) (zlen_up hV e e w (Nat.le_refl _) he h3) (by omega) (zWS_rn hV hQ hnp he k (par w) (by omega) (by omega) (zbe_up hV e e w (Nat.le_refl _) he g h3))
theorem zWS_run (hV : zVT n par wt ans) (hQ : zVQ pt) (hnp : np ≤ 4) (h0 : 0 < e) (he : e < n) : zWS (zrun par np hd cm sr pt (zwlen par) ans gu e) := by
  have hn := hV.2.1
  have hp := (hV.2.2.1 e h0 he).1
  have hl := zlen_le hV e e (Nat.le_refl _) he
  exact zWS_it hQ hnp (by omega) (Nat.le_refl _) (by omega) (zWS_rn hV hQ hnp he (par e) (par e) (Nat.le_refl _) (by omega) (zbe_up hV e e e (Nat.le_refl _) he h0 zbe_self)) 4
end
