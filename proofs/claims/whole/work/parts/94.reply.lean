/-! replies: the best of some sets, as both go through them -/
def ztr (V : Nat → Int) (G : Nat) (B : Nat × Int) (s : Nat) : Nat × Int := if s &&& G = s ∧ B.2 < V s then (s, V s) else B
def zb1 (V : Nat → Int) (G : Nat) : Nat → Nat × Int
  | 0 => (0, V 0)
  | k + 1 => ztr V G (zb1 V G k) (2 ^ k)
def zb2i (V : Nat → Int) (G : Nat) (B : Nat × Int) (b : Nat) : Nat → Nat × Int
  | 0 => B
  | a + 1 => ztr V G (zb2i V G B b a) (2 ^ a ||| 2 ^ b)
def zb2 (V : Nat → Int) (G : Nat) : Nat → Nat × Int
  | 0 => zb1 V G 24
  | b + 1 => zb2i V G (zb2 V G b) b b
def zrB (V : Nat → Int) (G most : Nat) : Nat × Int := if most = 0 then (0, V 0) else if most = 1 then zb1 V G 24 else zb2 V G 24
def zrp (V : Nat → Int) (G most : Nat) : Nat := (zrB V G most).1
theorem zsub_and {a b : Nat} : (a &&& b = a) ↔ ∀ k, a.testBit k = true → b.testBit k = true := by
  refine ⟨fun h k hk => ?_, fun h => Nat.eq_of_testBit_eq fun k => ?_⟩
  · rw [← h, Nat.testBit_and, Bool.and_eq_true] at hk
    exact hk.2
  · rw [Nat.testBit_and]
    cases hk : a.testBit k with
    | false => rfl
    | true => rw [h k hk]; rfl
theorem zpow_sub {w G : Nat} : (2 ^ w &&& G = 2 ^ w) ↔ G.testBit w = true := by
  rw [zsub_and]
  refine ⟨fun h => h w (by rw [Nat.testBit_two_pow, decide_eq_true rfl]), fun h k hk => ?_⟩
  rw [Nat.testBit_two_pow] at hk
  rw [← of_decide_eq_true hk]
  exact h
theorem zpow2_sub {v w G : Nat} : ((2 ^ v ||| 2 ^ w) &&& G = 2 ^ v ||| 2 ^ w) ↔ G.testBit v = true ∧ G.testBit w = true := by
  rw [zsub_and]
  refine ⟨fun h => ⟨h v ?_, h w ?_⟩, fun h k hk => ?_⟩
  · rw [Nat.testBit_or, Nat.testBit_two_pow, decide_eq_true rfl]; rfl
  · rw [Nat.testBit_or, Nat.testBit_two_pow, Nat.testBit_two_pow, decide_eq_true rfl, Bool.or_true]
  · rw [Nat.testBit_or, Nat.testBit_two_pow, Nat.testBit_two_pow, Bool.or_eq_true] at hk
    rcases hk with q | q
    · rw [← of_decide_eq_true q]; exact h.1
    · rw [← of_decide_eq_true q]; exact h.2
section
variable {V : Nat → Int} {G : Nat}
theorem ztr_ge {B : Nat × Int} {s : Nat} : B.2 ≤ (ztr V G B s).2 := by
  unfold ztr
  split
  · rename_i h
    show B.2 ≤ V s
    omega
  · exact Int.le_refl _
theorem ztr_got {B : Nat × Int} {s : Nat} (h : s &&& G = s) : V s ≤ (ztr V G B s).2 := by
  unfold ztr
  by_cases q : s &&& G = s ∧ B.2 < V s
  · rw [if_pos q]
    exact Int.le_refl _
  · rw [if_neg q]
    have : ¬ B.2 < V s := fun z => q ⟨h, z⟩
    omega
theorem ztr_off {B : Nat × Int} {s : Nat} (h : ¬ s &&& G = s) : ztr V G B s = B := if_neg (fun z => h z.1)
/-- what holds of the best so far -/
def zBo (V : Nat → Int) (G : Nat) (B : Nat × Int) : Prop := B.1 &&& G = B.1 ∧ B.2 = V B.1 ∧ B.1 < 2 ^ 24 ∧ V 0 ≤ B.2
theorem zBo_tr {B : Nat × Int} {s : Nat} (hB : zBo V G B) (hs : s < 2 ^ 24) : zBo V G (ztr V G B s) := by
  have hg := ztr_ge (V := V) (G := G) (B := B) (s := s)
  obtain ⟨h1, h2, h3, h4⟩ := hB
  refine ⟨?_, ?_, ?_, by omega⟩
  · unfold ztr
    split
    · rename_i h; exact h.1
    · exact h1
  · unfold ztr
    split
    · rfl
    · exact h2
  · unfold ztr
    split
    · exact hs
    · exact h3
theorem zBo_0 : zBo V G (0, V 0) := ⟨Nat.zero_and _, rfl, Nat.two_pow_pos 24, Int.le_refl _⟩
theorem zb1_o : ∀ k, k ≤ 24 → zBo V G (zb1 V G k)
  | 0, _ => zBo_0
  | k + 1, h => zBo_tr (zb1_o k (by omega)) (Nat.pow_lt_pow_right (by decide) (by omega))
theorem zb1_got {c : Nat} (hc : G.testBit c = true) : ∀ k, c < k → V (2 ^ c) ≤ (zb1 V G k).2
  | 0, h => absurd h (Nat.not_lt_zero _)
  | k + 1, h => by
    show _ ≤ (ztr V G (zb1 V G k) (2 ^ k)).2
    by_cases q : c = k
    · subst q
      exact ztr_got (zpow_sub.mpr hc)
    · exact Int.le_trans (zb1_got hc k (by omega)) ztr_ge
theorem zb2i_o {B : Nat × Int} (hB : zBo V G B) {b : Nat} (hb : b < 24) : ∀ a, a ≤ b → zBo V G (zb2i V G B b a)
  | 0, _ => hB
  | a + 1, h => zBo_tr (zb2i_o hB hb a (by omega)) (Nat.or_lt_two_pow (Nat.pow_lt_pow_right (by decide) (by omega)) (Nat.pow_lt_pow_right (by decide) hb))
theorem zb2_o : ∀ b, b ≤ 24 → zBo V G (zb2 V G b)
  | 0, _ => zb1_o 24 (Nat.le_refl _)
  | b + 1, h => zb2i_o (zb2_o b (by omega)) (by omega) b (Nat.le_refl _)
theorem zb2i_ge {B : Nat × Int} {b : Nat} : ∀ a, B.2 ≤ (zb2i V G B b a).2
  | 0 => Int.le_refl _
  | a + 1 => Int.le_trans (zb2i_ge a) ztr_ge
theorem zb2_ge : ∀ b, (zb1 V G 24).2 ≤ (zb2 V G b).2
  | 0 => Int.le_refl _
  | b + 1 => Int.le_trans (zb2_ge b) (zb2i_ge b)
theorem zrB_o {most : Nat} : zBo V G (zrB V G most) := by
  unfold zrB
  split
  · exact zBo_0
  · split
    · exact zb1_o 24 (Nat.le_refl _)
    · exact zb2_o 24 (Nat.le_refl _)
/-- words that are not there change nothing -/
theorem zb1_n {n : Nat} (hG : G < 2 ^ n) : ∀ k, zb1 V G (n + k) = zb1 V G n
  | 0 => rfl
  | k + 1 => by
    show ztr V G (zb1 V G (n + k)) (2 ^ (n + k)) = _
    rw [ztr_off, zb1_n hG k]
    rw [zpow_sub, Nat.testBit_lt_two_pow (Nat.lt_of_lt_of_le hG (Nat.pow_le_pow_right (by decide) (by omega)))]
    decide
theorem zb2i_n {n : Nat} (hG : G < 2 ^ n) {B : Nat × Int} {b : Nat} (hb : n ≤ b) : ∀ a, zb2i V G B b a = B
  | 0 => rfl
  | a + 1 => by
    show ztr V G (zb2i V G B b a) (2 ^ a ||| 2 ^ b) = _
    rw [ztr_off, zb2i_n hG hb a]
    rw [zpow2_sub, Nat.testBit_lt_two_pow (Nat.lt_of_lt_of_le hG (Nat.pow_le_pow_right (by decide) hb))]
    intro z
    cases z.2
theorem zb2_n {n : Nat} (hG : G < 2 ^ n) : ∀ k, zb2 V G (n + k) = zb2 V G n
  | 0 => rfl
  | k + 1 => by
    show zb2i V G (zb2 V G (n + k)) (n + k) (n + k) = _
    rw [zb2i_n hG (by omega), zb2_n hG k]
/-- the first word is never among them -/
theorem zb1_1 (hG : G.testBit 0 = false) : zb1 V G 1 = (0, V 0) := by
  show ztr V G (0, V 0) (2 ^ 0) = _
  rw [ztr_off]
  rw [zpow_sub, hG]
  decide
theorem zb2i_1 (hG : G.testBit 0 = false) {B : Nat × Int} {b : Nat} : zb2i V G B b 1 = B := by
  show ztr V G B (2 ^ 0 ||| 2 ^ b) = _
  rw [ztr_off]
  rw [zpow2_sub, hG]
  intro z
  cases z.1
theorem zb2_1 : zb2 V G 1 = zb1 V G 24 := rfl
theorem zb2_2 (hG : G.testBit 0 = false) : zb2 V G 2 = zb1 V G 24 := by
  show zb2i V G (zb2 V G 1) 1 1 = _
  rw [zb2i_1 hG]
  rfl
end
/-- one player's set is another -/
def zup (f : Nat → Nat) (p t : Nat) : Nat → Nat := fun q => if q = p then t else f q
theorem zup_s {f : Nat → Nat} {p t : Nat} : zup f p t p = t := if_pos rfl
theorem zup_n {f : Nat → Nat} {p t q : Nat} (h : q ≠ p) : zup f p t q = f q := if_neg h
theorem zup_zup {f : Nat → Nat} {p s t : Nat} : zup (zup f p s) p t = zup f p t := by
  funext q
  unfold zup
  split <;> rfl
/-- what a set is worth, by shares m -/
def zVs (n : Nat) (par ans m : Nat → Nat) (np : Nat) (hd cm sr pt : Nat → Nat) (gu : Nat → Nat → Nat) (p t : Nat) : Int := zSm (zsv n ans m (zrun par np hd (zup cm p t) (zup sr p t) pt (zwlen par) ans gu) 1 p) n
section
variable {n : Nat} {par wt ans : Nat → Nat} {np : Nat} {ad hd kn cm sr pt : Nat → Nat} {gu : Nat → Nat → Nat} {T : zM} {P : zP}
theorem zBE_up (hB : zBE np hd cm sr gu) {p t : Nat} (ht : t < 2 ^ 24) : zBE np hd (zup cm p t) (zup sr p t) gu := by
  refine ⟨hB.1, fun q hq => ?_⟩
  obtain ⟨b1, b2, b3, b4⟩ := hB.2 q hq
  unfold zup
  by_cases g : q = p
  · rw [if_pos g, if_pos g]
    exact ⟨b1, ht, ht, b4⟩
  · rw [if_neg g, if_neg g]
    exact ⟨b1, b2, b3, b4⟩
/-- likewise worth more by both shares -/
theorem zVs_lt (hV : zVT n par wt ans) (hW : zWh n par ans) {p s t : Nat} : (zVs n par ans (zsh n par wt ans) np hd cm sr pt gu p s < zVs n par ans (zsh n par wt ans) np hd cm sr pt gu p t) ↔ (zVs n par ans (ztm n par wt) np hd cm sr pt gu p s < zVs n par ans (ztm n par wt) np hd cm sr pt gu p t) := by
  have h1 := zsum_cross (what := 1) (p := p) (run := zrun par np hd (zup cm p s) (zup sr p s) pt (zwlen par) ans gu) hV hW
  have h2 := zsum_cross (what := 1) (p := p) (run := zrun par np hd (zup cm p t) (zup sr p t) pt (zwlen par) ans gu) hV hW
  have hb : (0 : Int) < zbl n par wt 0 := by have := zbl_pos hV 0 hV.1; omega
  have hu : (0 : Int) < zun n par wt ans := by have := zun_pos hV hW; omega
  unfold zVs
  rw [← Int.mul_lt_mul_right hb, h1, h2, Int.mul_lt_mul_right hu]
theorem zVsM_abs (hV : zVT n par wt ans) (hW : zWh n par ans) (hQ : zVQ pt) (hB : zBE np hd cm sr gu) {p t : Nat} (ht : t < 2 ^ 24) : (zVs n par ans (zsh n par wt ans) np hd cm sr pt gu p t).natAbs < 2 ^ 62 := by
  have h := zsumM_abs (what := 1) (p := p) hV hW (run := zrun par np hd (zup cm p t) (zup sr p t) pt (zwlen par) ans gu) (fun e h0 he => zWS_run hV hQ (zBE_up (p := p) hB ht).1 h0 he)
  have := zun_lt hV hW
  unfold zVs
  omega
theorem zVsC_abs (hV : zVT n par wt ans) (hQ : zVQ pt) (hB : zBE np hd cm sr gu) {p t : Nat} (ht : t < 2 ^ 24) : (zVs n par ans (ztm n par wt) np hd cm sr pt gu p t).natAbs ≤ 2 ^ 61 := zsumC_abs (what := 1) (p := p) hV (run := zrun par np hd (zup cm p t) (zup sr p t) pt (zwlen par) ans gu) (fun e h0 he => zWS_run hV hQ (zBE_up (p := p) hB ht).1 h0 he) n (Nat.le_refl _)
end
