/-! runs, by the class -/
def zRC (R : zM) (np : Nat) (S : zRst) : Prop := R.1 62 8 = zo (-9) S.1 ∧ R.1 62 9 = zo (-9) (S.2.1.map (fun x => x.2)) ∧ R.1 62 10 = zo (-9) (S.2.1.map (fun x => x.1)) ∧ R.1 62 11 = nI S.2.2.1 ∧ R.1 62 12 = (if S.2.2.2.2.1 = true then 1 else 0) ∧ ∀ p, p < np → R.1 68 p = iI (S.2.2.2.2.2 p)
def zfrR (R R' : zM) : Prop := (∀ j k, j ≠ 68 → ¬ (j = 62 ∧ 8 ≤ k ∧ k ≤ 12) → R'.1 j k = R.1 j k) ∧ R'.2 = R.2
theorem zfrR_r {R : zM} : zfrR R R := ⟨fun _ _ _ _ => rfl, rfl⟩
theorem zfrR_t {A B C : zM} (h1 : zfrR A B) (h2 : zfrR B C) : zfrR A C := ⟨fun j k g1 g2 => (h2.1 j k g1 g2).trans (h1.1 j k g1 g2), h2.2.trans h1.2⟩
/-- the class is ready to run -/
def zCE (T R : zM) (P : zP) (n : Nat) (par wt ans : Nat → Nat) (np : Nat) (ad hd kn cm sr pt : Nat → Nat) : Prop := zCS T n par wt ans ∧ zCQ R pt ∧ R.1 62 2 = nI np ∧ ∀ p, p < np → R.1 66 p = nI (cm p) ∧ R.1 67 p = nI (sr p) ∧ P.1 p = some (ad p) ∧ ad p < P.2.2.2 ∧ P.2.2.1 (ad p) 0 = nI (hd p) ∧ P.2.2.1 (ad p) 2 = nI (kn p) ∧ kn p < 1024
section
variable {n : Nat} {par wt ans : Nat → Nat} {np : Nat} {ad hd kn cm sr pt : Nat → Nat} {e w : Nat} {S : zRst} {T : zM} {P : zP}
theorem zCE_f {R R' : zM} (h : zCE T R P n par wt ans np ad hd kn cm sr pt) (f : zfrR R R') : zCE T R' P n par wt ans np ad hd kn cm sr pt := by
  obtain ⟨a1, a2, a3, a4⟩ := h
  obtain ⟨f1, f2⟩ := f
  refine ⟨a1, fun k hk => (f1 64 k (by decide) (by omega)).trans (a2 k hk), (f1 62 2 (by decide) (by decide)).trans a3, fun p hp => ?_⟩
  obtain ⟨b1, b2, b3⟩ := a4 p hp
  exact ⟨(f1 66 p (by decide) (by omega)).trans b1, (f1 67 p (by decide) (by omega)).trans b2, b3⟩
def zgu2 (n : Nat) (par wt ans kn : Nat → Nat) (p w : Nat) : Nat := zgu n par wt ans (kn p) w
def zhl (hd : Nat → Nat) (o : Option Nat) : Int32 := match o with
  | none => nI 10
  | some b => nI (hd b)
theorem zx_quickest (hB : zBE np hd cm sr (zgu2 n par wt ans kn)) {R : zM} (hE : zCE T R P n par wt ans np ad hd kn cm sr pt) (hw : w < 24) (hS : zWS S) (h11 : R.1 62 11 = nI S.2.2.1) : xX6_quickest R P (nI w) = some (zo (-9) (zwho np hd cm sr S w)) := by
  obtain ⟨hnp, hb⟩ := hB
  obtain ⟨hT, hP, h2, hE⟩ := hE
  have ho16 := hS.1
  unfold xX6_quickest zwho
  rw [zfor (r := zo (-9) (zqk hd (zbs cm sr S.2.2.1 w) np)) (fun c => (zo (-9) (zqk hd (zbs cm sr S.2.2.1 w) c), zhl hd (zqk hd (zbs cm sr S.2.2.1 w) c), nI c)) 0 np (Nat.zero_le _) (by omega) ?_ ?_ ?_]
  · rfl
  · rfl
  · intro c h1 h2c
    obtain ⟨b1, b2, b3, b4⟩ := hb c h2c
    obtain ⟨e1, e2, e3, e4, e5, e6, e7⟩ := hE c h2c
    have hq : ∀ b, zqk hd (zbs cm sr S.2.2.1 w) c = some b → b < c := fun b h => (zqk_lt h).1
    have es : zqk hd (zbs cm sr S.2.2.1 w) (c + 1) = if zbs cm sr S.2.2.1 w c = true ∧ zless hd c (zqk hd (zbs cm sr S.2.2.1 w) c) = true then some c else zqk hd (zbs cm sr S.2.2.1 w) c := rfl
    rw [es]
    have hbs : zbs cm sr S.2.2.1 w c = (!(S.2.2.1.testBit c) && (if S.2.2.1 = 0 then cm c else sr c).testBit w) := rfl
    rw [hbs]
    generalize zqk hd (zbs cm sr S.2.2.1 w) c = o at hq ⊢
    have core : ∀ x : Nat, x < 2 ^ 24 → (if S.2.2.1 = 0 then cm c else sr c) = x → xX6_quickest_b57_9 R P (nI w) (zo (-9) o) (zhl hd o) (nI c) (some (ad c)) (nI x) = some (.inl (zo (-9) (if (!(S.2.2.1.testBit c) && (if S.2.2.1 = 0 then cm c else sr c).testBit w) = true ∧ zless hd c o = true then some c else o), zhl hd (if (!(S.2.2.1.testBit c) && (if S.2.2.1 = 0 then cm c else sr c).testBit w) = true ∧ zless hd c o = true then some c else o), nI (c + 1))) := by
      intro x hx ex
      unfold xX6_quickest_b57_9
      rw [ex, h11, zif (zbit0 (by omega) (by omega)), zif (zbit (by omega) (by omega)), nI_1]
      simp only [zon, zlet]
      rw [if_neg (show ¬ P.2.2.2 ≤ ad c by omega), e5]
      cases hb2 : x.testBit w with
      | false =>
        rw [if_neg (by decide), if_neg (fun z => by rw [Bool.and_false] at z; exact absurd z.1 (by decide))]
      | true =>
        rw [if_pos rfl, Bool.and_true]
        cases hb1 : S.2.2.1.testBit c with
        | true =>
          rw [if_neg (by decide), if_neg (fun z => absurd z.1 (by decide))]
        | false =>
          rw [if_pos rfl]
          cases o with
          | none =>
            show (if nI 10 ≤ nI (hd c) then _ else _) = _
            rw [if_neg (by rw [nI_leI (by omega) (by omega)]; omega), if_pos ⟨rfl, rfl⟩]
            rfl
          | some b =>
            have hbc := hq b rfl
            obtain ⟨g1, -⟩ := hb b (by omega)
            show (if nI (hd b) ≤ nI (hd c) then _ else _) = _
            by_cases q : hd b ≤ hd c
            · rw [if_pos (nI_le q (by omega)), if_neg (fun z => by have := of_decide_eq_true z.2; omega)]
            · rw [if_neg (by rw [nI_leI (by omega) (by omega)]; exact q), if_pos ⟨rfl, decide_eq_true (by omega)⟩]
              rfl
    simp only [xX6_quickest_L9, zlet]
    rw [h2, zl4, if_neg (by rw [nI_leI (by omega) (by omega)]; omega), if_neg (by rw [nI_leI (by omega) (by omega)]; omega), if_neg (nI_in (by omega) (by decide)), nI_clamp (by omega), e3, e1, e2, h11, zif (nI_eq0 (by omega))]
    by_cases q : S.2.2.1 = 0
    · rw [if_pos q]
      exact core (cm c) b2 (if_pos q)
    · rw [if_neg q]
      exact core (sr c) b3 (if_neg q)
  · simp only [xX6_quickest_L9]
    by_cases hh : np = 4
    · subst hh
      rw [if_pos (by decide)]
    · rw [zl4, if_neg (by rw [nI_leI (by omega) (by omega)]; omega), h2, if_pos (nI_le (Nat.le_refl _) (by omega))]
theorem zx_guessC (hV : zVT n par wt ans) (hW : zWh n par ans) (hT : zCS T n par wt ans) {s : Nat} (hs : s < 1024) (hw : w < n) : xX10_guessAt T (nI w) (nI s) = some (nI (zgu n par wt ans s w)) := by
  have hga := zx_guessAt (X := zsc n par wt ans w) (s := s) hV.2.1 hT.1.1 hw (by omega) (fun a g1 g2 => ((hT.2.1 w hw).2.2.2.2.1 a g1 g2).1) (fun a _ => by have := zsc_le hV (a := a) w hw; have := zbl_lt hV hw; omega)
  rw [← zgs_cross hV hW hw] at hga
  exact hga
theorem zx_answerOf (hn : n ≤ 24) (hT : zTC T n par wt ans) (hw : w < n) : xX10_answerOf T (nI w) = some (nI (ans w)) := by
  have h1 := zx_has hn hT.1 hw
  have h10 : ¬ (1 : Int32) = 0 := by decide
  have h3 := (hT.2 w hw).2.2
  simp (disch := first | assumption | omega) only [zlet, nI_leI, nI_ltI, nI_eq, nI_eq0, nI_clamp, nI_neg0, nI_add, nI_1, false_or, or_false, if_pos, if_neg, Int32.add_zero, Nat.add_zero, Option.bind_some, if_true, if_false, and_true, true_and, and_false, false_and, nI_10, nI_mul, zl2, zl3, zl4, zl5, zl6, zl8, zl9, zl20, zl24, zor0, zsi_g, zsj_g, zsi_2, zsj_1, xX10_answerOf, h1, h10, h3]
theorem zx_lengthOf (hn : n ≤ 24) (hT : zCS T n par wt ans) (hw : w < n) : xX10_lengthOf T (nI w) = some (nI (zwlen par w)) := by
  have h1 := zx_has hn hT.1.1 hw
  have h10 : ¬ (1 : Int32) = 0 := by decide
  have h3 := (hT.2.2.1 w hw).1
  simp (disch := first | assumption | omega) only [zlet, nI_leI, nI_ltI, nI_eq, nI_eq0, nI_clamp, nI_neg0, nI_add, nI_1, false_or, or_false, if_pos, if_neg, Int32.add_zero, Nat.add_zero, Option.bind_some, if_true, if_false, and_true, true_and, and_false, false_and, nI_10, nI_mul, zl2, zl3, zl4, zl5, zl6, zl8, zl9, zl20, zl24, zor0, zsi_g, zsj_g, zsi_2, zsj_1, xX10_lengthOf, h1, h10, h3]
theorem zx_playerAt {R : zM} {np : Nat} (hnp : np ≤ 4) (h2 : R.1 62 2 = nI np) {p : Nat} (hp : p < np) : xX6_playerAt R P (nI p) = some (P.1 p) := by
  unfold xX6_playerAt
  rw [if_neg (nI_pos (by omega)), zl4, if_neg (by rw [nI_leI (by omega) (by omega)]; omega), h2, if_neg (by rw [nI_leI (by omega) (by omega)]; omega), if_neg (nI_in (by omega) (by decide)), nI_clamp (by omega)]
theorem zx_answerBy (hV : zVT n par wt ans) (hW : zWh n par ans) (hQ : zVQ pt) (hB : zBE np hd cm sr (zgu2 n par wt ans kn)) {R : zM} (hE : zCE T R P n par wt ans np ad hd kn cm sr pt) (hw : w < n) (he : e < n) (hS : zWS S) (hR : zRC R np S) (ho : S.2.2.2.2.1 = false) {p : Nat} (hp : zwho np hd cm sr S w = some p) : ∃ R', xX6_answerBy T R P (nI p) (nI w) (nI e) = some R' ∧ zRC R' np (zaw pt (zwlen par) ans (zgu2 n par wt ans kn) e w S p) ∧ zfrR R R' := by
  have hn := hV.2.1
  obtain ⟨hnp, hb⟩ := hB
  obtain ⟨g1, g2⟩ := zwho_lt hp
  obtain ⟨h8, h9, h10, h11, h12, h68⟩ := hR
  have ho16 := hS.1
  have hans := zans_le hV he
  have hpa := zx_playerAt (P := P) hnp hE.2.2.1 g1
  -- the second half
  have key : ∀ A : zM, zfrR R A → A.1 62 8 = zo (-9) S.1 → A.1 62 9 = zo (-9) ((zfst S.2.1 p w).map (fun x => x.2)) → A.1 62 10 = zo (-9) ((zfst S.2.1 p w).map (fun x => x.1)) → A.1 62 11 = nI S.2.2.1 → (∀ p, p < np → A.1 68 p = iI (S.2.2.2.2.2 p)) → ∃ R', xX6_answerBy_b32 T A P (nI p) (nI w) (nI e) (ad p) = some R' ∧ zRC R' np (zaw pt (zwlen par) ans (zgu2 n par wt ans kn) e w S p) ∧ zfrR R R' := by
    intro A hf a8 a9 a10 a11 a68
    obtain ⟨r1, r2, r3, r4⟩ := zCE_f hE hf
    obtain ⟨s1, s2, s3, s4, s5, s6, s7⟩ := r4 p g1
    have c1 := zx_guessC hV hW r1 s7 hw
    have c2 := zx_answerOf hn r1.1 he
    have c3 := zx_lengthOf hn r1 he
    have c4 := zx_lengthOf hn r1 hw
    have q0 := r2 0 (by decide)
    have q1 := r2 1 (by decide)
    have q2 := r2 2 (by decide)
    have q3 := r2 3 (by decide)
    have d0 : ((0 : Int32)).toNatClampNeg = 0 := by decide
    have d1 : ((1 : Int32)).toNatClampNeg = 1 := by decide
    have d2 : ((2 : Int32)).toNatClampNeg = 2 := by decide
    have d3 : ((3 : Int32)).toNatClampNeg = 3 := by decide
    have hgl := zgu_lt (n := n) (par := par) (wt := wt) (ans := ans) (s := kn p) (w := w)
    unfold xX6_answerBy_b32 zaw
    rw [if_neg (by omega), s6, c1, Option.bind_some, c2, Option.bind_some, zifi (nI_eq (by omega) (by omega))]
    simp only [zlet, c3, c4, Option.bind_some]
    rw [if_neg (nI_in (show p < 4 by omega) (by decide)), nI_clamp (by omega), d0, d1, d2, d3]
    have eg : zgu2 n par wt ans kn p w = zgu n par wt ans (kn p) w := rfl
    rw [eg]
    by_cases q : zgu n par wt ans (kn p) w = ans e
    · rw [if_pos q, if_pos q]
      refine ⟨_, rfl, ⟨?_, ?_, ?_, ?_, ?_, fun r hr => ?_⟩, zfrR_t hf ⟨fun j k k1 k2 => ?_, rfl⟩⟩
      · simp (disch := first | assumption | omega) only [zlet, nI_leI, nI_ltI, nI_eq, nI_eq0, nI_clamp, nI_neg0, nI_add, nI_1, false_or, or_false, if_pos, if_neg, Int32.add_zero, Nat.add_zero, Option.bind_some, if_true, if_false, and_true, true_and, and_false, false_and, nI_10, nI_mul, zl2, zl3, zl4, zl5, zl6, zl8, zl9, zl20, zl24, zor0, zsi_g, zsj_g, zsi_2, zsj_1]
        rfl
      · simp (disch := first | assumption | omega) only [zlet, nI_leI, nI_ltI, nI_eq, nI_eq0, nI_clamp, nI_neg0, nI_add, nI_1, false_or, or_false, if_pos, if_neg, Int32.add_zero, Nat.add_zero, Option.bind_some, if_true, if_false, and_true, true_and, and_false, false_and, nI_10, nI_mul, zl2, zl3, zl4, zl5, zl6, zl8, zl9, zl20, zl24, zor0, zsi_g, zsj_g, zsi_2, zsj_1]
        exact a9
      · simp (disch := first | assumption | omega) only [zlet, nI_leI, nI_ltI, nI_eq, nI_eq0, nI_clamp, nI_neg0, nI_add, nI_1, false_or, or_false, if_pos, if_neg, Int32.add_zero, Nat.add_zero, Option.bind_some, if_true, if_false, and_true, true_and, and_false, false_and, nI_10, nI_mul, zl2, zl3, zl4, zl5, zl6, zl8, zl9, zl20, zl24, zor0, zsi_g, zsj_g, zsi_2, zsj_1]
        exact a10
      · simp (disch := first | assumption | omega) only [zlet, nI_leI, nI_ltI, nI_eq, nI_eq0, nI_clamp, nI_neg0, nI_add, nI_1, false_or, or_false, if_pos, if_neg, Int32.add_zero, Nat.add_zero, Option.bind_some, if_true, if_false, and_true, true_and, and_false, false_and, nI_10, nI_mul, zl2, zl3, zl4, zl5, zl6, zl8, zl9, zl20, zl24, zor0, zsi_g, zsj_g, zsi_2, zsj_1]
        exact a11
      · simp (disch := first | assumption | omega) only [zlet, nI_leI, nI_ltI, nI_eq, nI_eq0, nI_clamp, nI_neg0, nI_add, nI_1, false_or, or_false, if_pos, if_neg, Int32.add_zero, Nat.add_zero, Option.bind_some, if_true, if_false, and_true, true_and, and_false, false_and, nI_10, nI_mul, zl2, zl3, zl4, zl5, zl6, zl8, zl9, zl20, zl24, zor0, zsi_g, zsj_g, zsi_2, zsj_1]
      · show _ = iI (zgn S.2.2.2.2.2 p ((pt 0 : Int) + (pt 2 : Int) * ((zwlen par e : Int) - zwlen par w)) r)
        unfold zgn
        rw [zsi_ne (by omega)]
        by_cases z : r = p
        · subst z
          rw [zsi_y ⟨rfl, rfl⟩, if_pos rfl, zsi_ne (by omega), zsi_ne (by omega), q0, q2]
          simp only [nI_iI, iI_sub, iI_mul, iI_add]
        · rw [zsi_ne (fun y => z y.2), zsi_ne (by omega), if_neg z]
          exact a68 r hr
      · rw [zsi_ne (by omega), zsi_ne (by omega), zsi_ne (by omega)]
    · rw [if_neg q, if_neg q, if_neg (zin_w (show p < 4 by omega) (by decide))]
      have e3 : (zsi (zsi A 68 p (-A.1 64 1)) 62 11 ((zsi A 68 p (-A.1 64 1)).1 62 11 ||| ((1 : Int32) <<< (nI p &&& 31)))).1 64 3 = nI (pt 3) := by
        rw [zsi_ne (by omega), zsi_ne (by omega), q3]
      have hq3' := hQ.2.2.2
      have hq3 : ∀ (x y : Option zM), (if (zsi (zsi A 68 p (-A.1 64 1)) 62 11 ((zsi A 68 p (-A.1 64 1)).1 62 11 ||| ((1 : Int32) <<< (nI p &&& 31)))).1 64 3 = 0 then x else y) = (if decide (pt 3 = 0) = true then x else y) := by
        intro x y
        rw [e3, zif (nI_eq0 (by omega))]
        by_cases z : pt 3 = 0
        · rw [if_pos z, if_pos (decide_eq_true z)]
        · rw [if_neg z, if_neg (by rw [decide_eq_false z]; decide)]
      have fin : ∀ x : Int32, x = (if decide (pt 3 = 0) = true then 1 else 0) → zRC (zsi (zsi (zsi A 68 p (-A.1 64 1)) 62 11 ((zsi A 68 p (-A.1 64 1)).1 62 11 ||| ((1 : Int32) <<< (nI p &&& 31)))) 62 12 x) np (S.1, zfst S.2.1 p w, S.2.2.1 ||| 2 ^ p, S.2.2.2.1 + 1, decide (pt 3 = 0), zgn S.2.2.2.2.2 p (-(pt 1 : Int))) ∧ zfrR R (zsi (zsi (zsi A 68 p (-A.1 64 1)) 62 11 ((zsi A 68 p (-A.1 64 1)).1 62 11 ||| ((1 : Int32) <<< (nI p &&& 31)))) 62 12 x) := by
        intro x hx
        refine ⟨⟨?_, ?_, ?_, ?_, ?_, fun r hr => ?_⟩, zfrR_t hf ⟨fun j k k1 k2 => ?_, rfl⟩⟩
        · simp (disch := first | assumption | omega) only [zlet, nI_leI, nI_ltI, nI_eq, nI_eq0, nI_clamp, nI_neg0, nI_add, nI_1, false_or, or_false, if_pos, if_neg, Int32.add_zero, Nat.add_zero, Option.bind_some, if_true, if_false, and_true, true_and, and_false, false_and, nI_10, nI_mul, zl2, zl3, zl4, zl5, zl6, zl8, zl9, zl20, zl24, zor0, zsi_g, zsj_g, zsi_2, zsj_1]
          exact a8
        · simp (disch := first | assumption | omega) only [zlet, nI_leI, nI_ltI, nI_eq, nI_eq0, nI_clamp, nI_neg0, nI_add, nI_1, false_or, or_false, if_pos, if_neg, Int32.add_zero, Nat.add_zero, Option.bind_some, if_true, if_false, and_true, true_and, and_false, false_and, nI_10, nI_mul, zl2, zl3, zl4, zl5, zl6, zl8, zl9, zl20, zl24, zor0, zsi_g, zsj_g, zsi_2, zsj_1]
          exact a9
        · simp (disch := first | assumption | omega) only [zlet, nI_leI, nI_ltI, nI_eq, nI_eq0, nI_clamp, nI_neg0, nI_add, nI_1, false_or, or_false, if_pos, if_neg, Int32.add_zero, Nat.add_zero, Option.bind_some, if_true, if_false, and_true, true_and, and_false, false_and, nI_10, nI_mul, zl2, zl3, zl4, zl5, zl6, zl8, zl9, zl20, zl24, zor0, zsi_g, zsj_g, zsi_2, zsj_1]
          exact a10
        · simp (disch := first | assumption | omega) only [zlet, nI_leI, nI_ltI, nI_eq, nI_eq0, nI_clamp, nI_neg0, nI_add, nI_1, false_or, or_false, if_pos, if_neg, Int32.add_zero, Nat.add_zero, Option.bind_some, if_true, if_false, and_true, true_and, and_false, false_and, nI_10, nI_mul, zl2, zl3, zl4, zl5, zl6, zl8, zl9, zl20, zl24, zor0, zsi_g, zsj_g, zsi_2, zsj_1, a11, zshl, zor]
        · simp (disch := first | assumption | omega) only [zlet, nI_leI, nI_ltI, nI_eq, nI_eq0, nI_clamp, nI_neg0, nI_add, nI_1, false_or, or_false, if_pos, if_neg, Int32.add_zero, Nat.add_zero, Option.bind_some, if_true, if_false, and_true, true_and, and_false, false_and, nI_10, nI_mul, zl2, zl3, zl4, zl5, zl6, zl8, zl9, zl20, zl24, zor0, zsi_g, zsj_g, zsi_2, zsj_1]
          exact hx
        · show _ = iI (zgn S.2.2.2.2.2 p (-(pt 1 : Int)) r)
          unfold zgn
          rw [zsi_ne (by omega), zsi_ne (by omega)]
          by_cases z : r = p
          · subst z
            rw [zsi_y ⟨rfl, rfl⟩, if_pos rfl, q1, nI_iI, iI_neg]
          · rw [zsi_ne (fun y => z y.2), if_neg z]
            exact a68 r hr
        · rw [zsi_ne (by omega), zsi_ne (by omega), zsi_ne (by omega)]
      rw [hq3]
      by_cases z : pt 3 = 0
      · rw [if_pos (decide_eq_true z)]
        exact ⟨_, rfl, fin 1 (by rw [if_pos (decide_eq_true z)])⟩
      · rw [if_neg (by rw [decide_eq_false z]; decide)]
        exact ⟨_, rfl, fin 0 (by rw [if_neg (by rw [decide_eq_false z]; decide)])⟩
  have hE4 := hE.2.2.2 p g1
  unfold xX6_answerBy
  rw [hpa, Option.bind_some, hE4.2.2.1]
  simp only [zon]
  rw [if_neg (show ¬ P.2.2.2 ≤ ad p by have := hE4.2.2.2.1; omega)]
  cases hf : S.2.1 with
  | none =>
    rw [hf] at h9 h10
    rw [h10, if_pos (show zo (-9) (Option.map (fun x : Nat × Nat => x.1) none) = (-9 : Int32) from rfl)]
    simp only [zlet]
    refine key _ ⟨fun j k k1 k2 => ?_, rfl⟩ ?_ ?_ ?_ ?_ (fun r hr => ?_)
    · rw [zsi_ne (by omega), zsi_ne (by omega)]
    · simp (disch := first | assumption | omega) only [zlet, nI_leI, nI_ltI, nI_eq, nI_eq0, nI_clamp, nI_neg0, nI_add, nI_1, false_or, or_false, if_pos, if_neg, Int32.add_zero, Nat.add_zero, Option.bind_some, if_true, if_false, and_true, true_and, and_false, false_and, nI_10, nI_mul, zl2, zl3, zl4, zl5, zl6, zl8, zl9, zl20, zl24, zor0, zsi_g, zsj_g, zsi_2, zsj_1]
      exact h8
    · rw [hf]
      simp (disch := first | assumption | omega) only [zlet, nI_leI, nI_ltI, nI_eq, nI_eq0, nI_clamp, nI_neg0, nI_add, nI_1, false_or, or_false, if_pos, if_neg, Int32.add_zero, Nat.add_zero, Option.bind_some, if_true, if_false, and_true, true_and, and_false, false_and, nI_10, nI_mul, zl2, zl3, zl4, zl5, zl6, zl8, zl9, zl20, zl24, zor0, zsi_g, zsj_g, zsi_2, zsj_1]
      rfl
    · rw [hf]
      simp (disch := first | assumption | omega) only [zlet, nI_leI, nI_ltI, nI_eq, nI_eq0, nI_clamp, nI_neg0, nI_add, nI_1, false_or, or_false, if_pos, if_neg, Int32.add_zero, Nat.add_zero, Option.bind_some, if_true, if_false, and_true, true_and, and_false, false_and, nI_10, nI_mul, zl2, zl3, zl4, zl5, zl6, zl8, zl9, zl20, zl24, zor0, zsi_g, zsj_g, zsi_2, zsj_1]
      rfl
    · simp (disch := first | assumption | omega) only [zlet, nI_leI, nI_ltI, nI_eq, nI_eq0, nI_clamp, nI_neg0, nI_add, nI_1, false_or, or_false, if_pos, if_neg, Int32.add_zero, Nat.add_zero, Option.bind_some, if_true, if_false, and_true, true_and, and_false, false_and, nI_10, nI_mul, zl2, zl3, zl4, zl5, zl6, zl8, zl9, zl20, zl24, zor0, zsi_g, zsj_g, zsi_2, zsj_1]
      exact h11
    · rw [zsi_ne (by omega), zsi_ne (by omega)]
      exact h68 r hr
  | some x =>
    have hx := (hS.2.2.2.2.2.1 x hf).1
    rw [hf] at h9 h10
    have hne : ¬ zo (-9) (Option.map (fun x => x.1) (some x)) = (-9 : Int32) := by
      intro z
      have z2 : nI x.1 = (-9 : Int32) := z
      have : (nI x.1).toInt = (-9 : Int32).toInt := by rw [z2]
      rw [nI_toInt (by omega)] at this
      have h9' : (-9 : Int32).toInt = -9 := by decide
      omega
    rw [h10, if_neg hne]
    refine key R zfrR_r h8 ?_ ?_ h11 h68
    · rw [hf]; exact h9
    · rw [hf]; exact h10
end
