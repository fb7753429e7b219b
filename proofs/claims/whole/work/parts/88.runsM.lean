/-! runs, by the reference -/
def zo (d : Int32) (o : Option Nat) : Int32 := match o with
  | none => d
  | some k => nI k
def zRS (M : zM) (S : zRst) : Prop := M.1 0 34 = zo (-9) S.1 ∧ M.1 0 35 = zo (-9) (S.2.1.map (fun x => x.2)) ∧ M.1 0 36 = zo (-1) (S.2.1.map (fun x => x.1)) ∧ M.1 0 37 = nI S.2.2.2.1 ∧ M.1 0 38 = nI S.2.2.1 ∧ ∀ p, p < 4 → M.1 27 p = iI (S.2.2.2.2.2 p)
def zfrM (M M' : zM) : Prop := (∀ j k, j ≠ 26 → j ≠ 27 → ¬ (j = 0 ∧ 34 ≤ k ∧ k ≤ 38) → M'.1 j k = M.1 j k) ∧ M'.2 = M.2
theorem zfrM_r {M : zM} : zfrM M M := ⟨fun _ _ _ _ _ => rfl, rfl⟩
theorem zfrM_t {A B C : zM} (h1 : zfrM A B) (h2 : zfrM B C) : zfrM A C := ⟨fun j k g1 g2 g3 => (h2.1 j k g1 g2 g3).trans (h1.1 j k g1 g2 g3), h2.2.trans h1.2⟩
def zRE (M : zM) (n : Nat) (par wt ans : Nat → Nat) (np : Nat) (hd cm sr pt : Nat → Nat) (gu : Nat → Nat → Nat) : Prop := zRT M n par wt ans ∧ zRL M n par ∧ zRQ M pt ∧ M.1 0 13 = nI np ∧ ∀ p, p < np → M.1 8 p = nI (hd p) ∧ M.1 23 p = nI (cm p) ∧ M.1 24 p = nI (sr p) ∧ ∀ w, w < n → M.1 22 (24 * p + w) = nI (gu p w)
def zBE (np : Nat) (hd cm sr : Nat → Nat) (gu : Nat → Nat → Nat) : Prop := np ≤ 4 ∧ ∀ p, p < np → hd p ≤ 9 ∧ cm p < 2 ^ 24 ∧ sr p < 2 ^ 24 ∧ ∀ w, gu p w < 10
section
variable {n : Nat} {par wt ans : Nat → Nat} {np : Nat} {hd cm sr pt : Nat → Nat} {gu : Nat → Nat → Nat} {e w : Nat} {S : zRst}
theorem zRE_f {M M' : zM} (h : zRE M n par wt ans np hd cm sr pt gu) (f : zfrM M M') : zRE M' n par wt ans np hd cm sr pt gu := by
  obtain ⟨⟨a1, a2⟩, a3, a4, a5, a6⟩ := h
  obtain ⟨f1, f2⟩ := f
  refine ⟨⟨(f1 0 12 (by decide) (by decide) (by decide)).trans a1, fun i hi => ?_⟩, fun i hi => (f1 5 i (by decide) (by decide) (by omega)).trans (a3 i hi), fun k hk => (f1 11 k (by decide) (by decide) (by omega)).trans (a4 k hk), (f1 0 13 (by decide) (by decide) (by decide)).trans a5, fun p hp => ?_⟩
  · rw [f1 2 i (by decide) (by decide) (by omega), f1 3 i (by decide) (by decide) (by omega), f1 4 i (by decide) (by decide) (by omega)]
    exact a2 i hi
  · obtain ⟨b1, b2, b3, b4⟩ := a6 p hp
    exact ⟨(f1 8 p (by decide) (by decide) (by omega)).trans b1, (f1 23 p (by decide) (by decide) (by omega)).trans b2, (f1 24 p (by decide) (by decide) (by omega)).trans b3, fun w hw => (f1 22 _ (by decide) (by decide) (by omega)).trans (b4 w hw)⟩
theorem zx_answers (hB : zBE np hd cm sr gu) {M : zM} (hE : zRE M n par wt ans np hd cm sr pt gu) (hw : w < 24) (hS : zWS S) (h37 : M.1 0 37 = nI S.2.2.2.1) (h38 : M.1 0 38 = nI S.2.2.1) : xX12_answers M (nI w) = some (zo (-1) (zwho np hd cm sr S w)) := by
  obtain ⟨hnp, hb⟩ := hB
  obtain ⟨hT, hL, hP, h13, hE⟩ := hE
  have hpl := zpop_le _ hS.1
  have hp0 := zpop_0 _ hS.1
  have ho16 := hS.1
  have hwr := hS.2.1
  unfold xX12_answers zwho
  rw [zfor (r := zo (-1) (zqk hd (zbs cm sr S.2.2.1 w) np)) (fun c => (zo (-1) (zqk hd (zbs cm sr S.2.2.1 w) c), nI c)) 0 np (Nat.zero_le _) (by omega) ?_ ?_ ?_]
  · rfl
  · rfl
  · intro c h1 h2
    obtain ⟨b1, b2, b3, b4⟩ := hb c h2
    obtain ⟨e1, e2, e3, e4⟩ := hE c h2
    have hq : ∀ b, zqk hd (zbs cm sr S.2.2.1 w) c = some b → b < c := fun b h => (zqk_lt h).1
    have es : zqk hd (zbs cm sr S.2.2.1 w) (c + 1) = if zbs cm sr S.2.2.1 w c = true ∧ zless hd c (zqk hd (zbs cm sr S.2.2.1 w) c) = true then some c else zqk hd (zbs cm sr S.2.2.1 w) c := rfl
    rw [es]
    have hbs : zbs cm sr S.2.2.1 w c = (!(S.2.2.1.testBit c) && (if S.2.2.1 = 0 then cm c else sr c).testBit w) := rfl
    rw [hbs]
    generalize zqk hd (zbs cm sr S.2.2.1 w) c = o at hq ⊢
    have hm1 : ((-1 : Int32) < 0) = True := by decide
    have core : ∀ x : Nat, x < 2 ^ 24 → (if S.2.2.1 = 0 then cm c else sr c) = x → (if (((M.1 0 38) >>> (nI c &&& 31)) &&& (1 : Int32)) = 0 then
        (if ((nI x >>> (nI w &&& 31)) &&& (1 : Int32)) = (1 : Int32) then
        (if zo (-1) o < 0 then
        (some (.inl (nI c, (nI c + (1 : Int32)))))
        else
        if (zo (-1) o < 0 ∨ 4 ≤ (zo (-1) o).toNatClampNeg) then none else
        if (M.1 8 (zo (-1) o).toNatClampNeg) ≤ (M.1 8 c) then
        (some (.inl (zo (-1) o, (nI c + (1 : Int32)))))
        else
        some (.inl (nI c, (nI c + (1 : Int32)))))
        else
        some (.inl (zo (-1) o, (nI c + (1 : Int32)))))
        else
        some (.inl (zo (-1) o, (nI c + (1 : Int32)))) : Option ((Int32 × Int32) ⊕ Int32)) = some (.inl (zo (-1) (if (!(S.2.2.1.testBit c) && (if S.2.2.1 = 0 then cm c else sr c).testBit w) = true ∧ zless hd c o = true then some c else o), nI (c + 1))) := by
      intro x hx ex
      rw [ex, h38, zif (zbit0 (by omega) (by omega)), zif (zbit (by omega) (by omega)), nI_1]
      cases hb1 : S.2.2.1.testBit c with
      | true =>
        rw [if_neg (by decide), if_neg (fun z => by rw [Bool.not_true, Bool.false_and] at z; exact absurd z.1 (by decide))]
      | false =>
        rw [if_pos rfl, Bool.not_false, Bool.true_and]
        cases hb2 : x.testBit w with
        | false =>
          rw [if_neg (by decide), if_neg (fun z => absurd z.1 (by decide))]
        | true =>
          rw [if_pos rfl]
          cases o with
          | none =>
            rw [if_pos (show zo (-1) none < 0 by decide), if_pos ⟨rfl, rfl⟩]
            rfl
          | some b =>
            have hbc := hq b rfl
            obtain ⟨f1, -⟩ := hE b (by omega)
            obtain ⟨g1, -⟩ := hb b (by omega)
            have z1 : zo (-1) (some b) = nI b := rfl
            rw [z1, if_neg (nI_pos (by omega)), if_neg (nI_in (by omega) (by decide)), nI_clamp (by omega), f1, e1]
            by_cases q : hd b ≤ hd c
            · rw [if_pos (nI_le q (by omega)), if_neg (fun z => by have := of_decide_eq_true z.2; omega)]
              rfl
            · rw [if_neg (by rw [nI_leI (by omega) (by omega)]; exact q), if_pos ⟨rfl, decide_eq_true (by omega)⟩]
              rfl
    simp only [xX12_answers_L4, zlet]
    rw [h13, if_neg (by rw [nI_leI (by omega) (by omega)]; omega), h37, zif (nI_le0 (by omega)), if_neg (nI_in (by omega) (by decide)), nI_clamp (by omega)]
    by_cases q : S.2.2.1 = 0
    · rw [if_pos (by rw [hwr]; exact hp0.mpr q), e2]
      exact core (cm c) b2 (if_pos q)
    · rw [if_neg (by rw [hwr]; exact fun z => q (hp0.mp z)), if_neg (zin_w (by omega) (by decide)), e3]
      exact core (sr c) b3 (if_neg q)
  · simp only [xX12_answers_L4]
    rw [h13, if_pos (nI_le (Nat.le_refl _) (by omega))]
theorem zx_isOver (hV : zVT n par wt ans) (hQ : zVQ pt) (hB : zBE np hd cm sr gu) {M : zM} (hE : zRE M n par wt ans np hd cm sr pt gu) (hw : w < n) (he : e < n) (hS : zWS S) (hR : zRS M S) (ho : S.2.2.2.2.1 = false) {p : Nat} (hp : zwho np hd cm sr S w = some p) : ∃ M', xX12_isOver M (nI p) (nI w) (nI e) = some ((if (zaw pt (zwlen par) ans gu e w S p).2.2.2.2.1 = true then 1 else 0), M') ∧ zRS M' (zaw pt (zwlen par) ans gu e w S p) ∧ zfrM M M' := by
  have hn := hV.2.1
  obtain ⟨hnp, hb⟩ := hB
  obtain ⟨g1, g2⟩ := zwho_lt hp
  obtain ⟨h34, h35, h36, h37, h38, h27⟩ := hR
  have hg0 : S.2.2.2.2.2 p = 0 := (hS.2.2.1 ho).2 p g2
  have ho16 := hS.1
  have hpl := zpop_le _ hS.1
  have hwr := hS.2.1
  have hans := zans_le hV he
  obtain ⟨-, -, -, hgl⟩ := hb p g1
  have hglw := hgl w
  -- the second half
  have key : ∀ A : zM, zfrM M A → A.1 0 34 = zo (-9) S.1 → A.1 0 35 = zo (-9) ((zfst S.2.1 p w).map (fun x => x.2)) → A.1 0 36 = zo (-1) ((zfst S.2.1 p w).map (fun x => x.1)) → A.1 0 37 = nI S.2.2.2.1 → A.1 0 38 = nI S.2.2.1 → (∀ p, p < 4 → A.1 27 p = iI (S.2.2.2.2.2 p)) → ∃ M', xX12_isOver_b17 A (nI p) (nI w) (nI e) = some ((if (zaw pt (zwlen par) ans gu e w S p).2.2.2.2.1 = true then 1 else 0), M') ∧ zRS M' (zaw pt (zwlen par) ans gu e w S p) ∧ zfrM M M' := by
    intro A hf a34 a35 a36 a37 a38 a27
    obtain ⟨⟨r1, r2⟩, r3, r4, r5, r6⟩ := zRE_f hE hf
    obtain ⟨s1, s2, s3, s4⟩ := r6 p g1
    obtain ⟨t1, t2, t3⟩ := r2 e he
    have s4w := s4 w hw
    have l1 := r3 e he
    have l2 := r3 w hw
    have q0 := r4 0 (by decide)
    have q1 := r4 1 (by decide)
    have q2 := r4 2 (by decide)
    have q3 := r4 3 (by decide)
    have a27p := a27 p (by omega)
    rw [hg0] at a27p
    have e24 : ((24 : Int32) * nI p) + nI w = nI (24 * p + w) := by rw [zl24, nI_mul, nI_add]
    have c0 : ((0 : Int32)).toNatClampNeg = 0 := by decide
    have c1 : ((1 : Int32)).toNatClampNeg = 1 := by decide
    have c2 : ((2 : Int32)).toNatClampNeg = 2 := by decide
    have c3 : ((3 : Int32)).toNatClampNeg = 3 := by decide
    unfold xX12_isOver_b17 zaw
    simp only [zlet]
    rw [e24, if_neg (nI_in (by omega) (by decide)), if_neg (nI_in (by omega) (by decide)), nI_clamp (by omega), nI_clamp (by omega), s4w, t3, zifi (nI_eq (by omega) (by omega)), if_neg (nI_in (show p < 4 by omega) (by decide)), if_neg (nI_in (show w < 24 by omega) (by decide)), nI_clamp (by omega), nI_clamp (by omega), c0, c1, c2, c3]
    by_cases q : gu p w = ans e
    · rw [if_pos q, if_pos q]
      refine ⟨_, rfl, ⟨?_, ?_, ?_, ?_, ?_, fun r hr => ?_⟩, zfrM_t hf ⟨fun j k k1 k2 k3 => ?_, rfl⟩⟩
      · simp (disch := first | assumption | omega) only [zlet, nI_leI, nI_ltI, nI_eq, nI_eq0, nI_clamp, nI_neg0, nI_add, nI_1, false_or, or_false, if_pos, if_neg, Int32.add_zero, Nat.add_zero, Option.bind_some, if_true, if_false, and_true, true_and, and_false, false_and, nI_10, nI_mul, zl2, zl3, zl4, zl5, zl6, zl8, zl9, zl20, zl24, zor0, zsi_g, zsj_g, zsi_2, zsj_1]
        rfl
      · simp (disch := first | assumption | omega) only [zlet, nI_leI, nI_ltI, nI_eq, nI_eq0, nI_clamp, nI_neg0, nI_add, nI_1, false_or, or_false, if_pos, if_neg, Int32.add_zero, Nat.add_zero, Option.bind_some, if_true, if_false, and_true, true_and, and_false, false_and, nI_10, nI_mul, zl2, zl3, zl4, zl5, zl6, zl8, zl9, zl20, zl24, zor0, zsi_g, zsj_g, zsi_2, zsj_1]
        exact a35
      · simp (disch := first | assumption | omega) only [zlet, nI_leI, nI_ltI, nI_eq, nI_eq0, nI_clamp, nI_neg0, nI_add, nI_1, false_or, or_false, if_pos, if_neg, Int32.add_zero, Nat.add_zero, Option.bind_some, if_true, if_false, and_true, true_and, and_false, false_and, nI_10, nI_mul, zl2, zl3, zl4, zl5, zl6, zl8, zl9, zl20, zl24, zor0, zsi_g, zsj_g, zsi_2, zsj_1]
        exact a36
      · simp (disch := first | assumption | omega) only [zlet, nI_leI, nI_ltI, nI_eq, nI_eq0, nI_clamp, nI_neg0, nI_add, nI_1, false_or, or_false, if_pos, if_neg, Int32.add_zero, Nat.add_zero, Option.bind_some, if_true, if_false, and_true, true_and, and_false, false_and, nI_10, nI_mul, zl2, zl3, zl4, zl5, zl6, zl8, zl9, zl20, zl24, zor0, zsi_g, zsj_g, zsi_2, zsj_1]
        exact a37
      · simp (disch := first | assumption | omega) only [zlet, nI_leI, nI_ltI, nI_eq, nI_eq0, nI_clamp, nI_neg0, nI_add, nI_1, false_or, or_false, if_pos, if_neg, Int32.add_zero, Nat.add_zero, Option.bind_some, if_true, if_false, and_true, true_and, and_false, false_and, nI_10, nI_mul, zl2, zl3, zl4, zl5, zl6, zl8, zl9, zl20, zl24, zor0, zsi_g, zsj_g, zsi_2, zsj_1]
        exact a38
      · show _ = iI (zgn S.2.2.2.2.2 p ((pt 0 : Int) + (pt 2 : Int) * ((zwlen par e : Int) - zwlen par w)) r)
        unfold zgn
        by_cases z : r = p
        · subst z
          rw [zsi_y ⟨rfl, rfl⟩, if_pos rfl]
          rw [zsi_ne (by omega), zsi_ne (by omega), zsi_ne (by omega), zsi_ne (by omega), zsi_ne (by omega), a27p, q0, q2, l1, l2]
          simp only [nI_iI, iI_sub, iI_mul, iI_add]
          rw [Int.zero_add]
        · rw [zsi_ne (fun y => z y.2), zsi_ne (by omega), if_neg z]
          exact a27 r hr
      · rw [zsi_ne (by omega), zsi_ne (by omega)]
    · rw [if_neg q, if_neg q, if_neg (zin_w (show p < 4 by omega) (by decide))]
      have hq3 : (if (zsi (zsi (zsi A 27 p (A.1 27 p - A.1 11 1)) 0 38 ((zsi A 27 p (A.1 27 p - A.1 11 1)).1 0 38 ||| ((1 : Int32) <<< (nI p &&& 31)))) 0 37 ((zsi (zsi A 27 p (A.1 27 p - A.1 11 1)) 0 38 ((zsi A 27 p (A.1 27 p - A.1 11 1)).1 0 38 ||| ((1 : Int32) <<< (nI p &&& 31)))).1 0 37 + 1)).1 11 3 = 0 then (some ((1 : Int32), zsi (zsi (zsi A 27 p (A.1 27 p - A.1 11 1)) 0 38 ((zsi A 27 p (A.1 27 p - A.1 11 1)).1 0 38 ||| ((1 : Int32) <<< (nI p &&& 31)))) 0 37 ((zsi (zsi A 27 p (A.1 27 p - A.1 11 1)) 0 38 ((zsi A 27 p (A.1 27 p - A.1 11 1)).1 0 38 ||| ((1 : Int32) <<< (nI p &&& 31)))).1 0 37 + 1))) else some ((0 : Int32), zsi (zsi (zsi A 27 p (A.1 27 p - A.1 11 1)) 0 38 ((zsi A 27 p (A.1 27 p - A.1 11 1)).1 0 38 ||| ((1 : Int32) <<< (nI p &&& 31)))) 0 37 ((zsi (zsi A 27 p (A.1 27 p - A.1 11 1)) 0 38 ((zsi A 27 p (A.1 27 p - A.1 11 1)).1 0 38 ||| ((1 : Int32) <<< (nI p &&& 31)))).1 0 37 + 1))) = some ((if decide (pt 3 = 0) = true then (1 : Int32) else 0), zsi (zsi (zsi A 27 p (A.1 27 p - A.1 11 1)) 0 38 ((zsi A 27 p (A.1 27 p - A.1 11 1)).1 0 38 ||| ((1 : Int32) <<< (nI p &&& 31)))) 0 37 ((zsi (zsi A 27 p (A.1 27 p - A.1 11 1)) 0 38 ((zsi A 27 p (A.1 27 p - A.1 11 1)).1 0 38 ||| ((1 : Int32) <<< (nI p &&& 31)))).1 0 37 + 1)) := by
        have e3 : (zsi (zsi (zsi A 27 p (A.1 27 p - A.1 11 1)) 0 38 ((zsi A 27 p (A.1 27 p - A.1 11 1)).1 0 38 ||| ((1 : Int32) <<< (nI p &&& 31)))) 0 37 ((zsi (zsi A 27 p (A.1 27 p - A.1 11 1)) 0 38 ((zsi A 27 p (A.1 27 p - A.1 11 1)).1 0 38 ||| ((1 : Int32) <<< (nI p &&& 31)))).1 0 37 + 1)).1 11 3 = nI (pt 3) := by
          rw [zsi_ne (by omega), zsi_ne (by omega), zsi_ne (by omega), q3]
        have hq3' := hQ.2.2.2
        rw [e3, zif (nI_eq0 (by omega))]
        by_cases z : pt 3 = 0
        · rw [if_pos z, if_pos (decide_eq_true z)]
        · rw [if_neg z, if_neg (by rw [decide_eq_false z]; decide)]
      refine ⟨_, hq3, ⟨?_, ?_, ?_, ?_, ?_, fun r hr => ?_⟩, zfrM_t hf ⟨fun j k k1 k2 k3 => ?_, rfl⟩⟩
      · simp (disch := first | assumption | omega) only [zlet, nI_leI, nI_ltI, nI_eq, nI_eq0, nI_clamp, nI_neg0, nI_add, nI_1, false_or, or_false, if_pos, if_neg, Int32.add_zero, Nat.add_zero, Option.bind_some, if_true, if_false, and_true, true_and, and_false, false_and, nI_10, nI_mul, zl2, zl3, zl4, zl5, zl6, zl8, zl9, zl20, zl24, zor0, zsi_g, zsj_g, zsi_2, zsj_1]
        exact a34
      · simp (disch := first | assumption | omega) only [zlet, nI_leI, nI_ltI, nI_eq, nI_eq0, nI_clamp, nI_neg0, nI_add, nI_1, false_or, or_false, if_pos, if_neg, Int32.add_zero, Nat.add_zero, Option.bind_some, if_true, if_false, and_true, true_and, and_false, false_and, nI_10, nI_mul, zl2, zl3, zl4, zl5, zl6, zl8, zl9, zl20, zl24, zor0, zsi_g, zsj_g, zsi_2, zsj_1]
        exact a35
      · simp (disch := first | assumption | omega) only [zlet, nI_leI, nI_ltI, nI_eq, nI_eq0, nI_clamp, nI_neg0, nI_add, nI_1, false_or, or_false, if_pos, if_neg, Int32.add_zero, Nat.add_zero, Option.bind_some, if_true, if_false, and_true, true_and, and_false, false_and, nI_10, nI_mul, zl2, zl3, zl4, zl5, zl6, zl8, zl9, zl20, zl24, zor0, zsi_g, zsj_g, zsi_2, zsj_1]
        exact a36
      · simp (disch := first | assumption | omega) only [zlet, nI_leI, nI_ltI, nI_eq, nI_eq0, nI_clamp, nI_neg0, nI_add, nI_1, false_or, or_false, if_pos, if_neg, Int32.add_zero, Nat.add_zero, Option.bind_some, if_true, if_false, and_true, true_and, and_false, false_and, nI_10, nI_mul, zl2, zl3, zl4, zl5, zl6, zl8, zl9, zl20, zl24, zor0, zsi_g, zsj_g, zsi_2, zsj_1, a37]
      · simp (disch := first | assumption | omega) only [zlet, nI_leI, nI_ltI, nI_eq, nI_eq0, nI_clamp, nI_neg0, nI_add, nI_1, false_or, or_false, if_pos, if_neg, Int32.add_zero, Nat.add_zero, Option.bind_some, if_true, if_false, and_true, true_and, and_false, false_and, nI_10, nI_mul, zl2, zl3, zl4, zl5, zl6, zl8, zl9, zl20, zl24, zor0, zsi_g, zsj_g, zsi_2, zsj_1, a38, zshl, zor]
      · show _ = iI (zgn S.2.2.2.2.2 p (-(pt 1 : Int)) r)
        unfold zgn
        rw [zsi_ne (by omega), zsi_ne (by omega)]
        by_cases z : r = p
        · subst z
          rw [zsi_y ⟨rfl, rfl⟩, if_pos rfl, a27p, q1, nI_iI, iI_sub, Int.zero_sub]
        · rw [zsi_ne (fun y => z y.2), if_neg z]
          exact a27 r hr
      · rw [zsi_ne (by omega), zsi_ne (by omega), zsi_ne (by omega)]
  unfold xX12_isOver
  cases hf : S.2.1 with
  | none =>
    rw [hf] at h36 h35
    rw [h36, if_neg (by decide)]
    refine key _ ⟨fun j k k1 k2 k3 => ?_, rfl⟩ ?_ ?_ ?_ ?_ ?_ (fun r hr => ?_)
    · rw [zsi_ne (by omega), zsi_ne (by omega)]
    · simp (disch := first | assumption | omega) only [zlet, nI_leI, nI_ltI, nI_eq, nI_eq0, nI_clamp, nI_neg0, nI_add, nI_1, false_or, or_false, if_pos, if_neg, Int32.add_zero, Nat.add_zero, Option.bind_some, if_true, if_false, and_true, true_and, and_false, false_and, nI_10, nI_mul, zl2, zl3, zl4, zl5, zl6, zl8, zl9, zl20, zl24, zor0, zsi_g, zsj_g, zsi_2, zsj_1]
      exact h34
    · rw [hf]
      simp (disch := first | assumption | omega) only [zlet, nI_leI, nI_ltI, nI_eq, nI_eq0, nI_clamp, nI_neg0, nI_add, nI_1, false_or, or_false, if_pos, if_neg, Int32.add_zero, Nat.add_zero, Option.bind_some, if_true, if_false, and_true, true_and, and_false, false_and, nI_10, nI_mul, zl2, zl3, zl4, zl5, zl6, zl8, zl9, zl20, zl24, zor0, zsi_g, zsj_g, zsi_2, zsj_1]
      rfl
    · rw [hf]
      simp (disch := first | assumption | omega) only [zlet, nI_leI, nI_ltI, nI_eq, nI_eq0, nI_clamp, nI_neg0, nI_add, nI_1, false_or, or_false, if_pos, if_neg, Int32.add_zero, Nat.add_zero, Option.bind_some, if_true, if_false, and_true, true_and, and_false, false_and, nI_10, nI_mul, zl2, zl3, zl4, zl5, zl6, zl8, zl9, zl20, zl24, zor0, zsi_g, zsj_g, zsi_2, zsj_1]
      rfl
    · simp (disch := first | assumption | omega) only [zlet, nI_leI, nI_ltI, nI_eq, nI_eq0, nI_clamp, nI_neg0, nI_add, nI_1, false_or, or_false, if_pos, if_neg, Int32.add_zero, Nat.add_zero, Option.bind_some, if_true, if_false, and_true, true_and, and_false, false_and, nI_10, nI_mul, zl2, zl3, zl4, zl5, zl6, zl8, zl9, zl20, zl24, zor0, zsi_g, zsj_g, zsi_2, zsj_1]
      exact h37
    · simp (disch := first | assumption | omega) only [zlet, nI_leI, nI_ltI, nI_eq, nI_eq0, nI_clamp, nI_neg0, nI_add, nI_1, false_or, or_false, if_pos, if_neg, Int32.add_zero, Nat.add_zero, Option.bind_some, if_true, if_false, and_true, true_and, and_false, false_and, nI_10, nI_mul, zl2, zl3, zl4, zl5, zl6, zl8, zl9, zl20, zl24, zor0, zsi_g, zsj_g, zsi_2, zsj_1]
      exact h38
    · rw [zsi_ne (by omega), zsi_ne (by omega)]
      exact h27 r hr
  | some x =>
    have hx := (hS.2.2.2.2.2.1 x hf).1
    rw [hf] at h36 h35
    rw [h36, if_pos (show 0 ≤ zo (-1) (Option.map (fun x => x.1) (some x)) from nI_pos' (Nat.lt_trans hx (by decide)))]
    refine key M zfrM_r h34 ?_ ?_ h37 h38 h27
    · rw [hf]; exact h35
    · rw [hf]; exact h36
end
