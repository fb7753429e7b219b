/-! a quiz's statements: the players, the statement -/
section
def zks (nt : Nat) (tp : Nat → Nat) (a : Nat) : Int32 := if a < nt then zkd (tp a) else -1
def zq1 (nt : Nat) (tp : Nat → Nat) (a : Nat) : Nat := a + 1 + zcn nt tp (a + 1) 1
def zq2 (nt : Nat) (tp : Nat → Nat) (a : Nat) : Nat := zq1 nt tp a + zcn nt tp (zq1 nt tp a) 3
def zq3 (nt : Nat) (tp : Nat → Nat) (a : Nat) : Nat := zq2 nt tp a + 1 + zkn nt tp (zq2 nt tp a + 1) 9
def zpd (nt : Nat) (tp : Nat → Nat) (a : Nat) : Bool × Nat :=
  if zks nt tp a < 0 then (false, a) else
  if zcn nt tp (a + 1) 1 = 0 then (false, zq1 nt tp a) else
  if zcn nt tp (zq1 nt tp a) 3 = 0 then (false, zq2 nt tp a) else
  if ¬ (zq2 nt tp a < nt ∧ tp (zq2 nt tp a) = 58) then (false, zq2 nt tp a) else
  if zkn nt tp (zq2 nt tp a + 1) 9 = 0 then (false, zq3 nt tp a) else
  if ¬ (zq3 nt tp a < nt ∧ tp (zq3 nt tp a) = 59) then (false, zq3 nt tp a) else (true, zq3 nt tp a + 1)
variable {nt a z : Nat} {tp : Nat → Nat} {M X : zM}
theorem zfW_K {A C : zM} (h : zfW z M A) (h2 : zfK z A C) : zfW z M C := ⟨fun j k g1 g2 => (h2.1 j k g1 (by omega)).trans (h.1 j k g1 g2), h2.2.trans h.2⟩
theorem zfX_L {A C : zM} (h : zfX X A) (h2 : zfL A C) : zfX X C := ⟨fun j k g1 => (h2.1 j k (by omega)).trans (h.1 j k g1), h2.2.trans h.2⟩
theorem zks_M (h : zaM nt tp a M) : (xX12_sign M).bind (fun q1 => xX12_kindOf q1) = some (zks nt tp a) := by
  rw [zx_sign h.1 h.2.1 h.2.2.1 (by have := h.2.2.2; omega), Option.bind_some]
  unfold zsg zks
  by_cases g : a < nt
  · rw [if_pos g, if_pos g, zkd_M _ (h.1.2 a g).2]
  · rw [if_neg g, if_neg g]
    decide
theorem znn {v : Int32} : (0 ≤ v) = ¬ (v < 0) := propext (Int32.not_lt).symm
theorem zx_readsPlayer (h : zaM nt tp a M) (ha : a < 2 ^ 11) (hz : z < 32) : zok (xX12_readsPlayer M (nI z)) (fun r => r.1 = (if (zpd nt tp a).1 = true then 1 else 0) ∧ r.2.1 0 22 = nI (zpd nt tp a).2 ∧ ((zpd nt tp a).1 = true → r.2.1 14 z = znv nt tp (a + 1) 1 ∧ r.2.1 15 z = znv nt tp (zq1 nt tp a) 3 ∧ r.2.1 16 z = zks nt tp a ∧ r.2.1 17 z = nI (zk17 tp (zq2 nt tp a + 1) (zkn nt tp (zq2 nt tp a + 1) 9))) ∧ zfW z M r.2) := by
  have c1 := zcn_le (nt := nt) (tp := tp) (a := a + 1) 1
  have c2 := zcn_le (nt := nt) (tp := tp) (a := zq1 nt tp a) 3
  have c3 := zkn_le (nt := nt) (tp := tp) (a := zq2 nt tp a + 1) 9
  have w1 : a + 1 + zcn nt tp (a + 1) 1 = zq1 nt tp a := rfl
  have w2 : zq1 nt tp a + zcn nt tp (zq1 nt tp a) 3 = zq2 nt tp a := rfl
  have w3 : zq2 nt tp a + 1 + zkn nt tp (zq2 nt tp a + 1) 9 = zq3 nt tp a := rfl
  have hcl : (nI z).toNatClampNeg = z := nI_clamp (by omega)
  have hk : ∃ s, xX12_sign M = some s ∧ xX12_kindOf s = some (zks nt tp a) := by
    have := zks_M h
    cases hs : xX12_sign M with
    | none => rw [hs] at this; cases this
    | some s => rw [hs, Option.bind_some] at this; exact ⟨s, rfl, this⟩
  obtain ⟨s, hs1, hs2⟩ := hk
  unfold xX12_readsPlayer xX12_readsKnown
  simp only [hs1, hs2, Option.bind_some, hcl, if_neg (zin_w hz (show 32 < 2 ^ 31 by decide)), zlet]
  rw [zif (show (0 ≤ (zsi M 16 z (zks nt tp a)).1 16 z) = ¬ (zks nt tp a < 0) by rw [zsi_y ⟨rfl, rfl⟩, znn])]
  by_cases g0 : zks nt tp a < 0
  · have e : zpd nt tp a = (false, a) := if_pos g0
    rw [e]
    exact zok_n (fun z => z g0) (zok_some ⟨rfl, (zaM_si h (by decide)).2.2.1, fun y => absurd (show false = true from y) (by decide), by repeat (first | exact zfW_r | refine zfW_si ?_ (by decide) | refine zfW_22 ?_)⟩)
  refine zok_y g0 ?_
  have s0 := zaM_22 (zaM_si (j := 16) (k := z) (v := zks nt tp a) h (by decide)) (show a + 1 < 2 ^ 14 by omega)
  have e22 : (zsi M 16 z (zks nt tp a)).1 0 22 + 1 = nI (a + 1) := by rw [zsi_ne (by omega), h.2.2.1, nI_1]
  rw [e22]
  refine zs_num s0 (d := 1) rfl (by decide) (by decide) (by omega) ?_
  rw [w1]
  intro s
  have s1 := zaM_si (j := 14) (k := z) (v := znv nt tp (a + 1) 1) s (by decide)
  clear s
  rw [zif (show (0 ≤ (zsi (zsi (zsi (zsi M 16 z (zks nt tp a)) 0 22 (nI (a + 1))) 0 22 (nI (zq1 nt tp a))) 14 z (znv nt tp (a + 1) 1)).1 14 z) = ¬ (znv nt tp (a + 1) 1 < 0) by rw [zsi_y ⟨rfl, rfl⟩, znn])]
  by_cases g1 : zcn nt tp (a + 1) 1 = 0
  · have e : zpd nt tp a = (false, zq1 nt tp a) := by unfold zpd; rw [if_neg g0, if_pos g1]
    rw [e]
    exact zok_n (fun z => z (znv_neg g1)) (zok_some ⟨rfl, s1.2.2.1, fun y => absurd (show false = true from y) (by decide), by repeat (first | exact zfW_r | refine zfW_si ?_ (by decide) | refine zfW_22 ?_)⟩)
  refine zok_y (znv_pos (by decide) g1) ?_
  refine zs_num s1 (d := 3) rfl (by decide) (by decide) (by omega) ?_
  rw [w2]
  intro s
  have s2 := zaM_si (j := 15) (k := z) (v := znv nt tp (zq1 nt tp a) 3) s (by decide)
  clear s
  by_cases g2 : zcn nt tp (zq1 nt tp a) 3 = 0
  · have e : zpd nt tp a = (false, zq2 nt tp a) := by unfold zpd; rw [if_neg g0, if_neg g1, if_pos g2]
    rw [e]
    refine zok_y ?_ (zok_some ⟨rfl, s2.2.2.1, fun y => absurd (show false = true from y) (by decide), by repeat (first | exact zfW_r | refine zfW_si ?_ (by decide) | refine zfW_22 ?_)⟩)
    rw [zsi_y ⟨rfl, rfl⟩]
    exact znv_neg g2
  refine zok_n (by rw [zsi_y ⟨rfl, rfl⟩]; exact znv_pos (by decide) g2) ?_
  refine zs_tk s2 (b := 58) rfl (by decide) (by omega) ?_ ?_
  rotate_left
  · intro k0
    have e : zpd nt tp a = (false, zq2 nt tp a) := by unfold zpd; rw [if_neg g0, if_neg g1, if_neg g2, if_pos k0]
    rw [e]
    exact zok_y rfl (zok_some ⟨rfl, s2.2.2.1, fun y => absurd (show false = true from y) (by decide), by repeat (first | exact zfW_r | refine zfW_si ?_ (by decide) | refine zfW_22 ?_)⟩)
  intro k0 p0
  refine zok_n (show ¬ (1 : Int32) = 0 by decide) ?_
  have p1 := zaM_si (j := 17) (k := z) (v := 0) p0 (by decide)
  obtain ⟨r, hr, r1, r2, r3, r4⟩ := zx_known p1 (by omega) hz (zsi_y ⟨rfl, rfl⟩)
  dsimp only
  rw [hr, Option.bind_some, r1]
  rw [w3] at r2
  by_cases g3 : zkn nt tp (zq2 nt tp a + 1) 9 = 0
  · have e : zpd nt tp a = (false, zq3 nt tp a) := by unfold zpd; rw [if_neg g0, if_neg g1, if_neg g2, if_neg (fun z => z k0), if_pos g3]
    rw [e, if_pos (by rw [nI_le0 (by omega)]; exact g3), Option.bind_some]
    exact zok_y rfl (zok_some ⟨rfl, r2.2.2.1, fun y => absurd (show false = true from y) (by decide), by refine zfW_K ?_ r4; repeat (first | exact zfW_r | refine zfW_si ?_ (by decide) | refine zfW_22 ?_)⟩)
  rw [if_neg (by rw [nI_le0 (by omega)]; exact g3), show (59 : Int32) = nI 59 from rfl, zx_takes r2.1 r2.2.1 r2.2.2.1 (by omega) (by decide), Option.bind_some]
  have key : zfW z M r.1 := by
    refine zfW_K ?_ r4
    repeat (first | exact zfW_r | refine zfW_si ?_ (by decide) | refine zfW_22 ?_)
  by_cases k1 : zq3 nt tp a < nt ∧ tp (zq3 nt tp a) = 59
  · have e : zpd nt tp a = (true, zq3 nt tp a + 1) := by unfold zpd; rw [if_neg g0, if_neg g1, if_neg g2, if_neg (fun z => z k0), if_neg g3, if_neg (fun z => z k1)]
    rw [e, if_pos k1, if_neg (show ¬ (1 : Int32) = 0 by decide), Option.bind_some, if_neg (show ¬ (1 : Int32) = 0 by decide)]
    refine zok_some ⟨rfl, zsi_y ⟨rfl, rfl⟩, fun _ => ⟨?_, ?_, ?_, ?_⟩, zfW_22 key⟩
    · rw [zsi_ne (by omega), r4.1 _ _ (by omega) (by omega)]
      repeat (first | rw [zsi_y ⟨rfl, rfl⟩] | rw [zsi_ne (by omega)])
    · rw [zsi_ne (by omega), r4.1 _ _ (by omega) (by omega)]
      repeat (first | rw [zsi_y ⟨rfl, rfl⟩] | rw [zsi_ne (by omega)])
    · rw [zsi_ne (by omega), r4.1 _ _ (by omega) (by omega)]
      repeat (first | rw [zsi_y ⟨rfl, rfl⟩] | rw [zsi_ne (by omega)])
    · rw [zsi_ne (by omega)]
      exact r3
  · have e : zpd nt tp a = (false, zq3 nt tp a) := by unfold zpd; rw [if_neg g0, if_neg g1, if_neg g2, if_neg (fun z => z k0), if_neg g3, if_pos k1]
    rw [e, if_neg k1, if_pos rfl, Option.bind_some, if_pos rfl]
    exact zok_some ⟨rfl, r2.2.2.1, fun y => absurd (show false = true from y) (by decide), key⟩
/-- the class reads a kind -/
theorem zx_readKind (h : zaX nt tp a X) : xX8_readKind X = some (zks nt tp a, if zks nt tp a < 0 then X else zsi X 70 2 (nI (a + 1))) := by
  unfold xX8_readKind
  rw [zx_here h.1 h.2.1 h.2.2.1 (by have := h.2.2.2; omega), Option.bind_some]
  unfold zsg zks
  by_cases g : a < nt
  · have h256 := (h.1.2 a g).2
    rw [if_pos g, if_pos g, if_pos (nI_pos' (by omega)), zkd_C _ h256, Option.bind_some]
    by_cases q : zkd (tp a) < 0
    · rw [if_pos q, if_pos q]
    · rw [if_neg q, if_neg q]
      simp only [zlet]
      rw [h.2.2.1, nI_1]
  · rw [if_neg g, if_neg g, if_neg (show ¬ (0 : Int32) ≤ -1 by decide), if_pos (show (-1 : Int32) < 0 by decide)]
theorem zx_readPlayer (h : zaX nt tp a X) (ha : a < 2 ^ 11) : zok (xX8_readPlayer X) (fun r => r.1 = (if (zpd nt tp a).1 = true then 1 else 0) ∧ r.2.1 70 2 = nI (zpd nt tp a).2 ∧ ((zpd nt tp a).1 = true → r.2.1 70 8 = znv nt tp (a + 1) 1 ∧ r.2.1 70 9 = znv nt tp (zq1 nt tp a) 3 ∧ r.2.1 70 7 = zks nt tp a ∧ r.2.1 70 10 = nI (zkm tp (zq2 nt tp a + 1) (zkn nt tp (zq2 nt tp a + 1) 9)) ∧ r.2.1 70 11 = (if zkt tp (zq2 nt tp a + 1) (zkn nt tp (zq2 nt tp a + 1) 9) = true then 1 else 0)) ∧ zfX X r.2) := by
  have c1 := zcn_le (nt := nt) (tp := tp) (a := a + 1) 1
  have c2 := zcn_le (nt := nt) (tp := tp) (a := zq1 nt tp a) 3
  have c3 := zkn_le (nt := nt) (tp := tp) (a := zq2 nt tp a + 1) 9
  have w1 : a + 1 + zcn nt tp (a + 1) 1 = zq1 nt tp a := rfl
  have w2 : zq1 nt tp a + zcn nt tp (zq1 nt tp a) 3 = zq2 nt tp a := rfl
  have w3 : zq2 nt tp a + 1 + zkn nt tp (zq2 nt tp a + 1) 9 = zq3 nt tp a := rfl
  unfold xX8_readPlayer xX8_readAnswers
  rw [zx_readKind h, Option.bind_some]
  simp only [zlet]
  rw [zif (show (0 ≤ (zsi (if zks nt tp a < 0 then X else zsi X 70 2 (nI (a + 1))) 70 7 (zks nt tp a)).1 70 7) = ¬ (zks nt tp a < 0) by rw [zsi_y ⟨rfl, rfl⟩, znn])]
  by_cases g0 : zks nt tp a < 0
  · have e : zpd nt tp a = (false, a) := if_pos g0
    rw [e, if_pos g0]
    exact zok_n (fun z => z g0) (zok_some ⟨rfl, (zaX_si h (by decide)).2.2.1, fun y => absurd (show false = true from y) (by decide), by repeat (first | exact zfX_r | refine zfX_si ?_ (by decide))⟩)
  rw [if_neg g0]
  refine zok_y g0 ?_
  have s0 := zaX_si (k := 7) (v := zks nt tp a) (zaX_2 h (show a + 1 < 2 ^ 14 by omega)) (by decide)
  refine zs_numX s0 (d := 1) rfl (by decide) (by decide) (by omega) ?_
  rw [w1]
  intro s
  have s1 := zaX_si (k := 8) (v := znv nt tp (a + 1) 1) s (by decide)
  clear s
  rw [zif (show (0 ≤ (zsi (zsi (zsi (zsi X 70 2 (nI (a + 1))) 70 7 (zks nt tp a)) 70 2 (nI (zq1 nt tp a))) 70 8 (znv nt tp (a + 1) 1)).1 70 8) = ¬ (znv nt tp (a + 1) 1 < 0) by rw [zsi_y ⟨rfl, rfl⟩, znn])]
  by_cases g1 : zcn nt tp (a + 1) 1 = 0
  · have e : zpd nt tp a = (false, zq1 nt tp a) := by unfold zpd; rw [if_neg g0, if_pos g1]
    rw [e]
    exact zok_n (fun z => z (znv_neg g1)) (zok_some ⟨rfl, s1.2.2.1, fun y => absurd (show false = true from y) (by decide), by repeat (first | exact zfX_r | refine zfX_si ?_ (by decide))⟩)
  refine zok_y (znv_pos (by decide) g1) ?_
  refine zs_numX s1 (d := 3) rfl (by decide) (by decide) (by omega) ?_
  rw [w2]
  intro s
  have s2 := zaX_si (k := 9) (v := znv nt tp (zq1 nt tp a) 3) s (by decide)
  clear s
  by_cases g2 : zcn nt tp (zq1 nt tp a) 3 = 0
  · have e : zpd nt tp a = (false, zq2 nt tp a) := by unfold zpd; rw [if_neg g0, if_neg g1, if_pos g2]
    rw [e]
    refine zok_y ?_ (zok_some ⟨rfl, s2.2.2.1, fun y => absurd (show false = true from y) (by decide), by repeat (first | exact zfX_r | refine zfX_si ?_ (by decide))⟩)
    rw [zsi_y ⟨rfl, rfl⟩]
    exact znv_neg g2
  refine zok_n (by rw [zsi_y ⟨rfl, rfl⟩]; exact znv_pos (by decide) g2) ?_
  refine zs_tkX s2 (b := 58) rfl (by decide) (by omega) ?_ ?_
  rotate_left
  · intro k0
    have e : zpd nt tp a = (false, zq2 nt tp a) := by unfold zpd; rw [if_neg g0, if_neg g1, if_neg g2, if_pos k0]
    rw [e]
    exact zok_y rfl (zok_some ⟨rfl, s2.2.2.1, fun y => absurd (show false = true from y) (by decide), by repeat (first | exact zfX_r | refine zfX_si ?_ (by decide))⟩)
  intro k0 p0
  refine zok_n (show ¬ (1 : Int32) = 0 by decide) ?_
  have p1 := zaX_si (k := 11) (v := 0) (zaX_si (k := 10) (v := 0) p0 (by decide)) (by decide)
  obtain ⟨r, hr, r1, r2, r3, r30, r4⟩ := zx_answersR p1 (by omega) (by rw [zsi_ne (by decide), zsi_y ⟨rfl, rfl⟩]) (zsi_y ⟨rfl, rfl⟩)
  dsimp only
  rw [hr, Option.bind_some, r1]
  rw [w3] at r2
  have key : zfX X r.1 := by
    refine zfX_L ?_ r4
    repeat (first | exact zfX_r | refine zfX_si ?_ (by decide))
  by_cases g3 : zkn nt tp (zq2 nt tp a + 1) 9 = 0
  · have e : zpd nt tp a = (false, zq3 nt tp a) := by unfold zpd; rw [if_neg g0, if_neg g1, if_neg g2, if_neg (fun z => z k0), if_pos g3]
    rw [e, if_pos (by rw [nI_le0 (by omega)]; exact g3), Option.bind_some]
    exact zok_y rfl (zok_some ⟨rfl, r2.2.2.1, fun y => absurd (show false = true from y) (by decide), key⟩)
  rw [if_neg (by rw [nI_le0 (by omega)]; exact g3), Option.bind_some, if_neg (show ¬ (1 : Int32) = 0 by decide), show (59 : Int32) = nI 59 from rfl, zx_accepts r2.1 r2.2.1 r2.2.2.1 (by omega) (by decide), Option.bind_some]
  by_cases k1 : zq3 nt tp a < nt ∧ tp (zq3 nt tp a) = 59
  · have e : zpd nt tp a = (true, zq3 nt tp a + 1) := by unfold zpd; rw [if_neg g0, if_neg g1, if_neg g2, if_neg (fun z => z k0), if_neg g3, if_neg (fun z => z k1)]
    rw [e, if_pos k1, if_neg (show ¬ (1 : Int32) = 0 by decide)]
    refine zok_some ⟨rfl, zsi_y ⟨rfl, rfl⟩, fun _ => ⟨?_, ?_, ?_, ?_, ?_⟩, zfX_si key (by decide)⟩
    · rw [zsi_ne (by omega), r4.1 _ _ (by omega)]
      repeat (first | rw [zsi_y ⟨rfl, rfl⟩] | rw [zsi_ne (by omega)])
    · rw [zsi_ne (by omega), r4.1 _ _ (by omega)]
      repeat (first | rw [zsi_y ⟨rfl, rfl⟩] | rw [zsi_ne (by omega)])
    · rw [zsi_ne (by omega), r4.1 _ _ (by omega)]
      repeat (first | rw [zsi_y ⟨rfl, rfl⟩] | rw [zsi_ne (by omega)])
    · rw [zsi_ne (by omega)]
      exact r3
    · rw [zsi_ne (by omega)]
      exact r30
  · have e : zpd nt tp a = (false, zq3 nt tp a) := by unfold zpd; rw [if_neg g0, if_neg g1, if_neg g2, if_neg (fun z => z k0), if_neg g3, if_pos k1]
    rw [e, if_neg k1, if_pos rfl]
    exact zok_some ⟨rfl, r2.2.2.1, fun y => absurd (show false = true from y) (by decide), key⟩
end
