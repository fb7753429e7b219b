/-! a quiz's statement -/
section
def zst9 (nt : Nat) (tp : Nat → Nat) (a : Nat) : Bool × Nat := if a < nt ∧ tp a = 119 then zwd nt tp (a + 1) else if a < nt ∧ tp a = 112 then zpd nt tp (a + 1) else (false, a)
variable {nt a z : Nat} {tp : Nat → Nat} {M X : zM}
def zfS (z : Nat) (M A : zM) : Prop := (∀ j k, ¬ (j = 0 ∧ k = 22) → ¬ (14 ≤ j ∧ j ≤ 19 ∧ k = z) → A.1 j k = M.1 j k) ∧ A.2 = M.2
def zfY (X A : zM) : Prop := (∀ j k, ¬ (j = 70 ∧ 2 ≤ k) → A.1 j k = X.1 j k) ∧ A.2 = X.2
/-- row z of the reference holds the statement at a -/
def zrow (nt : Nat) (tp : Nat → Nat) (a z : Nat) (A : zM) : Prop := A.1 18 z = nI (tp a) ∧ A.1 19 z = nI a ∧ (tp a = 119 → A.1 14 z = znv nt tp (a + 1) 2 ∧ A.1 15 z = znv nt tp (zw1 nt tp (a + 1) + 1) 1 ∧ A.1 16 z = znv nt tp (zw2 nt tp (a + 1) + 1) 1) ∧ (tp a = 112 → A.1 14 z = znv nt tp (a + 1 + 1) 1 ∧ A.1 15 z = znv nt tp (zq1 nt tp (a + 1)) 3 ∧ A.1 16 z = zks nt tp (a + 1) ∧ A.1 17 z = nI (zk17 tp (zq2 nt tp (a + 1) + 1) (zkn nt tp (zq2 nt tp (a + 1) + 1) 9)))
def zcls (nt : Nat) (tp : Nat → Nat) (a : Nat) (A : zM) : Prop := A.1 70 3 = (if tp a = 119 then 1 else 0) ∧ (tp a = 119 → A.1 70 4 = znv nt tp (a + 1) 2 ∧ A.1 70 5 = znv nt tp (zw1 nt tp (a + 1) + 1) 1 ∧ A.1 70 6 = znv nt tp (zw2 nt tp (a + 1) + 1) 1) ∧ (tp a = 112 → A.1 70 8 = znv nt tp (a + 1 + 1) 1 ∧ A.1 70 9 = znv nt tp (zq1 nt tp (a + 1)) 3 ∧ A.1 70 7 = zks nt tp (a + 1) ∧ A.1 70 10 = nI (zkm tp (zq2 nt tp (a + 1) + 1) (zkn nt tp (zq2 nt tp (a + 1) + 1) 9)) ∧ A.1 70 11 = (if zkt tp (zq2 nt tp (a + 1) + 1) (zkn nt tp (zq2 nt tp (a + 1) + 1) 9) = true then 1 else 0))
theorem zst9_sign (h : (zst9 nt tp a).1 = true) : tp a = 119 ∨ tp a = 112 := by
  unfold zst9 at h
  by_cases g : a < nt ∧ tp a = 119
  · exact Or.inl g.2
  · rw [if_neg g] at h
    by_cases g2 : a < nt ∧ tp a = 112
    · exact Or.inr g2.2
    · rw [if_neg g2] at h
      cases h
theorem zfS_W {A C : zM} (h : zfS z M A) (h2 : zfW z A C) : zfS z M C := ⟨fun j k g1 g2 => (h2.1 j k g1 (by omega)).trans (h.1 j k g1 g2), h2.2.trans h.2⟩
theorem zx_statement (h : zaM nt tp a M) (ha : a < 2 ^ 10) (hz : z < 32) (h23 : M.1 0 23 = nI z) : zok (xX12_statement M) (fun r => r.1 = (if (zst9 nt tp a).1 = true then 1 else 0) ∧ r.2.1 0 22 = nI (zst9 nt tp a).2 ∧ ((zst9 nt tp a).1 = true → zrow nt tp a z r.2) ∧ zfS z M r.2) := by
  have hcl : (nI z).toNatClampNeg = z := nI_clamp (by omega)
  have hb := fun i (hi : i < nt) => (h.1.2 i hi).2
  unfold xX12_statement
  simp only [h23, zx_sign h.1 h.2.1 h.2.2.1 (show a < 2 ^ 20 by omega), Option.bind_some, hcl, if_neg (zin_w hz (show 32 < 2 ^ 31 by decide)), zlet]
  have e22 : (zsi M 18 z (zsg nt tp a)).1 0 22 = nI a := by rw [zsi_ne (by omega)]; exact h.2.2.1
  rw [e22]
  have s0 := zaM_si (j := 19) (k := z) (v := nI a) (zaM_si (j := 18) (k := z) (v := zsg nt tp a) h (by decide)) (by decide)
  rw [s0.2.2.1, nI_1]
  have s1 := zaM_22 s0 (show a + 1 < 2 ^ 14 by omega)
  have f0 : zfS z M (zsi (zsi M 18 z (zsg nt tp a)) 19 z (nI a)) := ⟨fun j k g1 g2 => by rw [zsi_ne (by omega), zsi_ne (by omega)], rfl⟩
  have f1 : zfS z M (zsi (zsi (zsi M 18 z (zsg nt tp a)) 19 z (nI a)) 0 22 (nI (a + 1))) := ⟨fun j k g1 g2 => by rw [zsi_ne g1, zsi_ne (by omega), zsi_ne (by omega)], rfl⟩
  have b18 : ∀ A, zfW z (zsi (zsi (zsi M 18 z (zsg nt tp a)) 19 z (nI a)) 0 22 (nI (a + 1))) A → A.1 18 z = zsg nt tp a ∧ A.1 19 z = nI a := fun A hA => by
    refine ⟨?_, ?_⟩
    · rw [hA.1 _ _ (by omega) (by omega), zsi_ne (by omega), zsi_ne (by omega), zsi_y ⟨rfl, rfl⟩]
    · rw [hA.1 _ _ (by omega) (by omega), zsi_ne (by omega), zsi_y ⟨rfl, rfl⟩]
  have b01 : ∀ b : Bool, ((if b = true then (1 : Int32) else 0) = 0 ∨ (if b = true then (1 : Int32) else 0) = 1) := by decide
  by_cases g : a < nt ∧ tp a = 119
  · have e : zst9 nt tp a = zwd nt tp (a + 1) := if_pos g
    have es : zsg nt tp a = (119 : Int32) := by rw [show (119 : Int32) = nI 119 from rfl, zsg_eq hb (by decide)]; exact g
    obtain ⟨r, hr, r1, r2, r3, r4⟩ := zx_readsWord s1 (by omega) hz
    rw [if_pos es, if_pos es, hr, Option.bind_some, if_neg (by rw [r1]; exact fun y => y (b01 _)), e]
    obtain ⟨x1, x2⟩ := b18 _ r4
    refine zok_some ⟨r1, r2, fun y => ⟨x1.trans (if_pos g.1), x2, fun _ => r3 y, fun z => absurd (g.2.symm.trans z) (by decide)⟩, zfS_W f1 r4⟩
  · have es : ¬ zsg nt tp a = (119 : Int32) := by rw [show (119 : Int32) = nI 119 from rfl, zsg_eq hb (by decide)]; exact g
    by_cases g2 : a < nt ∧ tp a = 112
    · have e : zst9 nt tp a = zpd nt tp (a + 1) := by unfold zst9; rw [if_neg g, if_pos g2]
      have es2 : zsg nt tp a = (112 : Int32) := by rw [show (112 : Int32) = nI 112 from rfl, zsg_eq hb (by decide)]; exact g2
      obtain ⟨r, hr, r1, r2, r3, r4⟩ := zx_readsPlayer s1 (by omega) hz
      rw [if_neg es, if_pos es2, if_neg es, hr, Option.bind_some, if_neg (by rw [r1]; exact fun y => y (b01 _)), e]
      obtain ⟨x1, x2⟩ := b18 _ r4
      refine zok_some ⟨r1, r2, fun y => ⟨x1.trans (if_pos g2.1), x2, fun z => absurd (g2.2.symm.trans z) (by decide), fun _ => r3 y⟩, zfS_W f1 r4⟩
    · have e : zst9 nt tp a = (false, a) := by unfold zst9; rw [if_neg g, if_neg g2]
      have es2 : ¬ zsg nt tp a = (112 : Int32) := by rw [show (112 : Int32) = nI 112 from rfl, zsg_eq hb (by decide)]; exact g2
      rw [if_neg es, if_neg es2, e]
      exact zok_some ⟨rfl, s0.2.2.1, fun y => absurd (show false = true from y) (by decide), f0⟩
theorem zx_readStatement (h : zaX nt tp a X) (ha : a < 2 ^ 10) : zok (xX8_readStatement X) (fun r => r.1 = (if (zst9 nt tp a).1 = true then 1 else 0) ∧ r.2.1 70 2 = nI (zst9 nt tp a).2 ∧ ((zst9 nt tp a).1 = true → zcls nt tp a r.2) ∧ zfY X r.2) := by
  have b01 : ∀ b : Bool, ((if b = true then (1 : Int32) else 0) = 0 ∨ (if b = true then (1 : Int32) else 0) = 1) := by decide
  have fY : ∀ {A C : zM}, zfY X A → zfX A C → zfY X C := fun h1 h2 => ⟨fun j k g => (h2.1 j k (by omega)).trans (h1.1 j k g), h2.2.trans h1.2⟩
  unfold xX8_readStatement
  refine zs_tkX h (b := 119) rfl (by decide) (by omega) ?_ ?_
  · intro g s1
    have e : zst9 nt tp a = zwd nt tp (a + 1) := if_pos g
    refine zok_n (show ¬ (1 : Int32) = 0 by decide) (zok_let ?_)
    have f2 : zfY X (zsi (zsi X 70 2 (nI (a + 1))) 70 3 (1 : Int32)) := ⟨fun j k g1 => by rw [zsi_ne (by omega), zsi_ne (by omega)], rfl⟩
    obtain ⟨r, hr, r1, r2, r3, r4⟩ := zx_readWord (zaX_si (k := 3) (v := 1) s1 (by decide)) (by omega)
    rw [hr, Option.bind_some, if_neg (by rw [r1]; exact fun y => y (b01 _)), e]
    refine zok_some ⟨r1, r2, fun y => ⟨?_, fun _ => r3 y, fun z => absurd (g.2.symm.trans z) (by decide)⟩, fY f2 r4⟩
    rw [r4.1 _ _ (by omega), zsi_y ⟨rfl, rfl⟩, if_pos g.2]
  · intro g
    refine zok_y rfl (zok_let ?_)
    have s0 := zaX_si (k := 3) (v := 0) h (by decide)
    refine zs_tkX s0 (b := 112) rfl (by decide) (by omega) ?_ ?_
    · intro g2 s1
      have e : zst9 nt tp a = zpd nt tp (a + 1) := by unfold zst9; rw [if_neg g, if_pos g2]
      refine zok_n (show ¬ (1 : Int32) = 0 by decide) ?_
      obtain ⟨r, hr, r1, r2, r3, r4⟩ := zx_readPlayer s1 (by omega)
      have f2 : zfY X (zsi (zsi X 70 3 (0 : Int32)) 70 2 (nI (a + 1))) := ⟨fun j k g1 => by rw [zsi_ne (by omega), zsi_ne (by omega)], rfl⟩
      have ff : zfY X r.2 := fY f2 r4
      dsimp only
      rw [hr, Option.bind_some, e, r1]
      cases hb : (zpd nt tp (a + 1)).1 with
      | false =>
        rw [if_pos (show (if false = true then (1 : Int32) else 0) = 0 by decide)]
        exact zok_some ⟨rfl, r2, fun y => absurd y (by decide), ff⟩
      | true =>
        rw [if_pos rfl, if_neg (show ¬ (1 : Int32) = 0 by decide)]
        refine zok_some ⟨rfl, r2, fun _ => ⟨?_, fun z => absurd (g2.2.symm.trans z) (by decide), fun _ => r3 hb⟩, ff⟩
        rw [r4.1 _ _ (by omega), zsi_ne (by omega), zsi_y ⟨rfl, rfl⟩, if_neg (fun z => absurd (g2.2.symm.trans z) (by decide))]
    · intro g2
      have e : zst9 nt tp a = (false, a) := by unfold zst9; rw [if_neg g, if_neg g2]
      rw [e]
      exact zok_y rfl (zok_some ⟨rfl, s0.2.2.1, fun y => absurd (show false = true from y) (by decide), ⟨fun j k g1 => by rw [zsi_ne (by omega)], rfl⟩⟩)
end
