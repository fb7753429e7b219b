/-! a quiz's statements: the words -/
section
/-- the kind a sign names -/
def zkd (c : Nat) : Int32 := if c = 97 then 5 else if c = 98 then 2 else if c = 101 then 0 else if c = 108 then 3 else if c = 115 then 1 else if c = 116 then 4 else -1
theorem zkd_M : ∀ c, c < 256 → xX12_kindOf (nI c) = some (zkd c) := by decide +kernel
theorem zkd_C : ∀ c, c < 256 → xJ0_indexOf_0f7a4 ((nI c).toUInt32 % 65536).toInt32 = some (zkd c) := by decide +kernel
theorem zkd_n : ∀ c, c < 256 → zkd c < 0 ∨ ∃ k, k ≤ 5 ∧ zkd c = nI k := by
  intro c hc
  unfold zkd
  repeat (first | exact Or.inr ⟨5, by decide, rfl⟩ | exact Or.inr ⟨2, by decide, rfl⟩ | exact Or.inr ⟨0, by decide, rfl⟩ | exact Or.inr ⟨3, by decide, rfl⟩ | exact Or.inr ⟨1, by decide, rfl⟩ | exact Or.inr ⟨4, by decide, rfl⟩ | exact Or.inl (by decide) | split)
/-- a word's statement from a: where it fails, or none and where it ends -/
def zw1 (nt : Nat) (tp : Nat → Nat) (a : Nat) : Nat := a + zcn nt tp a 2
def zw2 (nt : Nat) (tp : Nat → Nat) (a : Nat) : Nat := zw1 nt tp a + 1 + zcn nt tp (zw1 nt tp a + 1) 1
def zw3 (nt : Nat) (tp : Nat → Nat) (a : Nat) : Nat := zw2 nt tp a + 1 + zcn nt tp (zw2 nt tp a + 1) 1
/-- (is it right, where the reader stands) -/
def zwd (nt : Nat) (tp : Nat → Nat) (a : Nat) : Bool × Nat :=
  if zcn nt tp a 2 = 0 then (false, zw1 nt tp a) else
  if ¬ (zw1 nt tp a < nt ∧ tp (zw1 nt tp a) = 44) then (false, zw1 nt tp a) else
  if zcn nt tp (zw1 nt tp a + 1) 1 = 0 then (false, zw2 nt tp a) else
  if ¬ (zw2 nt tp a < nt ∧ tp (zw2 nt tp a) = 44) then (false, zw2 nt tp a) else
  if zcn nt tp (zw2 nt tp a + 1) 1 = 0 then (false, zw3 nt tp a) else
  if ¬ (zw3 nt tp a < nt ∧ tp (zw3 nt tp a) = 59) then (false, zw3 nt tp a) else (true, zw3 nt tp a + 1)
variable {nt a z : Nat} {tp : Nat → Nat} {M X : zM}
theorem znv_neg {d : Nat} (h : zcn nt tp a d = 0) : znv nt tp a d < 0 := by
  unfold znv
  rw [if_pos h]
  decide
theorem znv_pos {d : Nat} (hd : d ≤ 3) (h : ¬ zcn nt tp a d = 0) : ¬ znv nt tp a d < 0 := by
  unfold znv
  rw [if_neg h]
  have h1 := zvn_lt (nt := nt) (tp := tp) (a := a) (zcn nt tp a d) (fun j hj => zcn_dt d hj)
  have h2 := zcn_le (nt := nt) (tp := tp) (a := a) d
  have h3 : 10 ^ zcn nt tp a d ≤ 10 ^ 3 := Nat.pow_le_pow_right (by decide) (by omega)
  exact nI_pos (by omega)
/-- what a reading leaves -/
def zfW (z : Nat) (M A : zM) : Prop := (∀ j k, ¬ (j = 0 ∧ k = 22) → ¬ (14 ≤ j ∧ j ≤ 17 ∧ k = z) → A.1 j k = M.1 j k) ∧ A.2 = M.2
def zfX (X A : zM) : Prop := (∀ j k, ¬ (j = 70 ∧ (k = 2 ∨ 4 ≤ k)) → A.1 j k = X.1 j k) ∧ A.2 = X.2
/-- where a reader stands -/
def zaM (nt : Nat) (tp : Nat → Nat) (a : Nat) (M : zM) : Prop := zTp (M.1 13) nt tp ∧ M.1 0 21 = nI nt ∧ M.1 0 22 = nI a ∧ a < 2 ^ 14
def zaX (nt : Nat) (tp : Nat → Nat) (a : Nat) (X : zM) : Prop := zTp (X.1 71) nt tp ∧ X.1 70 1 = nI nt ∧ X.1 70 2 = nI a ∧ a < 2 ^ 14
theorem zaM_si (h : zaM nt tp a M) {j k : Nat} {v : Int32} (hj : 14 ≤ j) : zaM nt tp a (zsi M j k v) := by
  obtain ⟨h1, h2, h3, h4⟩ := h
  refine ⟨⟨h1.1, fun i hi => ?_⟩, by rw [zsi_ne (by omega)]; exact h2, by rw [zsi_ne (by omega)]; exact h3, h4⟩
  rw [zsi_ne (by omega)]
  exact h1.2 i hi
theorem zaM_22 {a' : Nat} (h : zaM nt tp a M) (h2 : a' < 2 ^ 14) : zaM nt tp a' (zsi M 0 22 (nI a')) := by
  obtain ⟨h1, h3, -, h4⟩ := h
  exact ⟨h1, by rw [zsi_ne (by decide)]; exact h3, zsi_y ⟨rfl, rfl⟩, h2⟩
theorem zaX_si (h : zaX nt tp a X) {k : Nat} {v : Int32} (hk : 3 ≤ k) : zaX nt tp a (zsi X 70 k v) := by
  obtain ⟨h1, h2, h3, h4⟩ := h
  exact ⟨h1, by rw [zsi_ne (by omega)]; exact h2, by rw [zsi_ne (by omega)]; exact h3, h4⟩
theorem zaX_2 {a' : Nat} (h : zaX nt tp a X) (h2 : a' < 2 ^ 14) : zaX nt tp a' (zsi X 70 2 (nI a')) := by
  obtain ⟨h1, h3, -, h4⟩ := h
  exact ⟨h1, by rw [zsi_ne (by decide)]; exact h3, zsi_y ⟨rfl, rfl⟩, h2⟩
variable {β : Type} {P : β → Prop}
theorem zs_num (h : zaM nt tp a M) {d : Nat} {D : Int32} (hD : D = nI d) (hd : d ≤ 3) (hd0 : 0 < d) (h2 : a + 3 < 2 ^ 14) {f : Int32 × zM → Option β} (hf : zaM nt tp (a + zcn nt tp a d) (zsi M 0 22 (nI (a + zcn nt tp a d))) → zok (f (znv nt tp a d, zsi M 0 22 (nI (a + zcn nt tp a d)))) P) : zok ((xX12_number M D).bind f) P := by
  have hc := zcn_le (nt := nt) (tp := tp) (a := a) d
  rw [hD, zx_number h.1 h.2.1 h.2.2.1 (by omega) hd hd0, Option.bind_some]
  exact hf (zaM_22 h (by omega))
theorem zs_numX (h : zaX nt tp a X) {d : Nat} {D : Int32} (hD : D = nI d) (hd : d ≤ 3) (hd0 : 0 < d) (h2 : a + 3 < 2 ^ 14) {f : Int32 × zM → Option β} (hf : zaX nt tp (a + zcn nt tp a d) (zsi X 70 2 (nI (a + zcn nt tp a d))) → zok (f (znv nt tp a d, zsi X 70 2 (nI (a + zcn nt tp a d)))) P) : zok ((xX8_readNumber X D).bind f) P := by
  have hc := zcn_le (nt := nt) (tp := tp) (a := a) d
  rw [hD, zx_readNumber h.1 h.2.1 h.2.2.1 (by omega) hd hd0, Option.bind_some]
  exact hf (zaX_2 h (by omega))
theorem zs_tk (h : zaM nt tp a M) {b : Nat} {D : Int32} (hD : D = nI b) (hb : b < 256) (h2 : a + 1 < 2 ^ 14) {f : Int32 × zM → Option β} (hy : a < nt ∧ tp a = b → zaM nt tp (a + 1) (zsi M 0 22 (nI (a + 1))) → zok (f (1, zsi M 0 22 (nI (a + 1)))) P) (hn : ¬ (a < nt ∧ tp a = b) → zok (f (0, M)) P) : zok ((xX12_takes M D).bind f) P := by
  rw [hD, zx_takes h.1 h.2.1 h.2.2.1 (by have := h.2.2.2; omega) hb, Option.bind_some]
  by_cases g : a < nt ∧ tp a = b
  · rw [if_pos g]
    exact hy g (zaM_22 h h2)
  · rw [if_neg g]
    exact hn g
theorem zs_tkX (h : zaX nt tp a X) {b : Nat} {D : Int32} (hD : D = nI b) (hb : b < 256) (h2 : a + 1 < 2 ^ 14) {f : Int32 × zM → Option β} (hy : a < nt ∧ tp a = b → zaX nt tp (a + 1) (zsi X 70 2 (nI (a + 1))) → zok (f (1, zsi X 70 2 (nI (a + 1)))) P) (hn : ¬ (a < nt ∧ tp a = b) → zok (f (0, X)) P) : zok ((xX8_accepts X D).bind f) P := by
  rw [hD, zx_accepts h.1 h.2.1 h.2.2.1 (by have := h.2.2.2; omega) hb, Option.bind_some]
  by_cases g : a < nt ∧ tp a = b
  · rw [if_pos g]
    exact hy g (zaX_2 h h2)
  · rw [if_neg g]
    exact hn g
theorem zfW_r : zfW z M M := ⟨fun _ _ _ _ => rfl, rfl⟩
theorem zfW_22 {A : zM} {v : Int32} (h : zfW z M A) : zfW z M (zsi A 0 22 v) := ⟨fun j k g1 g2 => by rw [zsi_ne g1]; exact h.1 j k g1 g2, h.2⟩
theorem zfW_si {A : zM} {v : Int32} {j : Nat} (h : zfW z M A) (hj : 14 ≤ j ∧ j ≤ 17) : zfW z M (zsi A j z v) := ⟨fun j' k g1 g2 => by rw [zsi_ne (by omega)]; exact h.1 j' k g1 g2, h.2⟩
theorem zfX_r : zfX X X := ⟨fun _ _ _ => rfl, rfl⟩
theorem zfX_si {A : zM} {v : Int32} {k : Nat} (h : zfX X A) (hk : k = 2 ∨ 4 ≤ k) : zfX X (zsi A 70 k v) := ⟨fun j k' g1 => by rw [zsi_ne (by omega)]; exact h.1 j k' g1, h.2⟩
/-- the reference reads a word's statement -/
theorem zx_readsWord (h : zaM nt tp a M) (ha : a < 2 ^ 12) (hz : z < 32) : zok (xX12_readsWord M (nI z)) (fun r => r.1 = (if (zwd nt tp a).1 = true then 1 else 0) ∧ r.2.1 0 22 = nI (zwd nt tp a).2 ∧ ((zwd nt tp a).1 = true → r.2.1 14 z = znv nt tp a 2 ∧ r.2.1 15 z = znv nt tp (zw1 nt tp a + 1) 1 ∧ r.2.1 16 z = znv nt tp (zw2 nt tp a + 1) 1) ∧ zfW z M r.2) := by
  have c1 := zcn_le (nt := nt) (tp := tp) (a := a) 2
  have c2 := zcn_le (nt := nt) (tp := tp) (a := zw1 nt tp a + 1) 1
  have c3 := zcn_le (nt := nt) (tp := tp) (a := zw2 nt tp a + 1) 1
  have w1 : a + zcn nt tp a 2 = zw1 nt tp a := rfl
  have w2 : zw1 nt tp a + 1 + zcn nt tp (zw1 nt tp a + 1) 1 = zw2 nt tp a := rfl
  have w3 : zw2 nt tp a + 1 + zcn nt tp (zw2 nt tp a + 1) 1 = zw3 nt tp a := rfl
  have hcl : (nI z).toNatClampNeg = z := nI_clamp (by omega)
  unfold xX12_readsWord
  simp only [hcl, if_neg (zin_w hz (show 32 < 2 ^ 31 by decide)), zlet]
  refine zs_num h (d := 2) rfl (by decide) (by decide) (by omega) ?_
  rw [w1]
  intro s
  have s0 := zaM_si (j := 14) (k := z) (v := znv nt tp (a) 2) s (by decide)
  clear s
  by_cases g0 : zcn nt tp (a) 2 = 0
  · have e : zwd nt tp a = (false, zw1 nt tp a) := by unfold zwd; rw [if_pos g0]
    rw [e]
    refine zok_y ?_ (zok_some ⟨rfl, s0.2.2.1, fun y => absurd (show false = true from y) (by decide), by repeat (first | exact zfW_r | refine zfW_si ?_ (by decide) | refine zfW_22 ?_)⟩)
    rw [zsi_y ⟨rfl, rfl⟩]
    exact znv_neg g0
  refine zok_n (by rw [zsi_y ⟨rfl, rfl⟩]; exact znv_pos (by decide) g0) ?_
  refine zs_tk s0 (b := 44) rfl (by decide) (by omega) ?_ ?_
  rotate_left
  · intro k0
    have e : zwd nt tp a = (false, zw1 nt tp a) := by unfold zwd; rw [if_neg g0, if_pos k0]
    rw [e]
    exact zok_y rfl (zok_some ⟨rfl, s0.2.2.1, fun y => absurd (show false = true from y) (by decide), by repeat (first | exact zfW_r | refine zfW_si ?_ (by decide) | refine zfW_22 ?_)⟩)
  intro k0 p0
  refine zok_n (show ¬ (1 : Int32) = 0 by decide) ?_
  refine zs_num p0 (d := 1) rfl (by decide) (by decide) (by omega) ?_
  rw [w2]
  intro s
  have s1 := zaM_si (j := 15) (k := z) (v := znv nt tp (zw1 nt tp a + 1) 1) s (by decide)
  clear s
  by_cases g1 : zcn nt tp (zw1 nt tp a + 1) 1 = 0
  · have e : zwd nt tp a = (false, zw2 nt tp a) := by unfold zwd; rw [if_neg g0, if_neg (fun z => z k0), if_pos g1]
    rw [e]
    refine zok_y ?_ (zok_some ⟨rfl, s1.2.2.1, fun y => absurd (show false = true from y) (by decide), by repeat (first | exact zfW_r | refine zfW_si ?_ (by decide) | refine zfW_22 ?_)⟩)
    rw [zsi_y ⟨rfl, rfl⟩]
    exact znv_neg g1
  refine zok_n (by rw [zsi_y ⟨rfl, rfl⟩]; exact znv_pos (by decide) g1) ?_
  refine zs_tk s1 (b := 44) rfl (by decide) (by omega) ?_ ?_
  rotate_left
  · intro k1
    have e : zwd nt tp a = (false, zw2 nt tp a) := by unfold zwd; rw [if_neg g0, if_neg (fun z => z k0), if_neg g1, if_pos k1]
    rw [e]
    exact zok_y rfl (zok_some ⟨rfl, s1.2.2.1, fun y => absurd (show false = true from y) (by decide), by repeat (first | exact zfW_r | refine zfW_si ?_ (by decide) | refine zfW_22 ?_)⟩)
  intro k1 p1
  refine zok_n (show ¬ (1 : Int32) = 0 by decide) ?_
  refine zs_num p1 (d := 1) rfl (by decide) (by decide) (by omega) ?_
  rw [w3]
  intro s
  have s2 := zaM_si (j := 16) (k := z) (v := znv nt tp (zw2 nt tp a + 1) 1) s (by decide)
  clear s
  by_cases g2 : zcn nt tp (zw2 nt tp a + 1) 1 = 0
  · have e : zwd nt tp a = (false, zw3 nt tp a) := by unfold zwd; rw [if_neg g0, if_neg (fun z => z k0), if_neg g1, if_neg (fun z => z k1), if_pos g2]
    rw [e]
    refine zok_y ?_ (zok_some ⟨rfl, s2.2.2.1, fun y => absurd (show false = true from y) (by decide), by repeat (first | exact zfW_r | refine zfW_si ?_ (by decide) | refine zfW_22 ?_)⟩)
    rw [zsi_y ⟨rfl, rfl⟩]
    exact znv_neg g2
  refine zok_n (by rw [zsi_y ⟨rfl, rfl⟩]; exact znv_pos (by decide) g2) ?_
  refine zs_tk s2 (b := 59) rfl (by decide) (by omega) ?_ ?_
  rotate_left
  · intro k2
    have e : zwd nt tp a = (false, zw3 nt tp a) := by unfold zwd; rw [if_neg g0, if_neg (fun z => z k0), if_neg g1, if_neg (fun z => z k1), if_neg g2, if_pos k2]
    rw [e]
    exact zok_y rfl (zok_some ⟨rfl, s2.2.2.1, fun y => absurd (show false = true from y) (by decide), by repeat (first | exact zfW_r | refine zfW_si ?_ (by decide) | refine zfW_22 ?_)⟩)
  intro k2 p2
  refine zok_n (show ¬ (1 : Int32) = 0 by decide) ?_
  have e : zwd nt tp a = (true, zw3 nt tp a + 1) := by unfold zwd; rw [if_neg g0, if_neg (fun z => z k0), if_neg g1, if_neg (fun z => z k1), if_neg g2, if_neg (fun z => z k2)]
  rw [e]
  refine zok_some ⟨rfl, p2.2.2.1, fun _ => ⟨?_, ?_, ?_⟩, by repeat (first | exact zfW_r | refine zfW_si ?_ (by decide) | refine zfW_22 ?_)⟩
  · repeat (first | rw [zsi_y ⟨rfl, rfl⟩] | rw [zsi_ne (by omega)])
  · repeat (first | rw [zsi_y ⟨rfl, rfl⟩] | rw [zsi_ne (by omega)])
  · repeat (first | rw [zsi_y ⟨rfl, rfl⟩] | rw [zsi_ne (by omega)])
/-- the class reads a word's statement -/
theorem zx_readWord (h : zaX nt tp a X) (ha : a < 2 ^ 12) : zok (xX8_readWord X) (fun r => r.1 = (if (zwd nt tp a).1 = true then 1 else 0) ∧ r.2.1 70 2 = nI (zwd nt tp a).2 ∧ ((zwd nt tp a).1 = true → r.2.1 70 4 = znv nt tp a 2 ∧ r.2.1 70 5 = znv nt tp (zw1 nt tp a + 1) 1 ∧ r.2.1 70 6 = znv nt tp (zw2 nt tp a + 1) 1) ∧ zfX X r.2) := by
  have c1 := zcn_le (nt := nt) (tp := tp) (a := a) 2
  have c2 := zcn_le (nt := nt) (tp := tp) (a := zw1 nt tp a + 1) 1
  have c3 := zcn_le (nt := nt) (tp := tp) (a := zw2 nt tp a + 1) 1
  have w1 : a + zcn nt tp a 2 = zw1 nt tp a := rfl
  have w2 : zw1 nt tp a + 1 + zcn nt tp (zw1 nt tp a + 1) 1 = zw2 nt tp a := rfl
  have w3 : zw2 nt tp a + 1 + zcn nt tp (zw2 nt tp a + 1) 1 = zw3 nt tp a := rfl
  unfold xX8_readWord
  simp only [zlet]
  refine zs_numX h (d := 2) rfl (by decide) (by decide) (by omega) ?_
  rw [w1]
  intro s
  have s0 := zaX_si (k := 4) (v := znv nt tp (a) 2) s (by decide)
  clear s
  by_cases g0 : zcn nt tp (a) 2 = 0
  · have e : zwd nt tp a = (false, zw1 nt tp a) := by unfold zwd; rw [if_pos g0]
    rw [e]
    refine zok_y ?_ (zok_some ⟨rfl, s0.2.2.1, fun y => absurd (show false = true from y) (by decide), by repeat (first | exact zfX_r | refine zfX_si ?_ (by decide))⟩)
    rw [zsi_y ⟨rfl, rfl⟩]
    exact znv_neg g0
  refine zok_n (by rw [zsi_y ⟨rfl, rfl⟩]; exact znv_pos (by decide) g0) ?_
  refine zs_tkX s0 (b := 44) rfl (by decide) (by omega) ?_ ?_
  rotate_left
  · intro k0
    have e : zwd nt tp a = (false, zw1 nt tp a) := by unfold zwd; rw [if_neg g0, if_pos k0]
    rw [e]
    exact zok_y rfl (zok_some ⟨rfl, s0.2.2.1, fun y => absurd (show false = true from y) (by decide), by repeat (first | exact zfX_r | refine zfX_si ?_ (by decide))⟩)
  intro k0 p0
  refine zok_n (show ¬ (1 : Int32) = 0 by decide) ?_
  refine zs_numX p0 (d := 1) rfl (by decide) (by decide) (by omega) ?_
  rw [w2]
  intro s
  have s1 := zaX_si (k := 5) (v := znv nt tp (zw1 nt tp a + 1) 1) s (by decide)
  clear s
  by_cases g1 : zcn nt tp (zw1 nt tp a + 1) 1 = 0
  · have e : zwd nt tp a = (false, zw2 nt tp a) := by unfold zwd; rw [if_neg g0, if_neg (fun z => z k0), if_pos g1]
    rw [e]
    refine zok_y ?_ (zok_some ⟨rfl, s1.2.2.1, fun y => absurd (show false = true from y) (by decide), by repeat (first | exact zfX_r | refine zfX_si ?_ (by decide))⟩)
    rw [zsi_y ⟨rfl, rfl⟩]
    exact znv_neg g1
  refine zok_n (by rw [zsi_y ⟨rfl, rfl⟩]; exact znv_pos (by decide) g1) ?_
  refine zs_tkX s1 (b := 44) rfl (by decide) (by omega) ?_ ?_
  rotate_left
  · intro k1
    have e : zwd nt tp a = (false, zw2 nt tp a) := by unfold zwd; rw [if_neg g0, if_neg (fun z => z k0), if_neg g1, if_pos k1]
    rw [e]
    exact zok_y rfl (zok_some ⟨rfl, s1.2.2.1, fun y => absurd (show false = true from y) (by decide), by repeat (first | exact zfX_r | refine zfX_si ?_ (by decide))⟩)
  intro k1 p1
  refine zok_n (show ¬ (1 : Int32) = 0 by decide) ?_
  refine zs_numX p1 (d := 1) rfl (by decide) (by decide) (by omega) ?_
  rw [w3]
  intro s
  have s2 := zaX_si (k := 6) (v := znv nt tp (zw2 nt tp a + 1) 1) s (by decide)
  clear s
  by_cases g2 : zcn nt tp (zw2 nt tp a + 1) 1 = 0
  · have e : zwd nt tp a = (false, zw3 nt tp a) := by unfold zwd; rw [if_neg g0, if_neg (fun z => z k0), if_neg g1, if_neg (fun z => z k1), if_pos g2]
    rw [e]
    refine zok_y ?_ (zok_some ⟨rfl, s2.2.2.1, fun y => absurd (show false = true from y) (by decide), by repeat (first | exact zfX_r | refine zfX_si ?_ (by decide))⟩)
    rw [zsi_y ⟨rfl, rfl⟩]
    exact znv_neg g2
  refine zok_n (by rw [zsi_y ⟨rfl, rfl⟩]; exact znv_pos (by decide) g2) ?_
  refine zs_tkX s2 (b := 59) rfl (by decide) (by omega) ?_ ?_
  rotate_left
  · intro k2
    have e : zwd nt tp a = (false, zw3 nt tp a) := by unfold zwd; rw [if_neg g0, if_neg (fun z => z k0), if_neg g1, if_neg (fun z => z k1), if_neg g2, if_pos k2]
    rw [e]
    exact zok_y rfl (zok_some ⟨rfl, s2.2.2.1, fun y => absurd (show false = true from y) (by decide), by repeat (first | exact zfX_r | refine zfX_si ?_ (by decide))⟩)
  intro k2 p2
  refine zok_n (show ¬ (1 : Int32) = 0 by decide) ?_
  have e : zwd nt tp a = (true, zw3 nt tp a + 1) := by unfold zwd; rw [if_neg g0, if_neg (fun z => z k0), if_neg g1, if_neg (fun z => z k1), if_neg g2, if_neg (fun z => z k2)]
  rw [e]
  refine zok_some ⟨rfl, p2.2.2.1, fun _ => ⟨?_, ?_, ?_⟩, by repeat (first | exact zfX_r | refine zfX_si ?_ (by decide))⟩
  · repeat (first | rw [zsi_y ⟨rfl, rfl⟩] | rw [zsi_ne (by omega)])
  · repeat (first | rw [zsi_y ⟨rfl, rfl⟩] | rw [zsi_ne (by omega)])
  · repeat (first | rw [zsi_y ⟨rfl, rfl⟩] | rw [zsi_ne (by omega)])
end
