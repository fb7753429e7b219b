/-! orders as numbers, a digit of three bits each -/
def zdg (c i : Nat) : Nat := c / 8 ^ i % 8
def zenc (o : Nat → Nat) : Nat := o 0 + 8 * o 1 + 64 * o 2 + 512 * o 3 + 4096 * o 4
theorem zdg_lt {c i : Nat} : zdg c i < 8 := Nat.mod_lt _ (by decide)
theorem zdg_enc {o : Nat → Nat} (h : ∀ i, i < 5 → o i < 8) {i : Nat} (hi : i < 5) : zdg (zenc o) i = o i := by
  have h0 := h 0 (by decide)
  have h1 := h 1 (by decide)
  have h2 := h 2 (by decide)
  have h3 := h 3 (by decide)
  have h4 := h 4 (by decide)
  unfold zdg zenc
  have hc : i = 0 ∨ i = 1 ∨ i = 2 ∨ i = 3 ∨ i = 4 := by omega
  rcases hc with rfl | rfl | rfl | rfl | rfl
  · rw [show 8 ^ 0 = 1 by rfl]; omega
  · rw [show 8 ^ 1 = 8 by rfl]; omega
  · rw [show 8 ^ 2 = 64 by rfl]; omega
  · rw [show 8 ^ 3 = 512 by rfl]; omega
  · rw [show 8 ^ 4 = 4096 by rfl]; omega
/-- the next order by numbers -/
def zna (c : Nat) : Nat → Nat
  | 0 => 0
  | i + 1 => if zdg c i < zdg c (i + 1) then i + 1 else zna c i
theorem zna_le {c : Nat} : ∀ i, zna c i ≤ i
  | 0 => Nat.le_refl _
  | i + 1 => by
    show (if zdg c i < zdg c (i + 1) then i + 1 else zna c i) ≤ i + 1
    have := zna_le (c := c) i
    split <;> omega
def zot (c a : Nat) : Nat → Nat
  | 0 => a + 1
  | i + 1 => if a < i ∧ zdg c a < zdg c i then i else zot c a i
theorem zot_le {c a : Nat} : ∀ i, zot c a i ≤ a + 1 ∨ zot c a i < i
  | 0 => Or.inl (Nat.le_refl _)
  | i + 1 => by
    show (if a < i ∧ zdg c a < zdg c i then i else zot c a i) ≤ a + 1 ∨ (if a < i ∧ zdg c a < zdg c i then i else zot c a i) < i + 1
    have := zot_le (c := c) (a := a) i
    split <;> omega
theorem zot_a {c a : Nat} : ∀ i, i ≤ a + 1 → zot c a i = a + 1
  | 0, _ => rfl
  | i + 1, h => by
    show (if a < i ∧ zdg c a < zdg c i then i else zot c a i) = a + 1
    rw [if_neg (by omega)]
    exact zot_a i (by omega)
def zex (c i j : Nat) : Nat := zenc (fun k => if k = i then zdg c j else if k = j then zdg c i else zdg c k)
theorem zdg_ex {c i j k : Nat} (hk : k < 5) : zdg (zex c i j) k = if k = i then zdg c j else if k = j then zdg c i else zdg c k := by
  unfold zex
  rw [zdg_enc (fun k _ => by split <;> (try split) <;> exact zdg_lt) hk]
def zrv : Nat → Nat → Nat → Nat → Nat
  | 0, c, _, _ => c
  | f + 1, c, l, h => if l < h then zrv f (zex c l h) (l + 1) (h - 1) else c
/-- 0 there is none, else the next order's number and 1 -/
def znxo (c n : Nat) : Nat := if zna c (n - 1) = 0 then 0 else zrv 5 (zex c (zna c (n - 1) - 1) (zot c (zna c (n - 1) - 1) n)) (zna c (n - 1)) (n - 1) + 1
def zsq (n : Nat) : Nat → Nat
  | 0 => zenc (fun k => k)
  | k + 1 => znxo (zsq n k) n - 1
def zOr (F : zM) (c : Nat) : Prop := ∀ i, i < 5 → F.1 74 i = nI (zdg c i)
theorem zx_exchange {F : zM} {c i j : Nat} (hO : zOr F c) (hi : i < 5) (hj : j < 5) : ∃ r, xX3_exchange F (nI i) (nI j) = some r ∧ zOr r (zex c i j) ∧ (∀ a b, a ≠ 74 → r.1 a b = F.1 a b) := by
  refine ⟨zsi (zsi F 74 i (F.1 74 j)) 74 j (F.1 74 i), ?_, fun k hk => ?_, fun a b h => ?_⟩
  · unfold xX3_exchange
    simp only [zlet]
    rw [if_neg (nI_pos (by omega)), zl5, if_neg (by rw [nI_leI (by omega) (by omega)]; omega), if_neg (nI_pos (by omega)), if_pos (nI_lt (by omega) (by omega)), if_neg (nI_in (by omega) (by decide)), if_neg (nI_in (by omega) (by decide)), nI_clamp (by omega), nI_clamp (by omega)]
  · rw [zdg_ex hk, zsi_g, zsi_g]
    by_cases g : k = j
    · subst g
      rw [if_pos ⟨rfl, rfl⟩]
      by_cases g2 : k = i
      · rw [if_pos g2, g2]
        exact hO i hi
      · rw [if_neg g2, if_pos rfl]
        exact hO i hi
    · rw [if_neg (fun z => g z.2), if_neg g]
      by_cases g2 : k = i
      · rw [if_pos ⟨rfl, g2⟩, if_pos g2]
        exact hO j hj
      · rw [if_neg (fun z => g2 z.2), if_neg g2]
        exact hO k hk
  · rw [zsi_ne (fun z => h z.1), zsi_ne (fun z => h z.1)]
theorem zx_reverse {n : Nat} : ∀ (f : Nat) (F : zM) (c l h : Nat), zOr F c → l < 6 → h < 5 → h < l + f → f < 100 → zok (x_it (fun a9 => xX3_nextOrder_L114 a9.1 a9.2.1 a9.2.2) zFU (F, nI l, nI h)) (fun r => zOr r (zrv f c l h) ∧ ∀ a b, a ≠ 74 → r.1 a b = F.1 a b) := by
  intro f F c l h hO hl hh hf hf2
  refine zok_it (fun m z => ∃ c' l' h', z = (z.1, nI l', nI h') ∧ zOr z.1 c' ∧ l' < 6 ∧ h' < 5 ∧ h' < l' + m ∧ zrv m c' l' h' = zrv f c l h ∧ ∀ a b, a ≠ 74 → z.1.1 a b = F.1 a b) f ⟨c, l, h, rfl, hO, hl, hh, hf, rfl, fun _ _ _ => rfl⟩ (by omega) ?_
  rintro m ⟨A, i, j⟩ ⟨c', l', h', e0, e1, e2, e3, e4, e5, e6⟩
  have e0a : i = nI l' := congrArg (fun z => z.2.1) e0
  have e0b : j = nI h' := congrArg (fun z => z.2.2) e0
  try dsimp only at e1 e6
  subst e0a e0b
  by_cases g : l' < h'
  · cases m with
    | zero => omega
    | succ m =>
      obtain ⟨B, hB, b1, b2⟩ := zx_exchange e1 (i := l') (j := h') (by omega) e3
      have ed : zrv (m + 1) c' l' h' = zrv m (zex c' l' h') (l' + 1) (h' - 1) := if_pos g
      refine ⟨.inl (B, nI (l' + 1), nI (h' - 1)), ?_, Or.inl ⟨_, m, rfl, by omega, zex c' l' h', l' + 1, h' - 1, rfl, b1, by omega, by omega, by omega, by rw [← ed]; exact e5, fun a b hab => (b2 a b hab).trans (e6 a b hab)⟩⟩
      unfold xX3_nextOrder_L114
      obtain ⟨d, rfl⟩ : ∃ d, h' = d + 1 := ⟨h' - 1, by omega⟩
      rw [if_neg (by rw [nI_leI (by omega) (by omega)]; omega), hB, Option.bind_some, nI_1, zdn_p (by omega), zdn_s, Nat.add_sub_cancel]
  · refine ⟨.inr A, ?_, Or.inr ⟨A, rfl, ?_, e6⟩⟩
    · unfold xX3_nextOrder_L114
      rw [if_pos (nI_le (by omega) (by omega))]
    · have : zrv m c' l' h' = c' := by
        cases m with
        | zero => rfl
        | succ m => exact if_neg g
      rw [← e5, this]
      exact e1
theorem zx_nextOrder {F : zM} {c n : Nat} (hn : n ≤ 5) (h1 : F.1 72 1 = nI n) (hO : zOr F c) : zok (xX3_nextOrder F) (fun r => r.1 = (if znxo c n = 0 then 0 else 1) ∧ (¬ znxo c n = 0 → zOr r.2 (znxo c n - 1)) ∧ ∀ a b, a ≠ 74 → r.2.1 a b = F.1 a b) := by
  have hal := zna_le (c := c) (n - 1)
  unfold xX3_nextOrder
  refine zok_eb (a := zdn (zna c (n - 1))) ?_ ?_
  · refine zfor (fun i => (zdn (zna c i), nI i)) 0 (n - 1) (Nat.zero_le _) (by omega) rfl ?_ ?_
    · intro i _ hi
      have o1 := hO i (by omega)
      have o2 := hO (i + 1) (by omega)
      have l1 := zdg_lt (c := c) (i := i)
      have l2 := zdg_lt (c := c) (i := i + 1)
      have e : zna c (i + 1) = if zdg c i < zdg c (i + 1) then i + 1 else zna c i := rfl
      try dsimp only
      unfold xX3_nextOrder_L4
      rw [nI_1, zl5, if_neg (by rw [nI_leI (by omega) (by omega)]; omega), h1, if_neg (by rw [nI_leI (by omega) (by omega)]; omega), if_neg (nI_in (by omega) (by decide)), if_neg (nI_in (by omega) (by decide)), nI_clamp (by omega), nI_clamp (by omega), o1, o2, e]
      by_cases g : zdg c i < zdg c (i + 1)
      · rw [if_neg (by rw [nI_leI (by omega) (by omega)]; omega), if_pos g, zdn_s]
      · rw [if_pos (nI_le (by omega) (by omega)), if_neg g]
    · try dsimp only
      unfold xX3_nextOrder_L4
      rw [nI_1, zl5]
      by_cases g : 5 ≤ n - 1 + 1
      · rw [if_pos (nI_le g (by omega))]
      · rw [if_neg (by rw [nI_leI (by omega) (by omega)]; omega), h1, if_pos (nI_le (by omega) (by omega))]
  · unfold znxo
    cases ha : zna c (n - 1) with
    | zero =>
      rw [if_neg (show ¬ 0 ≤ zdn 0 by decide), if_pos rfl]
      exact zok_some ⟨rfl, fun z => absurd rfl z, fun _ _ _ => rfl⟩
    | succ a =>
      rw [ha] at hal
      rw [zdn_s, if_pos (nI_pos' (by omega))]
      simp only [if_neg (show ¬ a + 1 = 0 by omega), Nat.add_sub_cancel]
      rw [nI_1]
      refine zok_let (zok_let (zok_eb (a := nI (zot c a n)) ?_ ?_))
      · refine zfor (fun i => (nI (zot c a i), nI i)) (a + 1) n (by omega) (by omega) (by rw [zot_a _ (Nat.le_refl _)]) ?_ ?_
        · intro i hi1 hi2
          have o1 := hO i (by omega)
          have o2 := hO a (by omega)
          have l1 := zdg_lt (c := c) (i := i)
          have l2 := zdg_lt (c := c) (i := a)
          have e : zot c a (i + 1) = if a < i ∧ zdg c a < zdg c i then i else zot c a i := rfl
          try dsimp only
          unfold xX3_nextOrder_L60
          rw [nI_1, zl5, if_neg (by rw [nI_leI (by omega) (by omega)]; omega), h1, if_neg (by rw [nI_leI (by omega) (by omega)]; omega), if_neg (nI_in (by omega) (by decide)), if_neg (nI_in (by omega) (by decide)), nI_clamp (by omega), nI_clamp (by omega), o1, o2, e]
          by_cases g : zdg c a < zdg c i
          · rw [if_neg (by rw [nI_leI (by omega) (by omega)]; omega), if_pos ⟨by omega, g⟩]
          · rw [if_pos (nI_le (by omega) (by omega)), if_neg (fun z => g z.2)]
        · try dsimp only
          unfold xX3_nextOrder_L60
          rw [zl5]
          by_cases g : 5 ≤ n
          · rw [if_pos (nI_le g (by omega))]
          · rw [if_neg (by rw [nI_leI (by omega) (by omega)]; omega), h1, if_pos (nI_le (by omega) (by omega))]
      · have hot := zot_le (c := c) (a := a) n
        obtain ⟨B, hB, b1, b2⟩ := zx_exchange hO (i := a) (j := zot c a n) (by omega) (by omega)
        refine zok_eb hB (zok_let (zok_let (zok_bind ?_)))
        rw [b2 72 1 (by decide), h1, show nI n - (1 : Int32) = nI (n - 1) from by rw [show (1 : Int32) = nI 1 from rfl, nI_sub (by omega)]]
        refine (zx_reverse (n := n) 5 B _ (a + 1) (n - 1) b1 (by omega) (by omega) (by omega) (by decide)).imp ?_
        rintro C ⟨c1, c2⟩
        exact zok_some ⟨rfl, fun _ => c1, fun x y hxy => (c2 x y hxy).trans (b2 x y hxy)⟩
/-- the reference's orders -/
def zsc8 (s : Nat) : Nat → Nat → Nat → Nat
  | 0, _, f => f
  | k + 1, nth, f => if s.testBit f = true ∨ 0 < nth then zsc8 s k (nth - (if s.testBit f = true then 0 else 1)) (f + 1) else f
/-- whether the look for the next one comes to an end in so many steps -/
def zsok (s : Nat) : Nat → Nat → Nat → Bool
  | 0, _, _ => false
  | k + 1, nth, f => if s.testBit f = true ∨ 0 < nth then zsok s k (nth - (if s.testBit f = true then 0 else 1)) (f + 1) else true
def zfac : Nat → Nat
  | 0 => 1
  | n + 1 => zfac n * (n + 1)
/-- what was taken, the rest, the block, the order so far -/
def zog (n k : Nat) : Nat → Nat × Nat × Nat × Nat
  | 0 => (0, k, zfac (n - 1), 0)
  | i + 1 => ((zog n k i).1 ||| 2 ^ (zsc8 (zog n k i).1 8 ((zog n k i).2.1 / (zog n k i).2.2.1) 0), (zog n k i).2.1 % (zog n k i).2.2.1, (if n - 1 - i = 0 then (zog n k i).2.2.1 else (zog n k i).2.2.1 / (n - 1 - i)), (zog n k i).2.2.2 + zsc8 (zog n k i).1 8 ((zog n k i).2.1 / (zog n k i).2.2.1) 0 * 8 ^ i)
def zogok (n k i : Nat) : Bool := decide (0 < (zog n k i).2.2.1 ∧ (zog n k i).1 < 2 ^ 10 ∧ (zog n k i).2.1 < 1000 ∧ (zog n k i).2.2.1 < 1000 ∧ zsc8 (zog n k i).1 8 ((zog n k i).2.1 / (zog n k i).2.2.1) 0 < 5) && zsok (zog n k i).1 8 ((zog n k i).2.1 / (zog n k i).2.2.1) 0
set_option maxRecDepth 100000 in
theorem zog_all : ∀ n, n < 6 → ∀ k, k < zfac n → ∀ i, i < n → zogok n k i = true ∧ zdg (zog n k n).2.2.2 i = zdg (zsq n k) i ∧ zdg (zog n k n).2.2.2 i = zsc8 (zog n k i).1 8 ((zog n k i).2.1 / (zog n k i).2.2.1) 0 ∧ zdg (zsq n k) i < n := by decide +kernel
set_option maxRecDepth 100000 in
theorem zsq_all : ∀ n, n < 6 → ∀ k, k < zfac n → (znxo (zsq n k) n = 0 ↔ k + 1 = zfac n) := by decide +kernel
