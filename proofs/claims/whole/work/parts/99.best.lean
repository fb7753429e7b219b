/-! the orders with it latest and soonest -/
def zbt (latest : Bool) (a b : Nat) : Bool := if latest = true then decide (b < a) else decide (a < b)
def zbs2 (latest : Bool) (fc : Nat → Nat) (n : Nat) : Nat → Nat × Nat
  | 0 => (0, 0)
  | k + 1 => if k = 0 ∨ zbt latest (zhd fc (zdg (zsq n k)) n) (zbs2 latest fc n k).1 = true then (zhd fc (zdg (zsq n k)) n, zsq n k) else zbs2 latest fc n k
theorem zbs2_pos {latest : Bool} {fc : Nat → Nat} {n : Nat} (hn : n ≤ 5) : ∀ k, (zbs2 latest fc n k).1 ≤ 6 ∧ (0 < k → 1 ≤ (zbs2 latest fc n k).1)
  | 0 => ⟨Nat.zero_le _, fun h => absurd h (by decide)⟩
  | k + 1 => by
    have h := zhd_lt (fc := fc) (od := zdg (zsq n k)) hn
    have ih := zbs2_pos (latest := latest) (fc := fc) hn k
    have e : zbs2 latest fc n (k + 1) = if k = 0 ∨ zbt latest (zhd fc (zdg (zsq n k)) n) (zbs2 latest fc n k).1 = true then (zhd fc (zdg (zsq n k)) n, zsq n k) else zbs2 latest fc n k := rfl
    rw [e]
    split
    · exact ⟨h.2, fun _ => h.1⟩
    · rename_i hc
      exact ⟨ih.1, fun _ => ih.2 (by omega)⟩
theorem zfac_le : ∀ n, n < 6 → 1 ≤ zfac n ∧ zfac n ≤ 120 := by decide
theorem zx_scan {A : zM} {s R : Nat} {v3 v4 v5 : Int32} (hs : s < 2 ^ 31) : ∀ (k nth f : Nat), zsok s k nth f = true → f + k < 32 → nth < 2 ^ 30 → zsc8 s k nth f = R → x_it (fun a9 => xX12_ordered_L58_L35 A (nI s) v3 v4 v5 a9.1 a9.2) zFU (nI nth, nI f) = some (nI R) := by
  intro k nth f hok hf hn hR
  refine zok.eq ?_
  refine zok_it (fun m z => ∃ nth f, z = (nI nth, nI f) ∧ zsok s m nth f = true ∧ f + m < 32 ∧ nth < 2 ^ 30 ∧ zsc8 s m nth f = R) k ⟨nth, f, rfl, hok, hf, hn, hR⟩ (by omega) ?_
  rintro m z ⟨nth, f, rfl, h1, h2, h3, h4⟩
  cases m with
  | zero => cases h1
  | succ m =>
    have e1 : zsok s (m + 1) nth f = if s.testBit f = true ∨ 0 < nth then zsok s m (nth - (if s.testBit f = true then 0 else 1)) (f + 1) else true := rfl
    have e2 : zsc8 s (m + 1) nth f = if s.testBit f = true ∨ 0 < nth then zsc8 s m (nth - (if s.testBit f = true then 0 else 1)) (f + 1) else f := rfl
    rw [e1] at h1
    rw [e2] at h4
    try dsimp only
    by_cases b : s.testBit f = true
    · rw [if_pos (Or.inl b), if_pos b] at h1 h4
      refine ⟨.inl (nI (nth - 0), nI (f + 1)), ?_, Or.inl ⟨_, m, rfl, by omega, nth - 0, f + 1, rfl, h1, by omega, by omega, h4⟩⟩
      unfold xX12_ordered_L58_L35
      rw [zif (zbit hs (by omega)), zif (zbit0 hs (by omega)), if_pos b, if_neg (by rw [b]; decide)]
      simp only [zlet]
      rw [show nI nth - (0 : Int32) = nI (nth - 0) from nI_sub (Nat.zero_le _), nI_1]
    · have b2 : s.testBit f = false := by simpa using b
      by_cases g : 0 < nth
      · rw [if_pos (Or.inr g), if_neg b] at h1 h4
        refine ⟨.inl (nI (nth - 1), nI (f + 1)), ?_, Or.inl ⟨_, m, rfl, by omega, nth - 1, f + 1, rfl, h1, by omega, by omega, h4⟩⟩
        unfold xX12_ordered_L58_L35
        rw [zif (zbit hs (by omega)), zif (zbit0 hs (by omega)), if_neg b, if_neg (by rw [nI_le0 (by omega)]; omega), if_pos b2]
        simp only [zlet]
        rw [show nI nth - (1 : Int32) = nI (nth - 1) from nI_sub g, nI_1]
      · rw [if_neg (fun z => z.elim b g)] at h4
        refine ⟨.inr (nI f), ?_, Or.inr ⟨_, rfl, by rw [h4]⟩⟩
        unfold xX12_ordered_L58_L35
        rw [zif (zbit hs (by omega)), if_neg b, if_pos (by rw [nI_le0 (by omega)]; omega)]
theorem zx_ordered {M : zM} {n k : Nat} (hn : n < 6) (hk : k < zfac n) (h44 : M.1 0 44 = nI n) : zok (xX12_ordered M (nI k)) (fun r => (∀ i, i < n → r.1 29 i = nI (zdg (zsq n k) i)) ∧ (∀ a b, a ≠ 29 → r.1 a b = M.1 a b) ∧ r.2 = M.2) := by
  unfold xX12_ordered
  refine zok_eb (a := nI (zfac (n - 1))) ?_ ?_
  · by_cases g : n ≤ 2
    · have e : zfac (n - 1) = 1 := by
        have hc : n = 0 ∨ n = 1 ∨ n = 2 := by omega
        rcases hc with rfl | rfl | rfl <;> rfl
      rw [e]
      refine zfor (fun _ => ((1 : Int32), (2 : Int32))) 2 2 (Nat.le_refl _) (by decide) rfl (fun c h1 h2 => absurd h2 (by omega)) ?_
      try dsimp only
      unfold xX12_ordered_L10
      rw [h44, zl2, if_pos (nI_le g (by decide))]
      rfl
    · refine zfor (fun c => (nI (zfac (c - 1)), nI c)) 2 n (by omega) (by omega) rfl ?_ ?_
      · intro c h1 h2
        obtain ⟨d, rfl⟩ : ∃ d, c = d + 1 := ⟨c - 1, by omega⟩
        try dsimp only
        unfold xX12_ordered_L10
        simp only [zlet]
        rw [h44, if_neg (by rw [nI_leI (by omega) (by omega)]; omega), nI_mul, nI_1]
        rfl
      · try dsimp only
        unfold xX12_ordered_L10
        rw [h44, if_pos (nI_le (Nat.le_refl _) (by omega))]
  · refine zok_bind ?_
    refine zok_for (fun i (z : zM × Int32 × Int32 × Int32 × Int32) => z = (z.1, nI (zog n k i).1, nI (zog n k i).2.1, nI (zog n k i).2.2.1, nI i) ∧ (∀ j, j < i → z.1.1 29 j = nI (zsc8 (zog n k j).1 8 ((zog n k j).2.1 / (zog n k j).2.2.1) 0)) ∧ (∀ a b, a ≠ 29 → z.1.1 a b = M.1 a b) ∧ z.1.2 = M.2) 0 n (Nat.zero_le _) (by omega) ⟨rfl, fun j h => absurd h (Nat.not_lt_zero _), fun _ _ _ => rfl, rfl⟩ ?_ ?_
    · rintro i ⟨A, x1, x2, x3, x4⟩ h1 h2 ⟨e0, e1, e2, e3⟩
      have q1 : x1 = nI (zog n k i).1 := congrArg (fun z => z.2.1) e0
      have q2 : x2 = nI (zog n k i).2.1 := congrArg (fun z => z.2.2.1) e0
      have q3 : x3 = nI (zog n k i).2.2.1 := congrArg (fun z => z.2.2.2.1) e0
      have q4 : x4 = nI i := congrArg (fun z => z.2.2.2.2) e0
      subst q1 q2 q3 q4
      try dsimp only at e1 e2 e3
      obtain ⟨z1, -, -, -⟩ := zog_all n hn k hk i h2
      unfold zogok at z1
      rw [Bool.and_eq_true] at z1
      obtain ⟨b0, b1, b2, b3, b4⟩ := of_decide_eq_true z1.1
      have es : zog n k (i + 1) = ((zog n k i).1 ||| 2 ^ (zsc8 (zog n k i).1 8 ((zog n k i).2.1 / (zog n k i).2.2.1) 0), (zog n k i).2.1 % (zog n k i).2.2.1, (if n - 1 - i = 0 then (zog n k i).2.2.1 else (zog n k i).2.2.1 / (n - 1 - i)), (zog n k i).2.2.2 + zsc8 (zog n k i).1 8 ((zog n k i).2.1 / (zog n k i).2.2.1) 0 * 8 ^ i) := rfl
      rw [es]
      have z2 := z1.2
      obtain ⟨f, hf⟩ : ∃ f, zsc8 (zog n k i).1 8 ((zog n k i).2.1 / (zog n k i).2.2.1) 0 = f := ⟨_, rfl⟩
      have hkeep : ∀ j, j = i → nI (zsc8 (zog n k j).1 8 ((zog n k j).2.1 / (zog n k j).2.2.1) 0) = nI f := by
        rintro j rfl
        rw [hf]
      rw [hf] at b4 es ⊢
      generalize (zog n k i).1 = s at *
      generalize (zog n k i).2.1 = r at *
      generalize (zog n k i).2.2.1 = b at *
      have hdl : r / b ≤ r := Nat.div_le_self _ _
      have hsc : ∀ v3 v4 v5 : Int32, x_it (fun a9 => xX12_ordered_L58_L35 A (nI s) v3 v4 v5 a9.1 a9.2) zFU (nI (r / b), (0 : Int32)) = some (nI f) := fun v3 v4 v5 => zx_scan (A := A) (v3 := v3) (v4 := v4) (v5 := v5) (s := s) (by omega) 8 (r / b) 0 z2 (by omega) (by omega) hf
      have hmod : nI r - nI (r / b) * nI b = nI (r % b) := by
        rw [nI_mul, nI_sub (Nat.div_mul_le_self r b), Nat.mod_eq_sub_div_mul]
      refine ⟨.inl (zsi A 29 i (nI f), nI (s ||| 2 ^ f), nI (r % b), nI (if n - 1 - i = 0 then b else b / (n - 1 - i)), nI (i + 1)), ?_, _, rfl, rfl, fun j hj => ?_, fun x y hx => ?_, e3⟩
      · try dsimp only
        unfold xX12_ordered_L35
        simp only [zlet]
        rw [e2 0 44 (by decide), h44, if_neg (by rw [nI_leI (by omega) (by omega)]; omega), if_neg (by rw [nI_eq0 (by omega)]; omega), nI_div (by omega) (by omega), hmod]
        rw [hsc, Option.bind_some, if_neg (nI_in (by omega) (by decide)), nI_clamp (by omega), zsi_ne (by omega), e2 0 44 (by decide), h44, zshl f (by omega), zor, show nI n - (1 : Int32) - nI i = nI (n - 1 - i) from by rw [show (1 : Int32) = nI 1 from rfl, nI_sub (by omega), nI_sub (by omega)], nI_1]
        by_cases g : n - 1 - i = 0
        · rw [if_pos g, g, if_pos (by decide)]
        · rw [if_neg g, if_neg (by rw [nI_le0 (by omega)]; exact g), if_neg (by rw [nI_eq0 (by omega)]; exact g), nI_div (by omega) (by omega)]
      · try dsimp only
        by_cases g : j = i
        · rw [zsi_y ⟨rfl, g⟩]
          exact (hkeep j g).symm
        · rw [zsi_ne (fun z => g z.2)]
          exact e1 j (by omega)
      · try dsimp only
        rw [zsi_ne (fun z => hx z.1)]
        exact e2 x y hx
    · rintro ⟨A, x1, x2, x3, x4⟩ ⟨e0, e1, e2, e3⟩
      have q4 : x4 = nI n := congrArg (fun z => z.2.2.2.2) e0
      subst q4
      try dsimp only at e1 e2 e3
      refine ⟨.inr A, ?_, A, rfl, zok_some ⟨fun i hi => ?_, e2, e3⟩⟩
      · try dsimp only
        unfold xX12_ordered_L35
        rw [e2 0 44 (by decide), h44, if_pos (nI_le (Nat.le_refl _) (by omega))]
      · obtain ⟨-, y1, y2, -⟩ := zog_all n hn k hk i hi
        rw [e1 i hi, ← y2, y1]
/-- the reference finds the best order -/
theorem zx_best {M : zM} {n : Nat} {fc : Nat → Nat} (latest : Bool) (hn : n < 6) (h44 : M.1 0 44 = nI n) (hfc : ∀ i, i < n → M.1 28 i = nI (fc i)) {v : Int32} (hv : ¬ v < -1) : zok (xX12_best M (if latest = true then 1 else 0) v) (fun r => r.1 = (if v = -1 then nI (zbs2 latest fc n (zfac n)).1 else if nI n ≤ v then -9 else nI (zdg (zbs2 latest fc n (zfac n)).2 v.toNatClampNeg)) ∧ (∀ a b, a ≠ 29 → a ≠ 30 → r.2.1 a b = M.1 a b) ∧ r.2.2 = M.2) := by
  have hfl := zfac_le n hn
  unfold xX12_best
  refine zok_y (by rw [Int32.le_iff_toInt_le]; rw [Int32.lt_iff_toInt_lt] at hv; omega) ?_
  refine zok_eb (a := nI (zfac n)) ?_ ?_
  · by_cases g : n < 2
    · have e : zfac n = 1 := by
        have hc : n = 0 ∨ n = 1 := by omega
        rcases hc with rfl | rfl <;> rfl
      rw [e]
      refine zfor (fun _ => ((1 : Int32), (2 : Int32))) 2 2 (Nat.le_refl _) (by decide) rfl (fun c h1 h2 => absurd h2 (by omega)) ?_
      try dsimp only
      unfold xX12_best_L17
      rw [h44, zl2, if_pos (nI_lt g (by decide))]
      rfl
    · refine zfor (fun c => (nI (zfac (c - 1)), nI c)) 2 (n + 1) (by omega) (by omega) rfl ?_ ?_
      · intro c h1 h2
        obtain ⟨d, rfl⟩ : ∃ d, c = d + 1 := ⟨c - 1, by omega⟩
        try dsimp only
        unfold xX12_best_L17
        simp only [zlet]
        rw [h44, if_neg (by rw [nI_ltI (by omega) (by omega)]; omega), nI_mul, nI_1]
        rfl
      · try dsimp only
        unfold xX12_best_L17
        rw [h44, if_pos (nI_lt (by omega) (by omega)), Nat.add_sub_cancel]
  · refine zok_bind ?_
    refine (zok_for (fun k (z : zM × Int32 × Int32) => z = (z.1, nI (zbs2 latest fc n k).1, nI k) ∧ (∀ j, j < n → 0 < k → z.1.1 30 j = nI (zdg (zbs2 latest fc n k).2 j)) ∧ (∀ a b, a ≠ 29 → a ≠ 30 → z.1.1 a b = M.1 a b) ∧ z.1.2 = M.2) 0 (zfac n) (Nat.zero_le _) (by omega) ⟨rfl, fun j _ h => absurd h (Nat.not_lt_zero _), fun _ _ _ _ => rfl, rfl⟩ ?_ ?_ (P := fun r => r.2 = nI (zbs2 latest fc n (zfac n)).1 ∧ (∀ j, j < n → r.1.1 30 j = nI (zdg (zbs2 latest fc n (zfac n)).2 j)) ∧ (∀ a b, a ≠ 29 → a ≠ 30 → r.1.1 a b = M.1 a b) ∧ r.1.2 = M.2)).imp ?_
    · rintro k ⟨A, x1, x2⟩ h1 h2 ⟨e0, e1, e2, e3⟩
      have q1 : x1 = nI (zbs2 latest fc n k).1 := congrArg (fun z => z.2.1) e0
      have q2 : x2 = nI k := congrArg (fun z => z.2.2) e0
      subst q1 q2
      try dsimp only at e1 e2 e3
      obtain ⟨B, hB, b1, b2, b3⟩ := zx_ordered (M := A) hn h2 ((e2 0 44 (by decide) (by decide)).trans h44)
      have hlt : ∀ i, i < n → zdg (zsq n k) i < n := fun i hi => (zog_all n hn k h2 i hi).2.2.2
      have hh := zx_hadOf (M := B) (fc := fc) (od := zdg (zsq n k)) (n := n) (by omega) (fun i hi => ⟨b1 i hi, by have := hlt i hi; omega, (b2 28 _ (by decide)).trans ((e2 28 _ (by decide) (by decide)).trans (hfc _ (hlt i hi)))⟩)
      have hB44 : B.1 0 44 = nI n := (b2 0 44 (by decide)).trans ((e2 0 44 (by decide) (by decide)).trans h44)
      have hp := zbs2_pos (latest := latest) (fc := fc) (n := n) (by omega) k
      have hhd := zhd_lt (fc := fc) (od := zdg (zsq n k)) (n := n) (by omega)
      have copy : ∀ (v1 v2 v3 v4 v5 : Int32), zok (x_it (fun a9 => xX12_best_L101_L43 v1 v2 v3 v4 v5 a9.1 a9.2) zFU (B, (0 : Int32))) (fun r => (∀ j, j < n → r.1 30 j = nI (zdg (zsq n k) j)) ∧ (∀ a b, a ≠ 30 → r.1 a b = B.1 a b) ∧ r.2 = B.2) := by
        intro v1 v2 v3 v4 v5
        refine zok_for (fun c (z : zM × Int32) => z.2 = nI c ∧ (∀ j, j < c → z.1.1 30 j = nI (zdg (zsq n k) j)) ∧ (∀ a b, a ≠ 30 → z.1.1 a b = B.1 a b) ∧ z.1.2 = B.2) 0 n (Nat.zero_le _) (by omega) ⟨rfl, fun j h => absurd h (Nat.not_lt_zero _), fun _ _ _ => rfl, rfl⟩ ?_ ?_
        · rintro c ⟨C, i⟩ g1 g2 ⟨c0, c1, c2, c3⟩
          try dsimp only at c0 c1 c2 c3
          subst c0
          refine ⟨.inl (zsi C 30 c (nI (zdg (zsq n k) c)), nI (c + 1)), ?_, _, rfl, rfl, fun j hj => ?_, fun a b hab => ?_, c3⟩
          · try dsimp only
            unfold xX12_best_L101_L43
            simp only [zlet]
            rw [c2 0 44 (by decide), hB44, if_neg (by rw [nI_leI (by omega) (by omega)]; omega), if_neg (nI_in (by omega) (by decide)), nI_clamp (by omega), c2 29 c (by decide), b1 c g2, nI_1]
          · try dsimp only
            by_cases g : j = c
            · rw [g, zsi_y ⟨rfl, rfl⟩]
            · rw [zsi_ne (fun z => g z.2)]
              exact c1 j (by omega)
          · try dsimp only
            rw [zsi_ne (fun z => hab z.1)]
            exact c2 a b hab
        · rintro ⟨C, i⟩ ⟨c0, c1, c2, c3⟩
          try dsimp only at c0 c1 c2 c3
          subst c0
          refine ⟨.inr C, ?_, C, rfl, c1, c2, c3⟩
          try dsimp only
          unfold xX12_best_L101_L43
          rw [c2 0 44 (by decide), hB44, if_pos (nI_le (Nat.le_refl _) (by omega))]
      have es : zbs2 latest fc n (k + 1) = if k = 0 ∨ zbt latest (zhd fc (zdg (zsq n k)) n) (zbs2 latest fc n k).1 = true then (zhd fc (zdg (zsq n k)) n, zsq n k) else zbs2 latest fc n k := rfl
      -- what is taken, what is left
      have take : (k = 0 ∨ zbt latest (zhd fc (zdg (zsq n k)) n) (zbs2 latest fc n k).1 = true) → ∀ (v1 v2 v3 v4 v5 : Int32), ∃ C, x_it (fun a9 => xX12_best_L101_L43 v1 v2 v3 v4 v5 a9.1 a9.2) zFU (B, (0 : Int32)) = some C ∧ (fun (z : zM × Int32 × Int32) => z = (z.1, nI (zbs2 latest fc n (k + 1)).1, nI (k + 1)) ∧ (∀ j, j < n → 0 < k + 1 → z.1.1 30 j = nI (zdg (zbs2 latest fc n (k + 1)).2 j)) ∧ (∀ a b, a ≠ 29 → a ≠ 30 → z.1.1 a b = M.1 a b) ∧ z.1.2 = M.2) (C, nI (zhd fc (zdg (zsq n k)) n), nI (k + 1)) := by
        intro hc v1 v2 v3 v4 v5
        obtain ⟨C, hC, c1, c2, c3⟩ := copy v1 v2 v3 v4 v5
        rw [if_pos hc] at es
        refine ⟨C, hC, by rw [es], fun j hj _ => by rw [es]; exact c1 j hj, fun a b g1 g2 => ((c2 a b g2).trans (b2 a b g1)).trans (e2 a b g1 g2), ?_⟩
        exact c3.trans (b3.trans e3)
      have leave : ¬ (k = 0 ∨ zbt latest (zhd fc (zdg (zsq n k)) n) (zbs2 latest fc n k).1 = true) → (fun (z : zM × Int32 × Int32) => z = (z.1, nI (zbs2 latest fc n (k + 1)).1, nI (k + 1)) ∧ (∀ j, j < n → 0 < k + 1 → z.1.1 30 j = nI (zdg (zbs2 latest fc n (k + 1)).2 j)) ∧ (∀ a b, a ≠ 29 → a ≠ 30 → z.1.1 a b = M.1 a b) ∧ z.1.2 = M.2) (B, nI (zbs2 latest fc n k).1, nI (k + 1)) := by
        intro hc
        rw [if_neg hc] at es
        have hk0 : ¬ k = 0 := fun z => hc (Or.inl z)
        refine ⟨by rw [es], fun j hj _ => ?_, fun a b g1 g2 => (b2 a b g1).trans (e2 a b g1 g2), b3.trans e3⟩
        rw [es]
        exact (b2 30 j (by decide)).trans (e1 j hj (by omega))
      have pre : ∀ o, xX12_best_L43 (if latest = true then 1 else 0) v (nI (zfac n)) A (nI (zbs2 latest fc n k).1) (nI k) = o ↔ (if nI k ≤ 0 then ((x_it (fun a9 => xX12_best_L101_L43 (if latest = true then 1 else 0) v (nI (zfac n)) (nI (zhd fc (zdg (zsq n k)) n)) (nI k) a9.1 a9.2) zFU (B, (0 : Int32))).bind fun q5 => some (.inl (q5, nI (zhd fc (zdg (zsq n k)) n), (nI k + (1 : Int32))))) else if (if latest = true then (1 : Int32) else 0) = 0 then (if nI (zhd fc (zdg (zsq n k)) n) < nI (zbs2 latest fc n k).1 then ((x_it (fun a9 => xX12_best_L101_L43 (if latest = true then 1 else 0) v (nI (zfac n)) (nI (zhd fc (zdg (zsq n k)) n)) (nI k) a9.1 a9.2) zFU (B, (0 : Int32))).bind fun q8 => some (.inl (q8, nI (zhd fc (zdg (zsq n k)) n), (nI k + (1 : Int32))))) else some (.inl (B, nI (zbs2 latest fc n k).1, (nI k + (1 : Int32))))) else if nI (zbs2 latest fc n k).1 < nI (zhd fc (zdg (zsq n k)) n) then ((x_it (fun a9 => xX12_best_L101_L43 (if latest = true then 1 else 0) v (nI (zfac n)) (nI (zhd fc (zdg (zsq n k)) n)) (nI k) a9.1 a9.2) zFU (B, (0 : Int32))).bind fun q10 => some (.inl (q10, nI (zhd fc (zdg (zsq n k)) n), (nI k + (1 : Int32))))) else some (.inl (B, nI (zbs2 latest fc n k).1, (nI k + (1 : Int32))))) = o := by
        intro o
        unfold xX12_best_L43
        rw [if_neg (by rw [nI_leI (by omega) (by omega)]; omega), hB, Option.bind_some, hB44, hh, Option.bind_some]
      by_cases hc : k = 0 ∨ zbt latest (zhd fc (zdg (zsq n k)) n) (zbs2 latest fc n k).1 = true
      · obtain ⟨C, hC, c1⟩ := take hc (if latest = true then 1 else 0) v (nI (zfac n)) (nI (zhd fc (zdg (zsq n k)) n)) (nI k)
        refine ⟨.inl (C, nI (zhd fc (zdg (zsq n k)) n), nI (k + 1)), (pre _).mpr ?_, _, rfl, c1⟩
        rw [hC, Option.bind_some, nI_1, zif (nI_le0 (by omega)), zifi (nI_ltI (by omega) (by omega)), zifi (nI_ltI (by omega) (by omega))]
        by_cases hk0 : k = 0
        · rw [if_pos hk0]
        · rw [if_neg hk0]
          have hc2 := hc.resolve_left hk0
          cases latest with
          | true =>
            rw [if_neg (show ¬ (if true = true then (1 : Int32) else 0) = 0 by decide), if_pos (of_decide_eq_true hc2)]
          | false =>
            rw [if_pos (show (if false = true then (1 : Int32) else 0) = 0 by decide), if_pos (of_decide_eq_true hc2)]
      · refine ⟨.inl (B, nI (zbs2 latest fc n k).1, nI (k + 1)), (pre _).mpr ?_, _, rfl, leave hc⟩
        have hk0 : ¬ k = 0 := fun z => hc (Or.inl z)
        have hc2 : ¬ zbt latest (zhd fc (zdg (zsq n k)) n) (zbs2 latest fc n k).1 = true := fun z => hc (Or.inr z)
        rw [nI_1, zif (nI_le0 (by omega)), zifi (nI_ltI (by omega) (by omega)), zifi (nI_ltI (by omega) (by omega)), if_neg hk0]
        cases latest with
        | true =>
          rw [if_neg (show ¬ (if true = true then (1 : Int32) else 0) = 0 by decide), if_neg (fun z => hc2 (decide_eq_true z))]
        | false =>
          rw [if_pos (show (if false = true then (1 : Int32) else 0) = 0 by decide), if_neg (fun z => hc2 (decide_eq_true z))]
    · rintro ⟨A, x1, x2⟩ ⟨e0, e1, e2, e3⟩
      have q1 : x1 = nI (zbs2 latest fc n (zfac n)).1 := congrArg (fun z => z.2.1) e0
      have q2 : x2 = nI (zfac n) := congrArg (fun z => z.2.2) e0
      subst q1 q2
      try dsimp only at e1 e2 e3
      refine ⟨.inr (A, nI (zbs2 latest fc n (zfac n)).1), ?_, _, rfl, rfl, fun j hj => e1 j hj (by omega), e2, e3⟩
      try dsimp only
      unfold xX12_best_L43
      rw [if_pos (nI_le (Nat.le_refl _) (by omega))]
    · rintro ⟨A, x1⟩ ⟨e0, e1, e2, e3⟩
      try dsimp only at e0 e1 e2 e3 ⊢
      subst e0
      by_cases g : v = -1
      · refine zok_y g ?_
        refine zok_some ⟨?_, e2, e3⟩
        rw [if_pos g]
      · refine zok_n g ?_
        rw [e2 0 44 (by decide) (by decide), h44]
        have hv0 : ¬ v < 0 := by
          intro z
          have h1 : v.toInt ≠ -1 := fun y => g (Int32.toInt_inj.mp y)
          rw [Int32.lt_iff_toInt_lt] at hv z
          have h2 : ((-1 : Int32)).toInt = -1 := by decide
          have h3 : ((0 : Int32)).toInt = 0 := by decide
          omega
        obtain ⟨j, hj, rfl⟩ := nI_of hv0
        by_cases g2 : nI n ≤ nI j
        · refine zok_y g2 ?_
          refine zok_some ⟨?_, e2, e3⟩
          rw [if_neg g, if_pos g2]
        · refine zok_n g2 ?_
          have hjn : j < n := by
            rw [nI_leI (by omega) (by omega)] at g2
            omega
          refine zok_g (by first | exact nI_in (by omega) (by decide) | exact zin_w (by omega) (by decide)) ?_
          refine zok_some ⟨?_, e2, e3⟩
          rw [if_neg g, if_neg g2, nI_clamp (by omega)]
          exact e1 j hjn
