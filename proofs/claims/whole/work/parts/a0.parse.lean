/-! how a quiz is read -/
theorem zsi_zsi {M : zM} {j k : Nat} {v w : Int32} : zsi (zsi M j k v) j k w = zsi M j k w := by
  refine Prod.ext ?_ rfl
  funext a b
  show (zsi (zsi M j k v) j k w).1 a b = (zsi M j k w).1 a b
  rw [zsi_g, zsi_g, zsi_g]
  split <;> rfl
/-- the sign at a place -/
def zsg (nt : Nat) (tp : Nat → Nat) (a : Nat) : Int32 := if a < nt then nI (tp a) else -1
def zdt (nt : Nat) (tp : Nat → Nat) (a : Nat) : Bool := decide (a < nt ∧ 48 ≤ tp a ∧ tp a ≤ 57)
def zcn (nt : Nat) (tp : Nat → Nat) (a : Nat) : Nat → Nat
  | 0 => 0
  | k + 1 => if zcn nt tp a k = k ∧ zdt nt tp (a + k) = true then k + 1 else zcn nt tp a k
def zvn (tp : Nat → Nat) (a : Nat) : Nat → Nat
  | 0 => 0
  | k + 1 => 10 * zvn tp a k + (tp (a + k) - 48)
theorem zcn_le {nt : Nat} {tp : Nat → Nat} {a : Nat} : ∀ k, zcn nt tp a k ≤ k
  | 0 => Nat.le_refl _
  | k + 1 => by
    have := zcn_le (nt := nt) (tp := tp) (a := a) k
    show (if zcn nt tp a k = k ∧ zdt nt tp (a + k) = true then k + 1 else zcn nt tp a k) ≤ k + 1
    split <;> omega
/-- digits that were taken are digits -/
theorem zcn_dt {nt : Nat} {tp : Nat → Nat} {a j : Nat} : ∀ k, j < zcn nt tp a k → zdt nt tp (a + j) = true
  | 0, h => absurd h (Nat.not_lt_zero _)
  | k + 1, h => by
    have e : zcn nt tp a (k + 1) = if zcn nt tp a k = k ∧ zdt nt tp (a + k) = true then k + 1 else zcn nt tp a k := rfl
    rw [e] at h
    by_cases q : zcn nt tp a k = k ∧ zdt nt tp (a + k) = true
    · rw [if_pos q] at h
      by_cases g : j = k
      · rw [g]; exact q.2
      · exact zcn_dt k (by omega)
    · rw [if_neg q] at h
      exact zcn_dt k h
theorem zcn_more {nt : Nat} {tp : Nat → Nat} {a k : Nat} (h : zdt nt tp (a + zcn nt tp a k) = false) : ∀ d, zcn nt tp a (k + d) = zcn nt tp a k
  | 0 => rfl
  | d + 1 => by
    have ih := zcn_more h d
    show (if zcn nt tp a (k + d) = k + d ∧ zdt nt tp (a + (k + d)) = true then k + d + 1 else zcn nt tp a (k + d)) = _
    rw [ih]
    refine if_neg (fun z => ?_)
    rw [z.1, z.2] at h
    cases h
theorem zvn_lt {nt : Nat} {tp : Nat → Nat} {a : Nat} : ∀ k, (∀ j, j < k → zdt nt tp (a + j) = true) → zvn tp a k < 10 ^ k
  | 0, _ => Nat.one_pos
  | k + 1, h => by
    have ih := zvn_lt k (fun j hj => h j (by omega))
    have h2 := h k (by omega)
    unfold zdt at h2
    have h3 := of_decide_eq_true h2
    show 10 * zvn tp a k + (tp (a + k) - 48) < 10 ^ (k + 1)
    rw [Nat.pow_succ]
    omega
/-- what the tape holds -/
def zTp (f : Nat → Int32) (nt : Nat) (tp : Nat → Nat) : Prop := nt ≤ 64 ∧ ∀ i, i < nt → f i = nI (tp i) ∧ tp i < 256
theorem zdt_lt {nt : Nat} {tp : Nat → Nat} {a : Nat} (h : zdt nt tp a = true) : a < nt ∧ 48 ≤ tp a ∧ tp a ≤ 57 := of_decide_eq_true h
section
variable {nt a : Nat} {tp : Nat → Nat} {M X : zM}
theorem zx_sign (ht : zTp (M.1 13) nt tp) (hn : M.1 0 21 = nI nt) (ha : M.1 0 22 = nI a) (ha2 : a < 2 ^ 20) : xX12_sign M = some (zsg nt tp a) := by
  have h64 := ht.1
  unfold xX12_sign zsg
  rw [hn, ha]
  by_cases g : a < nt
  · rw [if_neg (by rw [nI_leI (by omega) (by omega)]; omega), if_neg (nI_in (by omega) (by decide)), nI_clamp (by omega), if_pos g, (ht.2 a g).1]
  · rw [if_pos (nI_le (by omega) (by omega)), if_neg g]
theorem zx_here (ht : zTp (X.1 71) nt tp) (hn : X.1 70 1 = nI nt) (ha : X.1 70 2 = nI a) (ha2 : a < 2 ^ 20) : xX8_here X = some (zsg nt tp a) := by
  have h64 := ht.1
  unfold xX8_here zsg
  rw [hn, ha, if_neg (nI_pos (by omega))]
  by_cases g : a < nt
  · rw [if_neg (by rw [nI_leI (by omega) (by omega)]; omega), if_neg (by rw [show (64 : Int32) = nI 64 by decide, nI_leI (by omega) (by omega)]; omega), if_neg (nI_in (by omega) (by decide)), nI_clamp (by omega), if_pos g, (ht.2 a g).1]
  · rw [if_pos (nI_le (by omega) (by omega)), if_neg g]
theorem zsg_eq (ht : ∀ i, i < nt → tp i < 256) {b : Nat} (hb : b < 256) : (zsg nt tp a = nI b) = (a < nt ∧ tp a = b) := by
  unfold zsg
  by_cases g : a < nt
  · have := ht a g
    rw [if_pos g, nI_eq (by omega) (by omega)]
    exact propext ⟨fun h => ⟨g, h⟩, fun h => h.2⟩
  · rw [if_neg g]
    refine propext ⟨fun h => ?_, fun h => absurd h.1 g⟩
    have : ((-1 : Int32)).toInt = (nI b).toInt := by rw [h]
    rw [nI_toInt (by omega)] at this
    have h1 : ((-1 : Int32)).toInt = -1 := by decide
    omega
theorem zx_takes (ht : zTp (M.1 13) nt tp) (hn : M.1 0 21 = nI nt) (ha : M.1 0 22 = nI a) (ha2 : a < 2 ^ 20) {b : Nat} (hb : b < 256) : xX12_takes M (nI b) = some (if a < nt ∧ tp a = b then (1, zsi M 0 22 (nI (a + 1))) else (0, M)) := by
  unfold xX12_takes
  rw [zx_sign ht hn ha ha2, Option.bind_some, zif (zsg_eq (fun i hi => (ht.2 i hi).2) hb)]
  by_cases g : a < nt ∧ tp a = b
  · rw [if_pos g, if_pos g]
    simp only [zlet]
    rw [ha, nI_1]
  · rw [if_neg g, if_neg g]
theorem zx_accepts (ht : zTp (X.1 71) nt tp) (hn : X.1 70 1 = nI nt) (ha : X.1 70 2 = nI a) (ha2 : a < 2 ^ 20) {b : Nat} (hb : b < 256) : xX8_accepts X (nI b) = some (if a < nt ∧ tp a = b then (1, zsi X 70 2 (nI (a + 1))) else (0, X)) := by
  unfold xX8_accepts
  rw [zx_here ht hn ha ha2, Option.bind_some, zif (zsg_eq (fun i hi => (ht.2 i hi).2) hb)]
  by_cases g : a < nt ∧ tp a = b
  · rw [if_pos g, if_pos g]
    simp only [zlet]
    rw [ha, nI_1]
  · rw [if_neg g, if_neg g]
/-- the number that is read: -1 none -/
def znv (nt : Nat) (tp : Nat → Nat) (a d : Nat) : Int32 := if zcn nt tp a d = 0 then -1 else nI (zvn tp a (zcn nt tp a d))
theorem zsg_dt (ht : ∀ i, i < nt → tp i < 256) {lo hi : Nat} (hl : lo < 256) (hh : hi < 256) : xX12_isIn (zsg nt tp a) (nI lo) (nI hi) = some (if a < nt ∧ lo ≤ tp a ∧ tp a ≤ hi then 1 else 0) := by
  unfold xX12_isIn zsg
  by_cases g : a < nt
  · have h1 := ht a g
    rw [if_pos g]
    by_cases g1 : lo ≤ tp a
    · by_cases g2 : tp a ≤ hi
      · rw [if_neg (by rw [nI_ltI (by omega) (by omega)]; omega), if_neg (by rw [nI_ltI (by omega) (by omega)]; omega), if_pos ⟨g, g1, g2⟩]
      · rw [if_neg (by rw [nI_ltI (by omega) (by omega)]; omega), if_pos (nI_lt (by omega) (by omega)), if_neg (fun z => g2 z.2.2)]
    · rw [if_pos (nI_lt (by omega) (by omega)), if_neg (fun z => g1 z.2.1)]
  · rw [if_neg g, if_neg (fun z : a < nt ∧ lo ≤ tp a ∧ tp a ≤ hi => g z.1), if_pos]
    rw [Int32.lt_iff_toInt_lt, nI_toInt (by omega)]
    have h1 : ((-1 : Int32)).toInt = -1 := by decide
    omega
theorem zdt_eq : (a < nt ∧ 48 ≤ tp a ∧ tp a ≤ 57) = (zdt nt tp a = true) := propext ⟨fun h => decide_eq_true h, fun h => of_decide_eq_true h⟩
/-- a number is read -/
theorem zx_number (ht : zTp (M.1 13) nt tp) (hn : M.1 0 21 = nI nt) (ha : M.1 0 22 = nI a) (ha2 : a < 2 ^ 16) {d : Nat} (hd : d ≤ 3) (hd0 : 0 < d) : xX12_number M (nI d) = some (znv nt tp a d, zsi M 0 22 (nI (a + zcn nt tp a d))) := by
  have hb := fun i (hi : i < nt) => (ht.2 i hi).2
  unfold xX12_number
  rw [zx_sign ht hn ha (by omega), Option.bind_some, show (48 : Int32) = nI 48 by decide, show (57 : Int32) = nI 57 by decide, zsg_dt hb (by decide) (by decide), Option.bind_some, zif (zdt_eq)]
  by_cases g0 : zdt nt tp a = true
  · rw [if_pos g0, if_neg (by decide)]
    have hc1 : ∀ k, 0 < k → 0 < zcn nt tp a k := by
      intro k
      induction k with
      | zero => intro h; omega
      | succ k ih =>
        intro _
        show 0 < (if zcn nt tp a k = k ∧ zdt nt tp (a + k) = true then k + 1 else zcn nt tp a k)
        by_cases q : k = 0
        · subst q
          rw [if_pos ⟨rfl, g0⟩]
          decide
        · have := ih (by omega)
          split <;> omega
    have hne : ¬ zcn nt tp a d = 0 := by have := hc1 d hd0; omega
    have e0 : zsi M 0 22 (nI a) = M := by
      refine Prod.ext ?_ rfl
      funext x y
      show (zsi M 0 22 (nI a)).1 x y = M.1 x y
      rw [zsi_g]
      split
      · rename_i h
        rw [h.1, h.2, ha]
      · rfl
    have loop : zok (x_it (fun a9 => xX12_number_L20 (nI d) a9.1 a9.2.1 a9.2.2) zFU (M, (0 : Int32), (0 : Int32))) (fun r => r = (zsi M 0 22 (nI (a + zcn nt tp a d)), nI (zvn tp a (zcn nt tp a d)))) := by
      refine zok_forx (fun k z => z = (zsi M 0 22 (nI (a + k)), nI (zvn tp a k), nI k) ∧ zcn nt tp a k = k) 0 d (Nat.zero_le _) (by omega) ⟨by rw [Nat.add_zero, e0]; rfl, rfl⟩ ?_ ?_
      · rintro k z h1 h2 ⟨rfl, h3⟩
        have hs := zx_sign (M := zsi M 0 22 (nI (a + k))) (a := a + k) ht (by rw [zsi_ne (by decide)]; exact hn) (by rw [zsi_y ⟨rfl, rfl⟩]) (by omega)
        have hv := zvn_lt (nt := nt) (tp := tp) (a := a) k (fun j hj => zcn_dt k (by omega))
        have hp : 10 ^ k ≤ 100 := Nat.le_trans (Nat.pow_le_pow_right (by decide) (show k ≤ 2 by omega)) (by decide)
        by_cases q : zdt nt tp (a + k) = true
        · obtain ⟨q1, q2, q3⟩ := zdt_lt q
          refine ⟨.inl (zsi M 0 22 (nI (a + (k + 1))), nI (zvn tp a (k + 1)), nI (k + 1)), ?_, Or.inl ⟨_, rfl, rfl, if_pos ⟨h3, q⟩⟩⟩
          try dsimp only
          unfold xX12_number_L20
          rw [if_neg (by rw [nI_leI (by omega) (by omega)]; omega), hs, Option.bind_some, show (48 : Int32) = nI 48 by decide, show (57 : Int32) = nI 57 by decide, zsg_dt hb (by decide) (by decide), Option.bind_some, zif (zdt_eq), if_pos q, if_neg (by decide), Option.bind_some]
          simp only [zlet]
          have e1 : zsg nt tp (a + k) = nI (tp (a + k)) := if_pos q1
          rw [zsi_y ⟨rfl, rfl⟩, zsi_zsi, nI_1, e1, nI_10, nI_mul, nI_add, nI_sub (by omega), nI_1, Nat.add_sub_assoc q2]
          rfl
        · have q' : zdt nt tp (a + k) = false := by simpa using q
          have hm := zcn_more (nt := nt) (tp := tp) (a := a) (k := k) (by rw [h3]; exact q') (d - k)
          rw [show k + (d - k) = d by omega, h3] at hm
          refine ⟨.inr (zsi M 0 22 (nI (a + k)), nI (zvn tp a k)), ?_, Or.inr ⟨_, rfl, by rw [hm]⟩⟩
          try dsimp only
          unfold xX12_number_L20
          rw [if_neg (by rw [nI_leI (by omega) (by omega)]; omega), hs, Option.bind_some, show (48 : Int32) = nI 48 by decide, show (57 : Int32) = nI 57 by decide, zsg_dt hb (by decide) (by decide), Option.bind_some, zif (zdt_eq), if_neg q, if_pos rfl]
      · rintro z ⟨rfl, h3⟩
        refine ⟨.inr (zsi M 0 22 (nI (a + d)), nI (zvn tp a d)), ?_, _, rfl, by rw [h3]⟩
        try dsimp only
        unfold xX12_number_L20
        rw [if_pos (nI_le (Nat.le_refl _) (by omega))]
    obtain ⟨r, hr, rfl⟩ := loop
    rw [hr, Option.bind_some]
    unfold znv
    rw [if_neg hne]
  · have g0' : zdt nt tp a = false := by simpa using g0
    have hm := zcn_more (nt := nt) (tp := tp) (a := a) (k := 0) (by exact g0') d
    rw [Nat.zero_add] at hm
    have hm0 : zcn nt tp a d = 0 := hm
    rw [if_neg g0, if_pos rfl]
    unfold znv
    rw [hm0, if_pos rfl]
    congr 2
    refine Prod.ext ?_ rfl
    funext x y
    show M.1 x y = (zsi M 0 22 (nI (a + 0))).1 x y
    rw [zsi_g]
    split
    · rename_i h
      rw [h.1, h.2, ha]
      rfl
    · rfl
theorem zx_readNumber (ht : zTp (X.1 71) nt tp) (hn : X.1 70 1 = nI nt) (ha : X.1 70 2 = nI a) (ha2 : a < 2 ^ 16) {d : Nat} (hd : d ≤ 3) (hd0 : 0 < d) : xX8_readNumber X (nI d) = some (znv nt tp a d, zsi X 70 2 (nI (a + zcn nt tp a d))) := by
  have hb := fun i (hi : i < nt) => (ht.2 i hi).2
  have e0 : zsi X 70 2 (nI a) = X := by
    refine Prod.ext ?_ rfl
    funext x y
    show (zsi X 70 2 (nI a)).1 x y = X.1 x y
    rw [zsi_g]
    split
    · rename_i h
      rw [h.1, h.2, ha]
    · rfl
  refine zok.eq ?_
  unfold xX8_readNumber
  refine zok_bind ?_
  have vv : ∀ k, zcn nt tp a k = k → ¬ k = 0 → nI (zvn tp a k) = (if k = 0 then (-1 : Int32) else nI (zvn tp a k)) := fun k _ h => by rw [if_neg h]
  refine zok_forx (fun k z => z = (zsi X 70 2 (nI (a + k)), (if k = 0 then (-1 : Int32) else nI (zvn tp a k)), nI k) ∧ zcn nt tp a k = k) 0 d (Nat.zero_le _) (by omega) ⟨by rw [Nat.add_zero, e0]; rfl, rfl⟩ ?_ ?_
  · rintro k z h1 h2 ⟨rfl, h3⟩
    have hs := zx_here (X := zsi X 70 2 (nI (a + k))) (a := a + k) ht (by rw [zsi_ne (by decide)]; exact hn) (by rw [zsi_y ⟨rfl, rfl⟩]) (by omega)
    have hv := zvn_lt (nt := nt) (tp := tp) (a := a) k (fun j hj => zcn_dt k (by omega))
    have hp : 10 ^ k ≤ 100 := Nat.le_trans (Nat.pow_le_pow_right (by decide) (show k ≤ 2 by omega)) (by decide)
    have done : ¬ zdt nt tp (a + k) = true → zok (Sum.elim (fun b2 : zM × Int32 => some (b2.2, b2.1)) (fun c3 : zM × Int32 => some (c3.2, c3.1)) (Sum.inr (α := zM × Int32) (zsi X 70 2 (nI (a + k)), (if k = 0 then (-1 : Int32) else nI (zvn tp a k))))) (fun x => x = (znv nt tp a d, zsi X 70 2 (nI (a + zcn nt tp a d)))) := by
      intro q
      have q' : zdt nt tp (a + k) = false := by simpa using q
      have hm := zcn_more (nt := nt) (tp := tp) (a := a) (k := k) (by rw [h3]; exact q') (d - k)
      rw [show k + (d - k) = d by omega, h3] at hm
      refine zok_some ?_
      unfold znv
      rw [hm]
    by_cases g : a + k < nt
    · have e1 : zsg nt tp (a + k) = nI (tp (a + k)) := if_pos g
      have h256 := hb _ g
      by_cases q1 : 48 ≤ tp (a + k)
      · by_cases q2 : tp (a + k) ≤ 57
        · have q : zdt nt tp (a + k) = true := decide_eq_true ⟨g, q1, q2⟩
          refine ⟨.inl (zsi X 70 2 (nI (a + (k + 1))), nI (zvn tp a (k + 1)), nI (k + 1)), ?_, Or.inl ⟨_, rfl, by rw [if_neg (by omega)], if_pos ⟨h3, q⟩⟩⟩
          try dsimp only
          unfold xX8_readNumber_L4
          rw [if_neg (by rw [nI_leI (by omega) (by omega)]; omega), hs, Option.bind_some, e1, show (48 : Int32) = nI 48 by decide, show (57 : Int32) = nI 57 by decide, if_neg (by rw [nI_ltI (by omega) (by omega)]; omega), if_pos (nI_le q2 (by omega)), zif (nI_eq0 (by omega))]
          simp only [zlet]
          rw [zsi_y ⟨rfl, rfl⟩, zsi_zsi, nI_1, nI_1]
          by_cases hk : k = 0
          · subst hk
            rw [if_pos rfl, show (0 : Int32) = nI 0 from rfl, nI_add, nI_sub (by omega)]
            have ez : 0 + tp (a + 0) - 48 = zvn tp a (0 + 1) := by
              show 0 + tp (a + 0) - 48 = 10 * 0 + (tp (a + 0) - 48)
              omega
            rw [ez]
          · rw [if_neg hk, if_neg hk, nI_10, nI_mul, nI_add, nI_sub (by omega), Nat.add_sub_assoc q1, Nat.mul_comm]
            rfl
        · refine ⟨.inr (.inl (zsi X 70 2 (nI (a + k)), (if k = 0 then (-1 : Int32) else nI (zvn tp a k)))), ?_, Or.inr ⟨_, rfl, done (fun z => q2 (zdt_lt z).2.2)⟩⟩
          try dsimp only
          unfold xX8_readNumber_L4
          rw [if_neg (by rw [nI_leI (by omega) (by omega)]; omega), hs, Option.bind_some, e1, show (48 : Int32) = nI 48 by decide, show (57 : Int32) = nI 57 by decide, if_neg (by rw [nI_ltI (by omega) (by omega)]; omega), if_neg (by rw [nI_leI (by omega) (by omega)]; exact q2)]
      · refine ⟨.inr (.inr (zsi X 70 2 (nI (a + k)), (if k = 0 then (-1 : Int32) else nI (zvn tp a k)))), ?_, Or.inr ⟨_, rfl, done (fun z => q1 (zdt_lt z).2.1)⟩⟩
        try dsimp only
        unfold xX8_readNumber_L4
        rw [if_neg (by rw [nI_leI (by omega) (by omega)]; omega), hs, Option.bind_some, e1, show (48 : Int32) = nI 48 by decide, if_pos (nI_lt (by omega) (by omega))]
    · refine ⟨.inr (.inr (zsi X 70 2 (nI (a + k)), (if k = 0 then (-1 : Int32) else nI (zvn tp a k)))), ?_, Or.inr ⟨_, rfl, done (fun z => g (zdt_lt z).1)⟩⟩
      try dsimp only
      unfold xX8_readNumber_L4
      have e1 : zsg nt tp (a + k) = -1 := if_neg g
      rw [if_neg (by rw [nI_leI (by omega) (by omega)]; omega), hs, Option.bind_some, e1, if_pos (by decide)]
  · rintro z ⟨rfl, h3⟩
    refine ⟨.inr (.inr (zsi X 70 2 (nI (a + d)), (if d = 0 then (-1 : Int32) else nI (zvn tp a d)))), ?_, _, rfl, zok_some ?_⟩
    · try dsimp only
      unfold xX8_readNumber_L4
      rw [if_pos (nI_le (Nat.le_refl _) (by omega))]
    · unfold znv
      rw [h3]
end
