/-! the class finds them -/
theorem zx_findExtreme {F : zM} {n : Nat} {fc : Nat → Nat} (latest : Bool) (hn : n < 6) (h1 : F.1 72 1 = nI n) (hfc : ∀ i, i < n → F.1 73 i = nI (fc i)) : zok (xX3_findExtreme F (if latest = true then 1 else 0)) (fun r => r.1 72 4 = nI (zbs2 latest fc n (zfac n)).1 ∧ (∀ j, j < n → r.1 75 j = nI (zdg (zbs2 latest fc n (zfac n)).2 j)) ∧ (∀ a b, a ≠ 74 → a ≠ 75 → ¬ (a = 72 ∧ b = 4) → r.1 a b = F.1 a b)) := by
  have hfl := zfac_le n hn
  unfold xX3_findExtreme
  refine zok_bind ?_
  refine (zok_for (fun c (z : zM × Int32) => z.2 = nI c ∧ (∀ j, j < c → z.1.1 74 j = nI j) ∧ ∀ a b, a ≠ 74 → z.1.1 a b = F.1 a b) 0 5 (by decide) (by decide) ⟨rfl, fun j h => absurd h (Nat.not_lt_zero _), fun _ _ _ => rfl⟩ ?_ ?_ (P := fun r => (∀ j, j < 5 → r.1 74 j = nI j) ∧ ∀ a b, a ≠ 74 → r.1 a b = F.1 a b)).imp ?_
  · rintro c ⟨A, i⟩ g1 g2 ⟨e0, e1, e2⟩
    try dsimp only at e0 e1 e2
    subst e0
    refine ⟨.inl (zsi A 74 c (nI c), nI (c + 1)), ?_, _, rfl, rfl, fun j hj => ?_, fun a b hab => ?_⟩
    · try dsimp only
      unfold xX3_findExtreme_L2
      simp only [zlet]
      rw [zl5, if_neg (by rw [nI_leI (by omega) (by omega)]; omega), if_neg (nI_in (by omega) (by decide)), nI_clamp (by omega), nI_1]
    · try dsimp only
      by_cases g : j = c
      · rw [g, zsi_y ⟨rfl, rfl⟩]
      · rw [zsi_ne (fun z => g z.2)]
        exact e1 j (by omega)
    · try dsimp only
      rw [zsi_ne (fun z => hab z.1)]
      exact e2 a b hab
  · rintro ⟨A, i⟩ ⟨e0, e1, e2⟩
    try dsimp only at e0 e1 e2
    subst e0
    refine ⟨.inr A, ?_, A, rfl, e1, e2⟩
    try dsimp only
    unfold xX3_findExtreme_L2
    rw [if_pos (by decide)]
  rintro A ⟨a1, a2⟩
  refine zok_let (zok_bind ?_)
  have hz0 : zOr (zsi A 72 4 0) (zsq n 0) := by
    intro i hi
    rw [zsi_ne (by omega), a1 i hi]
    congr 1
    exact (zdg_enc (o := fun k => k) (fun j hj => by omega) hi).symm
  refine (zok_forx (fun k (z : zM × Int32 × Int32) => z.2.2 = nI k ∧ z.2.1 = (if k < zfac n then 1 else 0) ∧ (k < zfac n → zOr z.1 (zsq n k)) ∧ z.1.1 72 4 = nI (zbs2 latest fc n k).1 ∧ (∀ j, j < n → 0 < k → z.1.1 75 j = nI (zdg (zbs2 latest fc n k).2 j)) ∧ (∀ a b, a ≠ 74 → a ≠ 75 → ¬ (a = 72 ∧ b = 4) → z.1.1 a b = F.1 a b)) 0 (zfac n) (Nat.zero_le _) (by omega) ⟨rfl, by rw [if_pos (by omega)], fun _ => hz0, ?_, fun j _ h => absurd h (Nat.not_lt_zero _), fun a b g1 g2 g3 => ?_⟩ ?_ ?_ (P := fun r => r.1 72 4 = nI (zbs2 latest fc n (zfac n)).1 ∧ (∀ j, j < n → r.1 75 j = nI (zdg (zbs2 latest fc n (zfac n)).2 j)) ∧ (∀ a b, a ≠ 74 → a ≠ 75 → ¬ (a = 72 ∧ b = 4) → r.1 a b = F.1 a b))).imp ?_
  · try dsimp only
    rw [zsi_y ⟨rfl, rfl⟩]
    rfl
  · try dsimp only
    rw [zsi_g, if_neg g3]
    exact a2 a b g1
  · rintro k ⟨B, m, i⟩ g1 g2 ⟨e0, e1, e2, e3, e4, e5⟩
    try dsimp only at e0 e1 e2 e3 e4 e5
    rw [if_pos g2] at e1
    subst e0 e1
    have hO := e2 g2
    have hB1 : B.1 72 1 = nI n := (e5 72 1 (by decide) (by decide) (by decide)).trans h1
    have hlt : ∀ i, i < n → zdg (zsq n k) i < n := fun i hi => (zog_all n hn k g2 i hi).2.2.2
    have hh := zx_hadBehind (F := B) (fc := fc) (od := zdg (zsq n k)) (n := n) (by omega) (fun i hi => ⟨hO i (by omega), by have := hlt i hi; omega, (e5 73 _ (by decide) (by decide) (by omega)).trans (hfc _ (hlt i hi))⟩)
    have hp := zbs2_pos (latest := latest) (fc := fc) (n := n) (by omega) k
    have hhd := zhd_lt (fc := fc) (od := zdg (zsq n k)) (n := n) (by omega)
    have es : zbs2 latest fc n (k + 1) = if k = 0 ∨ zbt latest (zhd fc (zdg (zsq n k)) n) (zbs2 latest fc n k).1 = true then (zhd fc (zdg (zsq n k)) n, zsq n k) else zbs2 latest fc n k := rfl
    have hlast := zsq_all n hn k g2
    have copy : ∀ (v1 v2 : Int32) (C0 : zM), zOr C0 (zsq n k) → zok (x_it (fun a9 => xX3_findExtreme_L90_L29 v1 v2 a9.1 a9.2) zFU (C0, (0 : Int32))) (fun r => (∀ j, j < 5 → r.1 75 j = nI (zdg (zsq n k) j)) ∧ (∀ a b, a ≠ 75 → r.1 a b = C0.1 a b)) := by
      intro v1 v2 C0 hC0
      refine zok_for (fun c (z : zM × Int32) => z.2 = nI c ∧ (∀ j, j < c → z.1.1 75 j = nI (zdg (zsq n k) j)) ∧ (∀ a b, a ≠ 75 → z.1.1 a b = C0.1 a b)) 0 5 (by decide) (by decide) ⟨rfl, fun j h => absurd h (Nat.not_lt_zero _), fun _ _ _ => rfl⟩ ?_ ?_
      · rintro c ⟨C, i⟩ g1 g2 ⟨c0, c1, c2⟩
        try dsimp only at c0 c1 c2
        subst c0
        refine ⟨.inl (zsi C 75 c (nI (zdg (zsq n k) c)), nI (c + 1)), ?_, _, rfl, rfl, fun j hj => ?_, fun a b hab => ?_⟩
        · try dsimp only
          unfold xX3_findExtreme_L90_L29
          simp only [zlet]
          rw [zl5, if_neg (by rw [nI_leI (by omega) (by omega)]; omega), if_neg (nI_in (by omega) (by decide)), nI_clamp (by omega), c2 74 c (by decide), hC0 c g2, nI_1]
        · try dsimp only
          by_cases g : j = c
          · rw [g, zsi_y ⟨rfl, rfl⟩]
          · rw [zsi_ne (fun z => g z.2)]
            exact c1 j (by omega)
        · try dsimp only
          rw [zsi_ne (fun z => hab z.1)]
          exact c2 a b hab
      · rintro ⟨C, i⟩ ⟨c0, c1, c2⟩
        try dsimp only at c0 c1 c2
        subst c0
        refine ⟨.inr C, ?_, C, rfl, c1, c2⟩
        try dsimp only
        unfold xX3_findExtreme_L90_L29
        rw [if_pos (by decide)]
    -- the next order, from a state that has this one
    have next : ∀ C : zM, zOr C (zsq n k) → C.1 72 1 = nI n → C.1 72 4 = nI (zbs2 latest fc n (k + 1)).1 → (∀ j, j < n → C.1 75 j = nI (zdg (zbs2 latest fc n (k + 1)).2 j)) → (∀ a b, a ≠ 74 → a ≠ 75 → ¬ (a = 72 ∧ b = 4) → C.1 a b = F.1 a b) → ∃ q, xX3_nextOrder C = some q ∧ (fun (z : zM × Int32 × Int32) => z.2.2 = nI (k + 1) ∧ z.2.1 = (if k + 1 < zfac n then 1 else 0) ∧ (k + 1 < zfac n → zOr z.1 (zsq n (k + 1))) ∧ z.1.1 72 4 = nI (zbs2 latest fc n (k + 1)).1 ∧ (∀ j, j < n → 0 < k + 1 → z.1.1 75 j = nI (zdg (zbs2 latest fc n (k + 1)).2 j)) ∧ (∀ a b, a ≠ 74 → a ≠ 75 → ¬ (a = 72 ∧ b = 4) → z.1.1 a b = F.1 a b)) (q.2, q.1, nI (k + 1)) := by
      intro C c1 c2 c3 c4 c5
      obtain ⟨q, hq, q1, q2, q3⟩ := zx_nextOrder (F := C) (n := n) (by omega) c2 c1
      refine ⟨q, hq, rfl, ?_, fun h => ?_, ?_, fun j hj _ => ?_, fun a b x1 x2 x3 => ?_⟩
      · try dsimp only
        rw [q1]
        by_cases z : znxo (zsq n k) n = 0
        · rw [if_pos z, if_neg (by have := hlast.mp z; omega)]
        · rw [if_neg z, if_pos (by have : k + 1 ≠ zfac n := fun y => z (hlast.mpr y); omega)]
      · have z : ¬ znxo (zsq n k) n = 0 := fun z => by have := hlast.mp z; omega
        exact q2 z
      · exact (q3 72 4 (by decide)).trans c3
      · exact (q3 75 j (by decide)).trans (c4 j hj)
      · exact (q3 a b x1).trans (c5 a b x1 x2 x3)
    have go : ¬ (120 : Int32) ≤ nI k := by rw [show (120 : Int32) = nI 120 by decide, nI_leI (by omega) (by omega)]; omega
    have pre : ∀ o, xX3_findExtreme_L29 (if latest = true then 1 else 0) B 1 (nI k) = o ↔ (if nI (zbs2 latest fc n k).1 = 0 then ((x_it (fun a9 => xX3_findExtreme_L90_L29 (if latest = true then 1 else 0) (nI k) a9.1 a9.2) zFU (zsi B 72 4 (nI (zhd fc (zdg (zsq n k)) n)), (0 : Int32))).bind fun q7 => (xX3_nextOrder q7).bind fun q8 => some (.inl (q8.2, q8.1, (nI k + (1 : Int32))))) else if (if latest = true then (1 : Int32) else 0) = 0 then (if nI (zbs2 latest fc n k).1 ≤ nI (zhd fc (zdg (zsq n k)) n) then ((xX3_nextOrder B).bind fun q11 => some (.inl (q11.2, q11.1, (nI k + (1 : Int32))))) else ((x_it (fun a9 => xX3_findExtreme_L90_L29 (if latest = true then 1 else 0) (nI k) a9.1 a9.2) zFU (zsi B 72 4 (nI (zhd fc (zdg (zsq n k)) n)), (0 : Int32))).bind fun q14 => (xX3_nextOrder q14).bind fun q15 => some (.inl (q15.2, q15.1, (nI k + (1 : Int32)))))) else if nI (zhd fc (zdg (zsq n k)) n) ≤ nI (zbs2 latest fc n k).1 then ((xX3_nextOrder B).bind fun q17 => some (.inl (q17.2, q17.1, (nI k + (1 : Int32))))) else ((x_it (fun a9 => xX3_findExtreme_L90_L29 (if latest = true then 1 else 0) (nI k) a9.1 a9.2) zFU (zsi B 72 4 (nI (zhd fc (zdg (zsq n k)) n)), (0 : Int32))).bind fun q20 => (xX3_nextOrder q20).bind fun q21 => some (.inl (q21.2, q21.1, (nI k + (1 : Int32)))))) = o := by
      intro o
      unfold xX3_findExtreme_L29
      simp only [zlet]
      rw [if_neg go, if_neg (by decide), hB1, hh, Option.bind_some, e3]
    by_cases hc : k = 0 ∨ zbt latest (zhd fc (zdg (zsq n k)) n) (zbs2 latest fc n k).1 = true
    · rw [if_pos hc] at es
      have hO2 : zOr (zsi B 72 4 (nI (zhd fc (zdg (zsq n k)) n))) (zsq n k) := fun i hi => by rw [zsi_ne (by omega)]; exact hO i hi
      obtain ⟨C, hC, c1, c2⟩ := copy (if latest = true then 1 else 0) (nI k) _ hO2
      obtain ⟨q, hq, hJ⟩ := next C (fun i hi => (c2 74 i (by decide)).trans (hO2 i hi)) (by rw [c2 72 1 (by decide), zsi_ne (by decide)]; exact hB1) (by rw [c2 72 4 (by decide), zsi_y ⟨rfl, rfl⟩, es]) (fun j hj => by rw [es]; exact c1 j (by omega)) (fun a b x1 x2 x3 => by rw [c2 a b x2, zsi_g, if_neg x3]; exact e5 a b x1 x2 x3)
      refine ⟨.inl (q.2, q.1, nI (k + 1)), (pre _).mpr ?_, Or.inl ⟨_, rfl, hJ⟩⟩
      rw [hC, Option.bind_some, hq, Option.bind_some, nI_1, zif (nI_eq0 (by omega)), zifi (nI_leI (by omega) (by omega)), zifi (nI_leI (by omega) (by omega))]
      by_cases hk0 : k = 0
      · have z0 : (zbs2 latest fc n k).1 = 0 := by rw [hk0]; rfl
        rw [if_pos z0]
      · have z0 : ¬ (zbs2 latest fc n k).1 = 0 := by have := hp.2 (by omega); omega
        have hc2 := hc.resolve_left hk0
        rw [if_neg z0]
        cases latest with
        | true =>
          have hc3 : (zbs2 true fc n k).1 < zhd fc (zdg (zsq n k)) n := of_decide_eq_true hc2
          rw [if_neg (show ¬ (if true = true then (1 : Int32) else 0) = 0 by decide), if_neg (by omega)]
        | false =>
          have hc3 : zhd fc (zdg (zsq n k)) n < (zbs2 false fc n k).1 := of_decide_eq_true hc2
          rw [if_pos (show (if false = true then (1 : Int32) else 0) = 0 by decide), if_neg (by omega)]
    · rw [if_neg hc] at es
      have hk0 : ¬ k = 0 := fun z => hc (Or.inl z)
      have hc2 : ¬ zbt latest (zhd fc (zdg (zsq n k)) n) (zbs2 latest fc n k).1 = true := fun z => hc (Or.inr z)
      have z0 : ¬ (zbs2 latest fc n k).1 = 0 := by have := hp.2 (by omega); omega
      obtain ⟨q, hq, hJ⟩ := next B hO hB1 (by rw [es]; exact e3) (fun j hj => by rw [es]; exact e4 j hj (by omega)) e5
      refine ⟨.inl (q.2, q.1, nI (k + 1)), (pre _).mpr ?_, Or.inl ⟨_, rfl, hJ⟩⟩
      rw [hq, Option.bind_some, nI_1, zif (nI_eq0 (by omega)), zifi (nI_leI (by omega) (by omega)), zifi (nI_leI (by omega) (by omega)), if_neg z0]
      cases latest with
      | true =>
        have hc3 : ¬ (zbs2 true fc n k).1 < zhd fc (zdg (zsq n k)) n := fun z => hc2 (decide_eq_true z)
        rw [if_neg (show ¬ (if true = true then (1 : Int32) else 0) = 0 by decide), if_pos (by omega)]
      | false =>
        have hc3 : ¬ zhd fc (zdg (zsq n k)) n < (zbs2 false fc n k).1 := fun z => hc2 (decide_eq_true z)
        rw [if_pos (show (if false = true then (1 : Int32) else 0) = 0 by decide), if_pos (by omega)]
  · rintro ⟨B, m, i⟩ ⟨e0, e1, e2, e3, e4, e5⟩
    try dsimp only at e0 e1 e2 e3 e4 e5
    rw [if_neg (by omega)] at e1
    subst e0 e1
    refine ⟨.inr B, ?_, B, rfl, e3, fun j hj => e4 j hj (by omega), e5⟩
    try dsimp only
    unfold xX3_findExtreme_L29
    by_cases g : (120 : Int32) ≤ nI (zfac n)
    · rw [if_pos g]
    · rw [if_neg g, if_pos rfl]
  · intro B hB
    exact zok_some hB
theorem zx_told {F : zM} {n : Nat} {v : Int32} {had : Nat} {bo : Nat → Nat} (hn : n < 6) (h1 : F.1 72 1 = nI n) (h4 : F.1 72 4 = nI had) (h75 : ∀ j, j < n → F.1 75 j = nI (bo j)) (hv : ¬ v < -1) : xX3_told F v = some (if v = -1 then nI had else if nI n ≤ v then -9 else nI (bo v.toNatClampNeg)) := by
  unfold xX3_told
  by_cases g : v = -1
  · rw [if_pos g, if_pos g, h4]
  · rw [if_neg g, if_neg g]
    have hv0 : ¬ v < 0 := by
      intro z
      have h1 : v.toInt ≠ -1 := fun y => g (Int32.toInt_inj.mp y)
      rw [Int32.lt_iff_toInt_lt] at hv z
      have h2 : ((-1 : Int32)).toInt = -1 := by decide
      have h3 : ((0 : Int32)).toInt = 0 := by decide
      omega
    obtain ⟨j, hj, rfl⟩ := nI_of hv0
    rw [if_neg hv0, h1, zl5]
    by_cases g2 : nI n ≤ nI j
    · by_cases g3 : nI 5 ≤ nI j
      · rw [if_pos g3, if_pos g2]
      · rw [if_neg g3, if_pos g2, if_pos g2]
    · have hjn : j < n := by
        rw [nI_leI (by omega) (by omega)] at g2
        omega
      rw [if_neg g2, if_neg (by rw [nI_leI (by omega) (by omega)]; omega), if_neg g2, if_neg (nI_in (by omega) (by decide)), nI_clamp (by omega), h75 j hjn]
