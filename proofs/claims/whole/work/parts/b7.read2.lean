/-! a quiz's statements: the players -/
section
def zd9 (nt : Nat) (tp : Nat → Nat) (a : Nat) : Bool := decide (a < nt ∧ 49 ≤ tp a ∧ tp a ≤ 57)
def zkn (nt : Nat) (tp : Nat → Nat) (a : Nat) : Nat → Nat
  | 0 => 0
  | k + 1 => if zkn nt tp a k = k ∧ zd9 nt tp (a + k) = true then k + 1 else zkn nt tp a k
def zkm (tp : Nat → Nat) (a : Nat) : Nat → Nat
  | 0 => 0
  | k + 1 => zkm tp a k ||| 2 ^ (tp (a + k) - 48)
def zkt (tp : Nat → Nat) (a : Nat) : Nat → Bool
  | 0 => false
  | k + 1 => zkt tp a k || (zkm tp a k).testBit (tp (a + k) - 48)
theorem zkn_le {nt : Nat} {tp : Nat → Nat} {a : Nat} : ∀ k, zkn nt tp a k ≤ k
  | 0 => Nat.le_refl _
  | k + 1 => by
    have := zkn_le (nt := nt) (tp := tp) (a := a) k
    show (if zkn nt tp a k = k ∧ zd9 nt tp (a + k) = true then k + 1 else zkn nt tp a k) ≤ k + 1
    split <;> omega
theorem zkn_more {nt : Nat} {tp : Nat → Nat} {a k : Nat} (h : zd9 nt tp (a + zkn nt tp a k) = false) : ∀ d, zkn nt tp a (k + d) = zkn nt tp a k
  | 0 => rfl
  | d + 1 => by
    have ih := zkn_more h d
    show (if zkn nt tp a (k + d) = k + d ∧ zd9 nt tp (a + (k + d)) = true then k + d + 1 else zkn nt tp a (k + d)) = _
    rw [ih]
    refine if_neg (fun z => ?_)
    rw [z.1, z.2] at h
    cases h
theorem zkn_d {nt : Nat} {tp : Nat → Nat} {a j : Nat} : ∀ k, j < zkn nt tp a k → zd9 nt tp (a + j) = true
  | 0, h => absurd h (Nat.not_lt_zero _)
  | k + 1, h => by
    have e : zkn nt tp a (k + 1) = if zkn nt tp a k = k ∧ zd9 nt tp (a + k) = true then k + 1 else zkn nt tp a k := rfl
    rw [e] at h
    by_cases q : zkn nt tp a k = k ∧ zd9 nt tp (a + k) = true
    · rw [if_pos q] at h
      by_cases g : j = k
      · rw [g]; exact q.2
      · exact zkn_d k (by omega)
    · rw [if_neg q] at h
      exact zkn_d k h
theorem zkm_lt {nt : Nat} {tp : Nat → Nat} {a : Nat} : ∀ k, (∀ j, j < k → zd9 nt tp (a + j) = true) → zkm tp a k < 1024
  | 0, _ => by show 0 < 1024; decide
  | k + 1, h => by
    have h2 := of_decide_eq_true (h k (by omega))
    exact Nat.or_lt_two_pow (n := 10) (zkm_lt k (fun j hj => h j (by omega))) (Nat.pow_lt_pow_right (by decide) (by omega))
theorem zbit_and {m x : Nat} (hm : m < 2 ^ 31) (hx : x < 31) : ((nI m &&& nI (2 ^ x)) = 0) = (m.testBit x = false) := by
  rw [zand, nI_eq0 (Nat.lt_of_le_of_lt Nat.and_le_left hm), Nat.and_comm, zand_pow]
  by_cases q : m.testBit x = true
  · rw [if_pos q]
    have := Nat.two_pow_pos x
    refine propext ⟨fun z => by omega, fun z => ?_⟩
    rw [q] at z
    exact absurd z (by decide)
  · rw [if_neg q]
    exact propext ⟨fun _ => by simpa using q, fun _ => rfl⟩
theorem zor_bit {m x : Nat} (h : m.testBit x = true) : m ||| 2 ^ x = m := by
  refine Nat.eq_of_testBit_eq fun k => ?_
  rw [Nat.testBit_or, Nat.testBit_two_pow]
  by_cases g : x = k
  · rw [← g, h]; rfl
  · rw [decide_eq_false g, Bool.or_false]
def zk17 (tp : Nat → Nat) (a c : Nat) : Nat := zkm tp a c ||| (if zkt tp a c = true then 1024 else 0)
variable {nt a z : Nat} {tp : Nat → Nat} {M X : zM}
def zfK (z : Nat) (M A : zM) : Prop := (∀ j k, ¬ (j = 0 ∧ k = 22) → ¬ (j = 17 ∧ k = z) → A.1 j k = M.1 j k) ∧ A.2 = M.2
def zfL (X A : zM) : Prop := (∀ j k, ¬ (j = 70 ∧ (k = 2 ∨ k = 10 ∨ k = 11)) → A.1 j k = X.1 j k) ∧ A.2 = X.2
theorem zd9_eq : (a < nt ∧ 49 ≤ tp a ∧ tp a ≤ 57) = (zd9 nt tp a = true) := propext ⟨fun h => decide_eq_true h, fun h => of_decide_eq_true h⟩
/-- the reference reads the answers one knows -/
theorem zx_known (h : zaM nt tp a M) (ha : a < 2 ^ 12) (hz : z < 32) (h0 : M.1 17 z = 0) : zok (x_it (fun a9 => xX12_readsKnown_L9 (nI z) a9.1 a9.2) zFU (M, (0 : Int32))) (fun r => r.2 = nI (zkn nt tp a 9) ∧ zaM nt tp (a + zkn nt tp a 9) r.1 ∧ r.1.1 17 z = nI (zk17 tp a (zkn nt tp a 9)) ∧ zfK z M r.1) := by
  have hz0 : M.1 17 z = nI (zk17 tp a 0) := by rw [h0]; unfold zk17 zkm zkt; rfl
  have hb := fun i (hi : i < nt) => (h.1.2 i hi).2
  refine zok_forx (fun c st => st.2 = nI c ∧ zkn nt tp a c = c ∧ zaM nt tp (a + c) st.1 ∧ st.1.1 17 z = nI (zk17 tp a c) ∧ zfK z M st.1) 0 9 (by decide) (by decide) ⟨rfl, rfl, h, hz0, fun _ _ _ _ => rfl, rfl⟩ ?_ ?_
  · rintro c ⟨A, y⟩ - hc ⟨hy, k1, k2, k3, k4, k5⟩
    try dsimp only at hy k2 k3 k4 k5
    subst hy
    have hd := fun j (hj : j < c) => zkn_d (nt := nt) (tp := tp) (a := a) (j := j) c (by omega)
    have hm := zkm_lt (nt := nt) (tp := tp) (a := a) c hd
    have hs := zx_sign k2.1 k2.2.1 k2.2.2.1 (by omega)
    by_cases q : zd9 nt tp (a + c) = true
    · have hq := of_decide_eq_true q
      have e1 : zsg nt tp (a + c) = nI (tp (a + c)) := if_pos hq.1
      have e2 : (1 : Int32) <<< ((nI (tp (a + c)) - (48 : Int32)) &&& 31) = nI (2 ^ (tp (a + c) - 48)) := by
        rw [show (48 : Int32) = nI 48 from rfl, nI_sub (by omega), zshl _ (by omega)]
      have hl : zk17 tp a c < 2 ^ 31 := Nat.or_lt_two_pow (n := 31) (by omega) (by split <;> decide)
      have ht : (zk17 tp a c).testBit (tp (a + c) - 48) = (zkm tp a c).testBit (tp (a + c) - 48) := by
        unfold zk17
        rw [Nat.testBit_or]
        split
        · rw [show 1024 = 2 ^ 10 from rfl, Nat.testBit_two_pow, decide_eq_false (by omega), Bool.or_false]
        · rw [Nat.zero_testBit, Bool.or_false]
      have run : xX12_readsKnown_L9 (nI z) A (nI c) = some (.inl (zsi (zsi A 17 z (nI (zk17 tp a (c + 1)))) 0 22 (nI (a + (c + 1))), nI (c + 1))) := by
        unfold xX12_readsKnown_L9
        simp only [zlet]
        rw [if_neg (by rw [show (9 : Int32) = nI 9 from rfl, nI_leI (by decide) (by omega)]; omega), hs, Option.bind_some, show (49 : Int32) = nI 49 from rfl, show (57 : Int32) = nI 57 from rfl, zsg_dt hb (by decide) (by decide), Option.bind_some, zif zd9_eq, if_pos q, if_neg (show ¬ (1 : Int32) = 0 by decide), Option.bind_some, if_neg (nI_in hz (by decide)), nI_clamp (by omega), e1, e2, k3, zif (zbit_and hl (by omega)), ht]
        by_cases y : (zkm tp a c).testBit (tp (a + c) - 48) = true
        · rw [if_neg (by rw [y]; decide), zsi_ne (by omega), k2.2.2.1, nI_1, nI_1, show (1024 : Int32) = nI 1024 from rfl, zor]
          have ez : zk17 tp a c ||| 1024 = zk17 tp a (c + 1) := by
            unfold zk17
            show _ = (zkm tp a c ||| 2 ^ (tp (a + c) - 48)) ||| (if (zkt tp a c || (zkm tp a c).testBit (tp (a + c) - 48)) = true then 1024 else 0)
            rw [y, Bool.or_true, if_pos rfl, zor_bit y]
            split
            · rw [Nat.or_assoc, Nat.or_self]
            · rw [Nat.or_zero]
          rw [ez]
          rfl
        · have y' : (zkm tp a c).testBit (tp (a + c) - 48) = false := by simpa using y
          rw [if_pos y', zsi_ne (by omega), k2.2.2.1, nI_1, nI_1, zor]
          have ez : zk17 tp a c ||| 2 ^ (tp (a + c) - 48) = zk17 tp a (c + 1) := by
            unfold zk17
            show _ = (zkm tp a c ||| 2 ^ (tp (a + c) - 48)) ||| (if (zkt tp a c || (zkm tp a c).testBit (tp (a + c) - 48)) = true then 1024 else 0)
            rw [y', Bool.or_false, Nat.or_assoc, Nat.or_assoc, Nat.or_comm (2 ^ _)]
          rw [ez]
          rfl
      refine ⟨_, run, Or.inl ⟨_, rfl, rfl, if_pos ⟨k1, q⟩, zaM_22 (zaM_si k2 (by decide)) (by omega), ?_, fun j k g1 g2 => ?_, k5⟩⟩
      · rw [zsi_ne (by omega), zsi_y ⟨rfl, rfl⟩]
      · rw [zsi_ne g1, zsi_ne g2]
        exact k4 j k g1 g2
    · have q' : zd9 nt tp (a + c) = false := by simpa using q
      have hm2 := zkn_more (nt := nt) (tp := tp) (a := a) (k := c) (by rw [k1]; exact q') (9 - c)
      rw [show c + (9 - c) = 9 by omega, k1] at hm2
      refine ⟨.inr (A, nI c), ?_, Or.inr ⟨_, rfl, ?_⟩⟩
      · try dsimp only
        unfold xX12_readsKnown_L9
        rw [if_neg (by rw [show (9 : Int32) = nI 9 from rfl, nI_leI (by decide) (by omega)]; omega), hs, Option.bind_some, show (49 : Int32) = nI 49 from rfl, show (57 : Int32) = nI 57 from rfl, zsg_dt hb (by decide) (by decide), Option.bind_some, zif zd9_eq, if_neg q, if_pos rfl]
      · rw [hm2]
        exact ⟨rfl, k2, k3, k4, k5⟩
  · rintro ⟨A, y⟩ ⟨hy, k1, k2, k3, k4, k5⟩
    try dsimp only at hy k2 k3 k4 k5
    subst hy
    refine ⟨.inr (A, nI 9), ?_, _, rfl, ?_⟩
    · try dsimp only
      unfold xX12_readsKnown_L9
      rw [if_pos (show (9 : Int32) ≤ nI 9 by decide)]
    · rw [k1]
      exact ⟨rfl, k2, k3, k4, k5⟩
/-- the class reads them -/
theorem zx_answersR (h : zaX nt tp a X) (ha : a < 2 ^ 12) (h0 : X.1 70 10 = 0) (h00 : X.1 70 11 = 0) : zok (x_it (fun a9 => xX8_readAnswers_L12 a9.1 a9.2) zFU (X, (0 : Int32))) (fun r => r.2 = nI (zkn nt tp a 9) ∧ zaX nt tp (a + zkn nt tp a 9) r.1 ∧ r.1.1 70 10 = nI (zkm tp a (zkn nt tp a 9)) ∧ r.1.1 70 11 = (if zkt tp a (zkn nt tp a 9) = true then 1 else 0) ∧ zfL X r.1) := by
  have hb := fun i (hi : i < nt) => (h.1.2 i hi).2
  refine zok_forx (fun c st => st.2 = nI c ∧ zkn nt tp a c = c ∧ zaX nt tp (a + c) st.1 ∧ st.1.1 70 10 = nI (zkm tp a c) ∧ st.1.1 70 11 = (if zkt tp a c = true then 1 else 0) ∧ zfL X st.1) 0 9 (by decide) (by decide) ⟨rfl, rfl, h, h0, h00, fun _ _ _ => rfl, rfl⟩ ?_ ?_
  · rintro c ⟨A, y⟩ - hc ⟨hy, k1, k2, k3, k30, k4, k5⟩
    try dsimp only at hy k2 k3 k30 k4 k5
    subst hy
    have hd := fun j (hj : j < c) => zkn_d (nt := nt) (tp := tp) (a := a) (j := j) c (by omega)
    have hm := zkm_lt (nt := nt) (tp := tp) (a := a) c hd
    have hs := zx_here k2.1 k2.2.1 k2.2.2.1 (by omega)
    have stop : zd9 nt tp (a + c) = false → zkn nt tp a 9 = c := fun q' => by
      have hm2 := zkn_more (nt := nt) (tp := tp) (a := a) (k := c) (by rw [k1]; exact q') (9 - c)
      rw [show c + (9 - c) = 9 by omega, k1] at hm2
      exact hm2
    have g9 : ¬ (9 : Int32) ≤ nI c := by rw [show (9 : Int32) = nI 9 from rfl, nI_leI (by decide) (by omega)]; omega
    by_cases q : zd9 nt tp (a + c) = true
    · have hq := of_decide_eq_true q
      have e1 : zsg nt tp (a + c) = nI (tp (a + c)) := if_pos hq.1
      have e2 : (1 : Int32) <<< ((nI (tp (a + c)) - (48 : Int32)) &&& 31) = nI (2 ^ (tp (a + c) - 48)) := by
        rw [show (48 : Int32) = nI 48 from rfl, nI_sub (by omega), zshl _ (by omega)]
      have ek : zkm tp a (c + 1) = zkm tp a c ||| 2 ^ (tp (a + c) - 48) := rfl
      have et : zkt tp a (c + 1) = (zkt tp a c || (zkm tp a c).testBit (tp (a + c) - 48)) := rfl
      by_cases y : (zkm tp a c).testBit (tp (a + c) - 48) = true
      · have run : xX8_readAnswers_L12 A (nI c) = some (.inl (zsi (zsi (zsi A 70 11 (1 : Int32)) 70 10 (nI (zkm tp a (c + 1)))) 70 2 (nI (a + (c + 1))), nI (c + 1))) := by
          unfold xX8_readAnswers_L12
          simp only [zlet]
          rw [if_neg g9, hs, Option.bind_some, e1, show (49 : Int32) = nI 49 from rfl, show (57 : Int32) = nI 57 from rfl, if_neg (by rw [nI_ltI (by omega) (by omega)]; omega), Option.bind_some, if_neg (by rw [nI_ltI (by omega) (by omega)]; omega), Option.bind_some, e2, k3, zif (zbit_and (by omega) (by omega)), if_neg (by rw [y]; decide), zsi_ne (by omega), zsi_ne (by omega), zsi_ne (by omega), k3, k2.2.2.1, zor, nI_1, nI_1, ek]
          rfl
        refine ⟨_, run, Or.inl ⟨_, rfl, rfl, if_pos ⟨k1, q⟩, zaX_2 (zaX_si (zaX_si k2 (by decide)) (by decide)) (by omega), ?_, ?_, fun j k g => ?_, k5⟩⟩
        · rw [zsi_ne (by omega), zsi_y ⟨rfl, rfl⟩]
        · rw [zsi_ne (by omega), zsi_ne (by omega), zsi_y ⟨rfl, rfl⟩, et, y, Bool.or_true, if_pos rfl]
        · rw [zsi_ne (by omega), zsi_ne (by omega), zsi_ne (by omega)]
          exact k4 j k g
      · have y' : (zkm tp a c).testBit (tp (a + c) - 48) = false := by simpa using y
        have run : xX8_readAnswers_L12 A (nI c) = some (.inl (zsi (zsi A 70 10 (nI (zkm tp a (c + 1)))) 70 2 (nI (a + (c + 1))), nI (c + 1))) := by
          unfold xX8_readAnswers_L12
          simp only [zlet]
          rw [if_neg g9, hs, Option.bind_some, e1, show (49 : Int32) = nI 49 from rfl, show (57 : Int32) = nI 57 from rfl, if_neg (by rw [nI_ltI (by omega) (by omega)]; omega), Option.bind_some, if_neg (by rw [nI_ltI (by omega) (by omega)]; omega), Option.bind_some, e2, k3, zif (zbit_and (by omega) (by omega)), if_pos y', zsi_ne (by omega), k2.2.2.1, zor, nI_1, nI_1, ek]
          rfl
        refine ⟨_, run, Or.inl ⟨_, rfl, rfl, if_pos ⟨k1, q⟩, zaX_2 (zaX_si k2 (by decide)) (by omega), ?_, ?_, fun j k g => ?_, k5⟩⟩
        · rw [zsi_ne (by omega), zsi_y ⟨rfl, rfl⟩]
        · rw [zsi_ne (by omega), zsi_ne (by omega), et, y', Bool.or_false]
          exact k30
        · rw [zsi_ne (by omega), zsi_ne (by omega)]
          exact k4 j k g
    · have q' : zd9 nt tp (a + c) = false := by simpa using q
      refine ⟨.inr (A, nI c), ?_, Or.inr ⟨_, rfl, ?_⟩⟩
      · try dsimp only
        unfold xX8_readAnswers_L12
        rw [if_neg g9, hs, Option.bind_some, show (49 : Int32) = nI 49 from rfl, show (57 : Int32) = nI 57 from rfl]
        by_cases g : a + c < nt
        · have h256 := hb _ g
          have e1 : zsg nt tp (a + c) = nI (tp (a + c)) := if_pos g
          rw [e1]
          by_cases g1 : tp (a + c) < 49
          · rw [if_pos (nI_lt g1 (by decide))]
          · have g2 : 57 < tp (a + c) := by
              rcases Nat.lt_or_ge 57 (tp (a + c)) with y | y
              · exact y
              · exact absurd (decide_eq_true (show a + c < nt ∧ 49 ≤ tp (a + c) ∧ tp (a + c) ≤ 57 from ⟨g, by omega, y⟩)) q
            rw [if_neg (by rw [nI_ltI (by omega) (by omega)]; exact g1), Option.bind_some, if_pos (nI_lt g2 (by omega))]
        · have e1 : zsg nt tp (a + c) = -1 := if_neg g
          rw [e1, if_pos (show (-1 : Int32) < nI 49 by decide)]
      · rw [stop q']
        exact ⟨rfl, k2, k3, k30, k4, k5⟩
  · rintro ⟨A, y⟩ ⟨hy, k1, k2, k3, k30, k4, k5⟩
    try dsimp only at hy k2 k3 k30 k4 k5
    subst hy
    refine ⟨.inr (A, nI 9), ?_, _, rfl, ?_⟩
    · try dsimp only
      unfold xX8_readAnswers_L12
      rw [if_pos (show (9 : Int32) ≤ nI 9 by decide)]
    · rw [k1]
      exact ⟨rfl, k2, k3, k30, k4, k5⟩
end
