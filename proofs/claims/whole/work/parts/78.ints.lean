/-! whole numbers with a sign; the class's common divisor, least terms -/
def lI (z : Int) : Int64 := Int64.ofInt z
def iI (z : Int) : Int32 := Int32.ofInt z
theorem lN_lI (n : Nat) : lN n = lI (n : Int) := Int64.ofInt_eq_ofNat.symm
theorem nI_iI (n : Nat) : nI n = iI (n : Int) := Int32.ofInt_eq_ofNat.symm
theorem lI_add (a b : Int) : lI a + lI b = lI (a + b) := (Int64.ofInt_add a b).symm
theorem lI_sub (a b : Int) : lI a - lI b = lI (a - b) := (Int64.ofInt_sub a b).symm
theorem lI_mul (a b : Int) : lI a * lI b = lI (a * b) := (Int64.ofInt_mul a b).symm
theorem lI_neg (a : Int) : -lI a = lI (-a) := Int64.neg_ofInt
theorem iI_add (a b : Int) : iI a + iI b = iI (a + b) := (Int32.ofInt_add a b).symm
theorem iI_sub (a b : Int) : iI a - iI b = iI (a - b) := (Int32.ofInt_sub a b).symm
theorem iI_mul (a b : Int) : iI a * iI b = iI (a * b) := (Int32.ofInt_mul a b).symm
theorem iI_neg (a : Int) : -iI a = iI (-a) := Int32.neg_ofInt
theorem lI_toInt {z : Int} (h : z.natAbs < 2 ^ 63) : (lI z).toInt = z := Int64.toInt_ofInt_of_le (by omega) (by omega)
theorem iI_toInt {z : Int} (h : z.natAbs < 2 ^ 31) : (iI z).toInt = z := Int32.toInt_ofInt_of_le (by omega) (by omega)
theorem iI_l {z : Int} (h : z.natAbs < 2 ^ 31) : (iI z).toInt64 = lI z := by
  refine Int64.toInt_inj.mp ?_
  rw [Int32.toInt_toInt64, iI_toInt h, lI_toInt (by omega)]
theorem lI_lt {a b : Int} (ha : a.natAbs < 2 ^ 63) (hb : b.natAbs < 2 ^ 63) : (lI a < lI b) = (a < b) := by
  rw [Int64.lt_iff_toInt_lt, lI_toInt ha, lI_toInt hb]
theorem lI_le {a b : Int} (ha : a.natAbs < 2 ^ 63) (hb : b.natAbs < 2 ^ 63) : (lI a ≤ lI b) = (a ≤ b) := by
  rw [Int64.le_iff_toInt_le, lI_toInt ha, lI_toInt hb]
theorem lI_eq {a b : Int} (ha : a.natAbs < 2 ^ 63) (hb : b.natAbs < 2 ^ 63) : (lI a = lI b) = (a = b) := by
  refine propext ⟨fun h => ?_, fun h => by rw [h]⟩
  rw [← lI_toInt ha, ← lI_toInt hb, h]
theorem lI_0 : lI 0 = 0 := by decide
theorem iI_0 : iI 0 = 0 := by decide
theorem iI_eq {a b : Int} (ha : a.natAbs < 2 ^ 31) (hb : b.natAbs < 2 ^ 31) : (iI a = iI b) = (a = b) := by
  refine propext ⟨fun h => ?_, fun h => by rw [h]⟩
  rw [← iI_toInt ha, ← iI_toInt hb, h]
/-- division of what is divided without rest -/
theorem lI_div {a : Int} {b : Nat} (ha : a.natAbs < 2 ^ 63) (hb : b < 2 ^ 63) : lI a / lN b = lI (Int.tdiv a b) := by
  have h1 : (Int.tdiv a b).natAbs < 2 ^ 63 := Nat.lt_of_le_of_lt (Int.natAbs_tdiv_le_natAbs _ _) ha
  refine Int64.toInt_inj.mp ?_
  rw [Int64.toInt_div, lI_toInt ha, jN_toInt hb, lI_toInt h1]
  generalize Int.tdiv a b = k at h1 ⊢
  exact Int.bmod_eq_of_le (by omega) (by omega)
theorem lI_abs {z : Int} (h : z.natAbs < 2 ^ 63) : (if 0 < lI z then lI z else -lI z) = lN z.natAbs := by
  rw [lN_lI]
  by_cases g : 0 < z
  · rw [if_pos (by rw [← lI_0, lI_lt (by decide) h]; exact g)]
    congr 1
    omega
  · rw [if_neg (by rw [← lI_0, lI_lt (by decide) h]; exact g), lI_neg]
    congr 1
    omega
theorem zx_comdiv {z : Int} {b : Nat} (ha : z.natAbs < 2 ^ 63) (hb : b < 2 ^ 48) : xX11_commonDivisor (lI z) (lN b) = some (lN (Nat.gcd z.natAbs b)) := by
  have eb : (if 0 < lN b then lN b else -lN b) = lN b := by
    have := lI_abs (z := (b : Int)) (by omega)
    rw [lN_lI b, this, lN_lI]
    congr 1
  refine zok.eq ?_
  unfold xX11_commonDivisor
  rw [lI_abs ha, eb]
  simp only [zlet]
  generalize z.natAbs = a at ha ⊢
  refine zok_bind ?_
  refine zok_forx (fun t s => ∃ x y : Nat, s = (lN x, lN y, nI t) ∧ x < 2 ^ 63 ∧ y < 2 ^ 48 ∧ Nat.gcd x y = Nat.gcd a b ∧ (t = 0 ∨ (y ≤ x ∧ x * y < 2 ^ (97 - t)))) 0 100 (by decide) (by decide) ⟨a, b, rfl, ha, hb, rfl, Or.inl rfl⟩ ?_ ?_
  · rintro t s h1 h2 ⟨x, y, rfl, hx, hy, hg, hm⟩
    rcases Nat.eq_zero_or_pos y with rfl | hy0
    · refine ⟨.inr (lN x), ?_, Or.inr ⟨_, rfl, zok_some ?_⟩⟩
      · unfold xX11_commonDivisor_L15
        rw [if_neg (by rw [zl100, nI_leI (by decide) (by omega)]; omega), if_pos (by rw [zcmp0]; rfl)]
      · rw [← hg, Nat.gcd_zero_right]
    · have hne : ¬ lN y = 0 := by rw [jN_eq0 (by omega)]; omega
      have hr : x % y < y := Nat.mod_lt _ hy0
      refine ⟨.inl (lN y, lN (x % y), nI (t + 1)), ?_, Or.inl ⟨_, rfl, y, x % y, rfl, by omega, by omega, ?_, Or.inr ⟨Nat.le_of_lt hr, ?_⟩⟩⟩
      · unfold xX11_commonDivisor_L15
        rw [if_neg (by rw [zl100, nI_leI (by decide) (by omega)]; omega), if_neg (by rw [zcmp0]; exact hne), if_neg hne]
        simp only [zlet]
        rw [jN_mod hx (by omega), nI_1]
      · rw [← hg, Nat.gcd_comm x y, Nat.gcd_comm y (x % y), ← Nat.gcd_rec]
      · rcases hm with rfl | ⟨h3, h4⟩
        · have h5 : y * (x % y) < 2 ^ 48 * 2 ^ 48 := Nat.mul_lt_mul'' hy (by omega)
          rw [← Nat.pow_add] at h5
          exact h5
        · have hh := mod_half hy0 h3
          have hk : 97 - t ≠ 0 := by
            intro q
            rw [q] at h4
            have : 1 * 1 ≤ x * y := Nat.mul_le_mul (by omega) hy0
            omega
          have e : 2 ^ (97 - t) = 2 * 2 ^ (97 - (t + 1)) := by
            conv => lhs; rw [show 97 - t = (97 - (t + 1)) + 1 by omega, Nat.pow_succ, Nat.mul_comm]
          have h5 : 2 * (y * (x % y)) ≤ x * y := by
            rw [Nat.mul_left_comm, Nat.mul_comm x y]
            exact Nat.mul_le_mul_left y hh
          omega
  · rintro s ⟨x, y, rfl, hx, hy, hg, hm⟩
    refine ⟨.inr (lN x), ?_, _, rfl, zok_some ?_⟩
    · unfold xX11_commonDivisor_L15
      rw [if_pos (by rw [zl100]; exact nI_le (Nat.le_refl _) (by decide))]
    · have hy0 : y = 0 := by
        rcases hm with q | ⟨h3, h4⟩
        · omega
        · rw [show 97 - 100 = 0 by rfl] at h4
          rcases Nat.eq_zero_or_pos y with e | e
          · exact e
          · have : 1 * 1 ≤ x * y := Nat.mul_le_mul (by omega) e
            omega
      subst hy0
      rw [← hg, Nat.gcd_zero_right]
theorem zx_comdivN {a b : Nat} (ha : a < 2 ^ 63) (hb : b < 2 ^ 48) : xX11_commonDivisor (lN a) (lN b) = some (lN (Nat.gcd a b)) := by
  rw [lN_lI a]
  exact zx_comdiv (z := (a : Int)) (by omega) hb
theorem zx_parted {a b : Nat} (ha : a < 2 ^ 63) (hb : b < 2 ^ 63) : xX11_parted (lN a) (lN b) = some (lN (a / b)) := by
  unfold xX11_parted
  rw [zif zcmp0, jN_div ha hb]
  rcases Nat.eq_zero_or_pos b with rfl | h
  · rw [if_pos (show lN 0 = 0 from rfl), Nat.div_zero]
    rfl
  · have h1 : ¬ lN b = 0 := by rw [jN_eq0 hb]; omega
    rw [if_neg h1, if_neg h1]
theorem zx_partedI {a : Int} {b : Nat} (ha : a.natAbs < 2 ^ 63) (h0 : 0 < b) (hb : b < 2 ^ 63) : xX11_parted (lI a) (lN b) = some (lI (Int.tdiv a b)) := by
  unfold xX11_parted
  have h1 : ¬ lN b = 0 := by rw [jN_eq0 hb]; omega
  rw [zif zcmp0, lI_div ha hb, if_neg h1, if_neg h1]
/-- what is told of a fraction in least terms -/
def zlt (up : Int) (down : Nat) (part : Nat) : Int := if part = 0 then Int.tdiv up (Nat.gcd up.natAbs down) else (down / Nat.gcd up.natAbs down : Nat)
theorem zx_leastTerms {z : Int} {b part : Nat} (ha : z.natAbs < 2 ^ 63) (h0 : 0 < b) (hb : b < 2 ^ 48) (hp : part ≤ 1) : xX11_leastTerms (lI z) (lN b) (nI part) = some (lI (zlt z b part)) := by
  have hg : 0 < Nat.gcd z.natAbs b := Nat.gcd_pos_of_pos_right _ h0
  have hg2 : Nat.gcd z.natAbs b ≤ b := Nat.gcd_le_right _ h0
  unfold xX11_leastTerms zlt
  rw [zx_comdiv ha hb]
  by_cases q : part = 0
  · subst q
    simp only [nI_0, if_true, Option.bind_some, zx_partedI ha hg (show Nat.gcd z.natAbs b < 2 ^ 63 by omega)]
  · obtain rfl : part = 1 := by omega
    have h1 : ¬ nI 1 = 0 := by decide
    simp only [if_neg h1, Option.bind_some, zx_parted (show b < 2 ^ 63 by omega) (show Nat.gcd z.natAbs b < 2 ^ 63 by omega), if_neg (show ¬ 1 = 0 by decide)]
    rw [lN_lI]
theorem zx_inLeast {z : Int} {b part : Nat} (ha : z.natAbs < 2 ^ 63) (h0 : 0 < b) (hb : b < 2 ^ 63) (hp : part ≤ 1) : xX12_inLeast (lI z) (lN b) (nI part) = some (lI (zlt z b part)) := by
  have hg : 0 < Nat.gcd z.natAbs b := Nat.gcd_pos_of_pos_right _ h0
  have hg2 : Nat.gcd z.natAbs b ≤ b := Nat.gcd_le_right _ h0
  have hn : ¬ lN (Nat.gcd z.natAbs b) = 0 := by rw [jN_eq0 (by omega)]; omega
  have e1 : ∀ o : Int64, o = lN z.natAbs → xX12_divisor o (lN b) = some (lN (Nat.gcd z.natAbs b)) := by
    rintro o rfl
    exact zx_divisor ha hb
  unfold xX12_inLeast zlt
  have hd := lI_div (a := z) (b := Nat.gcd z.natAbs b) ha (by omega)
  have hd2 := jN_div (a := b) (b := Nat.gcd z.natAbs b) hb (by omega)
  have h1 : (0 ≤ lg_cmp (lI z) 0) = (0 ≤ z) := by
    refine propext ((lg_cmp_ge _ _).trans ?_)
    rw [← lI_0, lI_le (by decide) ha]
  rw [zif h1]
  by_cases g : 0 ≤ z
  · rw [if_pos g, e1 (lI z) (by rw [lN_lI]; congr 1; omega), Option.bind_some, if_neg hn, if_neg hn, hd, hd2]
    by_cases q : part = 0
    · subst q
      rw [if_pos rfl, if_pos nI_0]
    · rw [if_neg q, if_neg (by rw [nI_eq0 (by omega)]; exact q), lN_lI]
  · rw [if_neg g, lI_neg, e1 (lI (-z)) (by rw [lN_lI]; congr 1; omega), Option.bind_some, if_neg hn, if_neg hn, hd, hd2]
    by_cases q : part = 0
    · subst q
      rw [if_pos rfl, if_pos nI_0]
    · rw [if_neg q, if_neg (by rw [nI_eq0 (by omega)]; exact q), lN_lI]
/-- like fractions are told alike -/
theorem zlt_eq {a c : Int} {b d part : Nat} (hb : 0 < b) (hd : 0 < d) (h : a * d = c * b) : zlt a b part = zlt c d part := by
  have hn : a.natAbs * d = c.natAbs * b := by
    have := congrArg Int.natAbs h
    rw [Int.natAbs_mul, Int.natAbs_mul] at this
    exact this
  obtain ⟨e1, e2⟩ := zleast hb hd hn
  unfold zlt
  by_cases q : part = 0
  · rw [if_pos q, if_pos q]
    have key : ∀ (x : Int) (y : Nat), Int.tdiv x y = if 0 ≤ x then ((x.natAbs / y : Nat) : Int) else -((x.natAbs / y : Nat) : Int) := by
      intro x y
      by_cases g : 0 ≤ x
      · rw [if_pos g]
        obtain ⟨m, rfl⟩ := Int.eq_ofNat_of_zero_le g
        rfl
      · rw [if_neg g]
        obtain ⟨m, hm⟩ := Int.eq_ofNat_of_zero_le (show 0 ≤ -x by omega)
        obtain rfl : x = -(m : Int) := by omega
        rw [Int.neg_tdiv, Int.natAbs_neg]
        rfl
    rw [key, key, e1]
    have hs : (0 ≤ a) = (0 ≤ c) := by
      refine propext ⟨fun g => ?_, fun g => ?_⟩
      · have h1 : 0 ≤ a * (d : Int) := Int.mul_nonneg g (by omega)
        rw [h] at h1
        rcases Int.lt_or_le c 0 with k | k
        · have := Int.mul_neg_of_neg_of_pos k (show (0 : Int) < b by omega)
          omega
        · exact k
      · have h1 : 0 ≤ c * (b : Int) := Int.mul_nonneg g (by omega)
        rw [← h] at h1
        rcases Int.lt_or_le a 0 with k | k
        · have := Int.mul_neg_of_neg_of_pos k (show (0 : Int) < d by omega)
          omega
        · exact k
    rw [zif hs]
  · rw [if_neg q, if_neg q, e2]
