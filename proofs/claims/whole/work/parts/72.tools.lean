/-! more tools: loops whose state is known, bits, cells, recursions along the tree -/
theorem zif {α : Type} {p q : Prop} [Decidable p] [Decidable q] (h : p = q) {a b : α} : (if p then a else b) = (if q then a else b) := by
  by_cases g : q
  · rw [if_pos g, if_pos (h ▸ g)]
  · rw [if_neg g, if_neg (h ▸ g)]
theorem zifi {α : Type} {p q : Prop} [Decidable p] [Decidable q] (h : p ↔ q) {a b : α} : (if p then a else b) = (if q then a else b) := zif (propext h)
theorem zfor {α β : Type} {f : α → Option (α ⊕ β)} {a : α} {r : β} (S : Nat → α) (lo hi : Nat) (hlo : lo ≤ hi) (hk : hi < 4096) (h0 : a = S lo) (step : ∀ c, lo ≤ c → c < hi → f (S c) = some (.inl (S (c + 1)))) (last : f (S hi) = some (.inr r)) : x_it f zFU a = some r := by
  refine zok.eq (zok_for (fun c x => x = S c) lo hi hlo hk h0 ?_ ?_)
  · rintro c a h1 h2 rfl
    exact ⟨_, step c h1 h2, _, rfl, rfl⟩
  · rintro a rfl
    exact ⟨_, last, _, rfl, rfl⟩
theorem zford {α β : Type} {f : α → Option (α ⊕ β)} {a : α} {r : β} (S : Nat → α) (hi : Nat) (hk : hi < 4096) (h0 : a = S hi) (step : ∀ c, c < hi → f (S (c + 1)) = some (.inl (S c))) (last : f (S 0) = some (.inr r)) : x_it f zFU a = some r := by
  refine zfor (fun c => S (hi - c)) 0 hi (Nat.zero_le _) hk h0 ?_ ?_
  · intro c _ h
    have e : hi - c = (hi - (c + 1)) + 1 := by omega
    show f (S (hi - c)) = some (.inl (S (hi - (c + 1))))
    rw [e]
    exact step _ (by omega)
  · show f (S (hi - hi)) = _
    rw [Nat.sub_self]
    exact last
theorem zok_ford {α β : Type} {f : α → Option (α ⊕ β)} {a : α} {P : β → Prop} (J : Nat → α → Prop) (hi : Nat) (hk : hi < 4096) (h0 : J hi a) (step : ∀ c a, c < hi → J (c + 1) a → zok (f a) (fun r => ∃ a', r = .inl a' ∧ J c a')) (last : ∀ a, J 0 a → zok (f a) (fun r => ∃ b, r = .inr b ∧ P b)) : zok (x_it f zFU a) P := by
  refine zok_for (fun c => J (hi - c)) 0 hi (Nat.zero_le _) hk h0 ?_ ?_
  · intro c a _ h hJ
    have e : hi - c = (hi - (c + 1)) + 1 := by omega
    have hJ' : J ((hi - (c + 1)) + 1) a := e ▸ hJ
    exact step _ a (by omega) hJ'
  · intro a hJ
    have hJ' : J (hi - hi) a := hJ
    rw [Nat.sub_self] at hJ'
    exact last a hJ'
/-- the counter of a loop that counts down, c behind its last round -/
def zdn : Nat → Int32
  | 0 => -1
  | k + 1 => nI k
theorem zdn_s {k : Nat} : zdn (k + 1) = nI k := rfl
theorem zdn_p {k : Nat} (h : k < 2 ^ 31) : nI k + (-1 : Int32) = zdn k := by
  cases k with
  | zero => decide
  | succ k => exact (Int32.sub_eq_add_neg (nI (k + 1)) 1).symm.trans (nI_pred k)
theorem zdn_0 : (zdn 0 < 0) = True := by decide
/-- bits by a test -/
def zbits (P : Nat → Bool) : Nat → Nat
  | 0 => 0
  | k + 1 => zbits P k ||| (if P k = true then 2 ^ k else 0)
theorem zbits_y {P : Nat → Bool} {k : Nat} (h : P k = true) : zbits P (k + 1) = zbits P k ||| 2 ^ k := by
  show zbits P k ||| (if P k = true then 2 ^ k else 0) = _
  rw [if_pos h]
theorem zbits_n {P : Nat → Bool} {k : Nat} (h : P k = false) : zbits P (k + 1) = zbits P k := by
  show zbits P k ||| (if P k = true then 2 ^ k else 0) = _
  rw [if_neg (by rw [h]; decide), Nat.or_zero]
theorem zbits_1 {P : Nat → Bool} (h : P 0 = false) : zbits P 1 = 0 := zbits_n h
theorem zbits_test {P : Nat → Bool} {k : Nat} : ∀ {n : Nat}, (zbits P n).testBit k = (decide (k < n) && P k)
  | 0 => by simp [zbits]
  | n + 1 => by
    have ih := zbits_test (P := P) (k := k) (n := n)
    by_cases h : P n = true
    · rw [zbits_y h, Nat.testBit_or, ih, Nat.testBit_two_pow]
      by_cases e : n = k
      · subst e
        simp [h]
      · have : (k < n + 1) = (k < n) := propext (by omega)
        simp [e, this]
    · have h' : P n = false := by simpa using h
      rw [zbits_n h', ih]
      by_cases e : n = k
      · subst e
        simp [h']
      · have : (k < n + 1) = (k < n) := propext (by omega)
        simp [this]
theorem zbits_lt {P : Nat → Bool} : ∀ {n : Nat}, zbits P n < 2 ^ n
  | 0 => Nat.one_pos
  | n + 1 => by
    have ih := zbits_lt (P := P) (n := n)
    have h2 : 2 ^ n < 2 ^ (n + 1) := Nat.pow_lt_pow_right (by decide) (by omega)
    refine Nat.or_lt_two_pow (by omega) ?_
    split <;> omega
theorem zbits_31 {P : Nat → Bool} {n : Nat} (h : n ≤ 31) : zbits P n < 2 ^ 31 := Nat.lt_of_lt_of_le zbits_lt (Nat.pow_le_pow_right (by decide) h)
theorem zbits_eq {P Q : Nat → Bool} : ∀ {n : Nat}, (∀ k, k < n → P k = Q k) → zbits P n = zbits Q n
  | 0, _ => rfl
  | n + 1, h => by
    show zbits P n ||| (if P n = true then 2 ^ n else 0) = zbits Q n ||| (if Q n = true then 2 ^ n else 0)
    rw [zbits_eq (fun k hk => h k (by omega)), h n (by omega)]
theorem zshl : ∀ k, k < 31 → (1 : Int32) <<< (nI k &&& 31) = nI (2 ^ k) := by decide +kernel
theorem zor0 {a : Nat} : nI a ||| 0 = nI a := by rw [← nI_0, zor, Nat.or_zero]
theorem zxor (a b : Nat) : nI a ^^^ nI b = nI (a ^^^ b) := by
  refine Int32.toBitVec_inj.mp ?_
  rw [Int32.toBitVec_xor]
  show BitVec.ofNat 32 a ^^^ BitVec.ofNat 32 b = BitVec.ofNat 32 (a ^^^ b)
  rw [BitVec.ofNat_xor]
theorem zbit0 {s k : Nat} (hs : s < 2 ^ 31) (hk : k < 32) : (((nI s >>> (nI k &&& 31)) &&& (1 : Int32)) = 0) = (s.testBit k = false) := by
  have h1 := zbit hs hk
  have h2 : ((nI s >>> (nI k &&& 31)) &&& (1 : Int32)) = nI ((s >>> k) &&& 1) := by
    rw [zshr hs hk, show (1 : Int32) = nI 1 by decide, zand]
  have h3 : (s >>> k) &&& 1 ≤ 1 := Nat.and_le_right
  rw [h2] at h1 ⊢
  rw [show (1 : Int32) = nI 1 by decide, nI_eq (by omega) (by decide)] at h1
  rw [nI_eq0 (by omega)]
  refine propext ?_
  rw [← Bool.not_eq_true, ← h1]
  omega
theorem zsub_bits {a b : Nat} (ha : a < 2 ^ 31) : ((nI a &&& (nI b ^^^ (-1 : Int32))) = 0) = (∀ k, a.testBit k = true → b.testBit k = true) := by
  rw [show (-1 : Int32) = nI (2 ^ 32 - 1) by decide, zxor, zand, nI_eq0 (Nat.lt_of_le_of_lt Nat.and_le_left ha)]
  refine propext ⟨fun h k hk => ?_, fun h => ?_⟩
  · have h1 : (a &&& (b ^^^ (2 ^ 32 - 1))).testBit k = false := by rw [h]; exact Nat.zero_testBit k
    rw [Nat.testBit_and, hk, Nat.testBit_xor, Nat.testBit_two_pow_sub_one] at h1
    have hk31 : k < 32 := by
      rcases Nat.lt_or_ge k 32 with g | g
      · exact g
      · have : a < 2 ^ k := Nat.lt_of_lt_of_le ha (Nat.pow_le_pow_right (by decide) (by omega))
        rw [Nat.testBit_lt_two_pow this] at hk
        cases hk
    revert h1
    cases b.testBit k <;> simp [hk31]
  · refine Nat.eq_of_testBit_eq fun k => ?_
    rw [Nat.testBit_and, Nat.testBit_xor, Nat.testBit_two_pow_sub_one, Nat.zero_testBit]
    by_cases hk : a.testBit k = true
    · rw [h k hk, hk]
      have hk31 : k < 32 := by
        rcases Nat.lt_or_ge k 32 with g | g
        · exact g
        · have : a < 2 ^ k := Nat.lt_of_lt_of_le ha (Nat.pow_le_pow_right (by decide) (by omega))
          rw [Nat.testBit_lt_two_pow this] at hk
          cases hk
      simp [hk31]
    · have : a.testBit k = false := by simpa using hk
      rw [this]
      rfl
/-- cells -/
theorem zsi_g {M : zM} {j k j' k' : Nat} {v : Int32} : (zsi M j k v).1 j' k' = if j' = j ∧ k' = k then v else M.1 j' k' := by
  by_cases h : j' = j
  · subst h
    by_cases g : k' = k <;> simp [zsi, upd, g]
  · simp [zsi, h]
theorem zsi_2 {M : zM} {j k : Nat} {v : Int32} : (zsi M j k v).2 = M.2 := rfl
theorem zsj_g {M : zM} {j k j' k' : Nat} {v : Int64} : (zsj M j k v).2 j' k' = if j' = j ∧ k' = k then v else M.2 j' k' := by
  by_cases h : j' = j ∧ k' = k
  · rw [if_pos h, h.1, h.2, zsj_at]
  · rw [if_neg h, zsj_ne h]
theorem zsi_ne {M : zM} {j k j' k' : Nat} {v : Int32} (h : ¬ (j' = j ∧ k' = k)) : (zsi M j k v).1 j' k' = M.1 j' k' := by rw [zsi_g, if_neg h]
theorem zsi_y {M : zM} {j k j' k' : Nat} {v : Int32} (h : j' = j ∧ k' = k) : (zsi M j k v).1 j' k' = v := by rw [zsi_g, if_pos h]
theorem zsj_y {M : zM} {j k j' k' : Nat} {v : Int64} (h : j' = j ∧ k' = k) : (zsj M j k v).2 j' k' = v := by rw [zsj_g, if_pos h]
theorem zin_w {w N : Nat} (h : w < N) (hN : N < 2 ^ 31) : ¬ (nI w < 0 ∨ N ≤ w) := by
  rintro (z | z)
  · exact nI_pos (by omega) z
  · omega
theorem nI_sub {a b : Nat} (h : b ≤ a) : nI a - nI b = nI (a - b) := by
  obtain ⟨d, rfl⟩ : ∃ d, a = b + d := ⟨a - b, by omega⟩
  rw [Nat.add_sub_cancel_left, ← nI_add, Int32.add_comm, Int32.add_sub_cancel]
theorem zl2 : (2 : Int32) = nI 2 := by decide
theorem zl3 : (3 : Int32) = nI 3 := by decide
theorem zl4 : (4 : Int32) = nI 4 := by decide
theorem zl5 : (5 : Int32) = nI 5 := by decide
theorem zl6 : (6 : Int32) = nI 6 := by decide
theorem zl8 : (8 : Int32) = nI 8 := by decide
theorem zl9 : (9 : Int32) = nI 9 := by decide
theorem zl20 : (20 : Int32) = nI 20 := by decide
theorem zl24 : (24 : Int32) = nI 24 := by decide
theorem zl100 : (100 : Int32) = nI 100 := by decide
theorem zL100 : (100 : Int64) = lN 100 := by decide
theorem zL1 : (1 : Int64) = lN 1 := by decide
theorem zL0 : (0 : Int64) = lN 0 := by decide
/-- a value by those of later words -/
def zbk {β : Type} (F : (Nat → β) → Nat → β) (d : β) : Nat → Nat → β
  | 0, _ => d
  | k + 1, w => F (zbk F d k) w
theorem zbk_eq {β : Type} {F : (Nat → β) → Nat → β} {d : β} {n : Nat} (h : ∀ r r' w, w < n → (∀ c, w < c → c < n → r c = r' c) → F r w = F r' w) : ∀ (j k w : Nat), w < n → n ≤ w + j → n ≤ w + k → zbk F d j w = zbk F d k w
  | 0, _, w, h1, h2, _ => absurd h2 (by omega)
  | _ + 1, 0, w, h1, _, h3 => absurd h3 (by omega)
  | j + 1, k + 1, w, h1, h2, h3 => by
    show F (zbk F d j) w = F (zbk F d k) w
    exact h _ _ w h1 (fun c hc1 hc2 => zbk_eq h j k c hc2 (by omega) (by omega))
theorem zbk_fix {β : Type} {F : (Nat → β) → Nat → β} {d : β} {n : Nat} (h : ∀ r r' w, w < n → (∀ c, w < c → c < n → r c = r' c) → F r w = F r' w) {w : Nat} (hw : w < n) : zbk F d n w = F (zbk F d n) w := by
  rw [zbk_eq h n (n + 1) w hw (by omega) (by omega)]
  rfl
/-- a value by that of the parent -/
def zfd {β : Type} (par : Nat → Nat) (G : β → Nat → β) (d : β) : Nat → Nat → β
  | 0, _ => d
  | k + 1, w => if w = 0 then d else G (zfd par G d k (par w)) w
theorem zfd_0 {β : Type} {par : Nat → Nat} {G : β → Nat → β} {d : β} : ∀ k, zfd par G d k 0 = d
  | 0 => rfl
  | _ + 1 => if_pos rfl
theorem zfd_eq {β : Type} {par : Nat → Nat} {G : β → Nat → β} {d : β} {n : Nat} (h : ∀ i, 0 < i → i < n → par i < i) : ∀ (k w : Nat), w ≤ k → w < n → zfd par G d k w = zfd par G d w w
  | 0, w, h1, _ => by
    obtain rfl : w = 0 := by omega
    rfl
  | k + 1, w, h1, h2 => by
    rcases Nat.eq_zero_or_pos w with rfl | g
    · rw [zfd_0, zfd_0]
    · obtain ⟨v, rfl⟩ : ∃ v, w = v + 1 := ⟨w - 1, by omega⟩
      have hp := h (v + 1) g h2
      show (if v + 1 = 0 then d else G (zfd par G d k (par (v + 1))) (v + 1)) = (if v + 1 = 0 then d else G (zfd par G d v (par (v + 1))) (v + 1))
      rw [if_neg (by omega), if_neg (by omega), zfd_eq h k (par (v + 1)) (by omega) (by omega), zfd_eq h v (par (v + 1)) (by omega) (by omega)]
theorem zfd_s {β : Type} {par : Nat → Nat} {G : β → Nat → β} {d : β} {n : Nat} (h : ∀ i, 0 < i → i < n → par i < i) {w : Nat} (h0 : 0 < w) (hw : w < n) : zfd par G d w w = G (zfd par G d (par w) (par w)) w := by
  obtain ⟨v, rfl⟩ : ∃ v, w = v + 1 := ⟨w - 1, by omega⟩
  have hp := h (v + 1) h0 hw
  show (if v + 1 = 0 then d else G (zfd par G d v (par (v + 1))) (v + 1)) = _
  rw [if_neg (by omega), zfd_eq h v (par (v + 1)) (by omega) (by omega)]
