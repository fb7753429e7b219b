/-! the pure level: tools -/
def zok {α : Type} (o : Option α) (P : α → Prop) : Prop := ∃ r, o = some r ∧ P r
theorem zok_some {α : Type} {r : α} {P : α → Prop} (h : P r) : zok (some r) P := ⟨r, rfl, h⟩
theorem zok_bind {α β : Type} {o : Option α} {f : α → Option β} {P : β → Prop} (h : zok o (fun a => zok (f a) P)) : zok (o.bind f) P := by
  obtain ⟨a, rfl, r, h2, h3⟩ := h
  exact ⟨r, h2, h3⟩
theorem zok_eb {α β : Type} {o : Option α} {a : α} {f : α → Option β} {P : β → Prop} (e : o = some a) (h : zok (f a) P) : zok (o.bind f) P := by
  rw [e]; exact h
theorem zok_let {α β : Type} {a : α} {f : α → Option β} {P : β → Prop} (h : zok (f a) P) : zok (zlet a f) P := h
theorem zok_if {α : Type} {c : Prop} [Decidable c] {a b : Option α} {P : α → Prop} (h1 : c → zok a P) (h2 : ¬ c → zok b P) : zok (if c then a else b) P := by
  by_cases h : c
  · rw [if_pos h]; exact h1 h
  · rw [if_neg h]; exact h2 h
theorem zok_g {α : Type} {c : Prop} [Decidable c] {b : Option α} {P : α → Prop} (h1 : ¬ c) (h2 : zok b P) : zok (if c then none else b) P := by
  rw [if_neg h1]; exact h2
theorem zok_y {α : Type} {c : Prop} [Decidable c] {a b : Option α} {P : α → Prop} (h1 : c) (h2 : zok a P) : zok (if c then a else b) P := by
  rw [if_pos h1]; exact h2
theorem zok_n {α : Type} {c : Prop} [Decidable c] {a b : Option α} {P : α → Prop} (h1 : ¬ c) (h2 : zok b P) : zok (if c then a else b) P := by
  rw [if_neg h1]; exact h2
theorem zok.imp {α : Type} {o : Option α} {P Q : α → Prop} (h : zok o P) (i : ∀ r, P r → Q r) : zok o Q := by
  obtain ⟨r, h1, h2⟩ := h
  exact ⟨r, h1, i r h2⟩
theorem zok.eq {α : Type} {o : Option α} {r : α} (h : zok o (fun x => x = r)) : o = some r := by
  obtain ⟨x, h1, rfl⟩ := h
  exact h1
/-- a loop with a measure -/
theorem zok_it0 {α β : Type} {f : α → Option (α ⊕ β)} (J : Nat → α → Prop) {P : β → Prop} (step : ∀ k a, J k a → zok (f a) (fun r => (∃ a' k', r = .inl a' ∧ k' < k ∧ J k' a') ∨ ∃ b, r = .inr b ∧ P b)) : ∀ (n k : Nat) (a : α), J k a → k < n → zok (x_it f n a) P
  | 0, _, _, _, h => absurd h (Nat.not_lt_zero _)
  | n + 1, k, a, hJ, h => by
    obtain ⟨r, h1, h2⟩ := step k a hJ
    unfold x_it
    rw [h1]
    rcases h2 with ⟨a', k', rfl, hk, hJ'⟩ | ⟨b, rfl, hP⟩
    · exact zok_it0 J step n k' a' hJ' (by omega)
    · exact zok_some hP
theorem zok_it {α β : Type} {f : α → Option (α ⊕ β)} {a : α} {P : β → Prop} (J : Nat → α → Prop) (k : Nat) (h0 : J k a) (hk : k < 4096) (step : ∀ k a, J k a → zok (f a) (fun r => (∃ a' k', r = .inl a' ∧ k' < k ∧ J k' a') ∨ ∃ b, r = .inr b ∧ P b)) : zok (x_it f zFU a) P := zok_it0 J step zFU k a h0 hk
/-- a loop that counts from lo to hi -/
theorem zok_for {α β : Type} {f : α → Option (α ⊕ β)} {a : α} {P : β → Prop} (J : Nat → α → Prop) (lo hi : Nat) (hlo : lo ≤ hi) (hk : hi < 4096) (h0 : J lo a) (step : ∀ c a, lo ≤ c → c < hi → J c a → zok (f a) (fun r => ∃ a', r = .inl a' ∧ J (c + 1) a')) (last : ∀ a, J hi a → zok (f a) (fun r => ∃ b, r = .inr b ∧ P b)) : zok (x_it f zFU a) P := by
  refine zok_it (fun k x => ∃ c, lo ≤ c ∧ c ≤ hi ∧ k = hi - c ∧ J c x) (hi - lo) ⟨lo, Nat.le_refl _, hlo, rfl, h0⟩ (by omega) ?_
  rintro k x ⟨c, h1, h2, rfl, hJ⟩
  rcases Nat.lt_or_ge c hi with h | h
  · refine (step c x h1 h hJ).imp ?_
    rintro r ⟨a', rfl, h3⟩
    exact Or.inl ⟨a', hi - (c + 1), rfl, by omega, c + 1, by omega, by omega, rfl, h3⟩
  · obtain rfl : c = hi := by omega
    refine (last x hJ).imp ?_
    rintro r ⟨b, rfl, h3⟩
    exact Or.inr ⟨b, rfl, h3⟩
/-- such a loop that may come out ahead of its end -/
theorem zok_forx {α β : Type} {f : α → Option (α ⊕ β)} {a : α} {P : β → Prop} (J : Nat → α → Prop) (lo hi : Nat) (hlo : lo ≤ hi) (hk : hi < 4096) (h0 : J lo a) (step : ∀ c a, lo ≤ c → c < hi → J c a → zok (f a) (fun r => (∃ a', r = .inl a' ∧ J (c + 1) a') ∨ ∃ b, r = .inr b ∧ P b)) (last : ∀ a, J hi a → zok (f a) (fun r => ∃ b, r = .inr b ∧ P b)) : zok (x_it f zFU a) P := by
  refine zok_it (fun k x => ∃ c, lo ≤ c ∧ c ≤ hi ∧ k = hi - c ∧ J c x) (hi - lo) ⟨lo, Nat.le_refl _, hlo, rfl, h0⟩ (by omega) ?_
  rintro k x ⟨c, h1, h2, rfl, hJ⟩
  rcases Nat.lt_or_ge c hi with h | h
  · refine (step c x h1 h hJ).imp ?_
    rintro r (⟨a', rfl, h3⟩ | ⟨b, rfl, h3⟩)
    · exact Or.inl ⟨a', hi - (c + 1), rfl, by omega, c + 1, by omega, by omega, rfl, h3⟩
    · exact Or.inr ⟨b, rfl, h3⟩
  · obtain rfl : c = hi := by omega
    refine (last x hJ).imp ?_
    rintro r ⟨b, rfl, h3⟩
    exact Or.inr ⟨b, rfl, h3⟩
theorem zin_b {c N : Nat} (h : c < N) (hN : N < 2 ^ 31) : ¬ (nI c < 0 ∨ N ≤ (nI c).toNatClampNeg) := nI_in h hN
/-- sums -/
def zsum (f : Nat → Nat) : Nat → Nat
  | 0 => 0
  | n + 1 => zsum f n + f n
theorem zsum_zero {f : Nat → Nat} : ∀ {n : Nat}, (∀ i, i < n → f i = 0) → zsum f n = 0
  | 0, _ => rfl
  | n + 1, h => by
    show zsum f n + f n = 0
    rw [zsum_zero (fun i hi => h i (by omega)), h n (by omega)]
theorem zsum_le {f : Nat → Nat} {b : Nat} : ∀ {n : Nat}, (∀ i, i < n → f i ≤ b) → zsum f n ≤ b * n
  | 0, _ => Nat.le_refl _
  | n + 1, h => by
    show zsum f n + f n ≤ b * (n + 1)
    have := zsum_le (f := f) (b := b) (n := n) (fun i hi => h i (by omega))
    have := h n (by omega)
    rw [Nat.mul_succ]
    omega
theorem nI_neg0 {n : Nat} (h : n < 2 ^ 31) : (nI n < 0) = False := eq_false (nI_pos h)
theorem nI_eq0 {n : Nat} (h : n < 2 ^ 31) : (nI n = 0) = (n = 0) := propext (by rw [← nI_0]; exact nI_eq h (by decide))
