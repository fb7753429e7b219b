/-! facts in an order: had -/
theorem zpc10_le {s : Nat} : zpc10 s ≤ 10 := by
  have := zsum_le (f := fun k => if s.testBit k = true then 1 else 0) (b := 1) (n := 10) (fun i _ => by split <;> omega)
  unfold zpc10
  omega
/-- what is in all of the first k facts of the order -/
def zall (fc od : Nat → Nat) : Nat → Nat
  | 0 => 1022
  | k + 1 => zall fc od k &&& fc (od k)
theorem zall_lt {fc od : Nat → Nat} : ∀ k, zall fc od k < 1024
  | 0 => show 1022 < 1024 by decide
  | k + 1 => Nat.lt_of_le_of_lt Nat.and_le_left (zall_lt k)
def zhf (fc od : Nat → Nat) : Nat → Option Nat
  | 0 => none
  | k + 1 => match zhf fc od k with
    | some x => some x
    | none => if zpc10 (zall fc od (k + 1)) = 1 then some k else none
def zhd (fc od : Nat → Nat) (n : Nat) : Nat := match zhf fc od n with
  | some x => x + 1
  | none => 6
theorem zhf_lt {fc od : Nat → Nat} {x : Nat} : ∀ {n : Nat}, zhf fc od n = some x → x < n
  | 0, h => by cases h
  | n + 1, h => by
    have e : zhf fc od (n + 1) = match zhf fc od n with | some x => some x | none => if zpc10 (zall fc od (n + 1)) = 1 then some n else none := rfl
    rw [e] at h
    cases hq : zhf fc od n with
    | some y =>
      rw [hq] at h
      cases h
      have := zhf_lt hq
      omega
    | none =>
      rw [hq] at h
      try dsimp only at h
      split at h
      · cases h; omega
      · cases h
theorem zhf_more {fc od : Nat → Nat} {x k : Nat} (h : zhf fc od k = some x) : ∀ d, zhf fc od (k + d) = some x
  | 0 => h
  | d + 1 => by
    show (match zhf fc od (k + d) with | some x => some x | none => if zpc10 (zall fc od (k + d + 1)) = 1 then some (k + d) else none) = _
    rw [zhf_more h d]
theorem zhf_s {fc od : Nat → Nat} {k : Nat} (h : zhf fc od k = none) : zhf fc od (k + 1) = if zpc10 (zall fc od (k + 1)) = 1 then some k else none := by
  show (match zhf fc od k with | some x => some x | none => if zpc10 (zall fc od (k + 1)) = 1 then some k else none) = _
  rw [h]
theorem zhd_lt {fc od : Nat → Nat} {n : Nat} (hn : n ≤ 5) : 1 ≤ zhd fc od n ∧ zhd fc od n ≤ 6 := by
  unfold zhd
  cases h : zhf fc od n with
  | none => exact ⟨by decide, by decide⟩
  | some x =>
    have := zhf_lt h
    exact ⟨by dsimp only; omega, by dsimp only; omega⟩
theorem zhd_congr {fc od od' : Nat → Nat} {n : Nat} (h : ∀ k, k < n → od k = od' k) : zhd fc od n = zhd fc od' n := by
  have h1 : ∀ k, k ≤ n → zall fc od k = zall fc od' k := by
    intro k
    induction k with
    | zero => intro _; rfl
    | succ k ih =>
      intro hk
      show zall fc od k &&& fc (od k) = zall fc od' k &&& fc (od' k)
      rw [ih (by omega), h k (by omega)]
  have h2 : ∀ k, k ≤ n → zhf fc od k = zhf fc od' k := by
    intro k
    induction k with
    | zero => intro _; rfl
    | succ k ih =>
      intro hk
      show (match zhf fc od k with | some x => some x | none => if zpc10 (zall fc od (k + 1)) = 1 then some k else none) = (match zhf fc od' k with | some x => some x | none => if zpc10 (zall fc od' (k + 1)) = 1 then some k else none)
      rw [ih (by omega), h1 (k + 1) hk]
  unfold zhd
  rw [h2 n (Nat.le_refl _)]
theorem zx_hadOf {M : zM} {fc od : Nat → Nat} {n : Nat} (hn : n ≤ 5) (ho : ∀ k, k < n → M.1 29 k = nI (od k) ∧ od k < 5 ∧ M.1 28 (od k) = nI (fc (od k))) : xX12_hadOf M (nI n) = some (nI (zhd fc od n)) := by
  refine zok.eq ?_
  unfold xX12_hadOf
  refine zok_bind ?_
  refine zok_forx (fun c (z : Int32 × Int32) => z = (nI (zall fc od c), nI c) ∧ zhf fc od c = none) 0 n (Nat.zero_le _) (by omega) ⟨rfl, rfl⟩ ?_ ?_
  · rintro c z h1 h2 ⟨rfl, h3⟩
    obtain ⟨o1, o2, o3⟩ := ho c h2
    have hl := zall_lt (fc := fc) (od := od) (c + 1)
    have hb := zx_bits _ hl
    have hp := zpc10_le (s := zall fc od (c + 1))
    have es : zall fc od (c + 1) = zall fc od c &&& fc (od c) := rfl
    by_cases q : zpc10 (zall fc od (c + 1)) = 1
    · have e2 := zhf_s h3
      rw [if_pos q] at e2
      have e3 := zhf_more e2 (n - (c + 1))
      rw [show c + 1 + (n - (c + 1)) = n by omega] at e3
      refine ⟨.inr (.inl (nI c)), ?_, Or.inr ⟨_, rfl, zok_some ?_⟩⟩
      · rw [es] at hb q
        simp (disch := first | assumption | omega) only [zlet, nI_leI, nI_ltI, nI_eq, nI_eq0, nI_clamp, nI_neg0, nI_add, nI_1, false_or, or_false, if_pos, if_neg, Int32.add_zero, Nat.add_zero, Option.bind_some, if_true, if_false, and_true, true_and, and_false, false_and, nI_10, nI_mul, zl2, zl3, zl4, zl5, zl6, zl8, zl9, zl20, zl24, zor0, zsi_g, zsj_g, zsi_2, zsj_1, xX12_hadOf_L6, o1, o3, zand, hb]
        rw [q, if_pos (show nI 1 = 1 from rfl)]
      · unfold zhd
        rw [e3]
        exact nI_1 c
    · have e2 := zhf_s h3
      rw [if_neg q] at e2
      refine ⟨.inl (nI (zall fc od (c + 1)), nI (c + 1)), ?_, Or.inl ⟨_, rfl, rfl, e2⟩⟩
      rw [es] at hb q hp ⊢
      simp (disch := first | assumption | omega) only [zlet, nI_leI, nI_ltI, nI_eq, nI_eq0, nI_clamp, nI_neg0, nI_add, nI_1, false_or, or_false, if_pos, if_neg, Int32.add_zero, Nat.add_zero, Option.bind_some, if_true, if_false, and_true, true_and, and_false, false_and, nI_10, nI_mul, zl2, zl3, zl4, zl5, zl6, zl8, zl9, zl20, zl24, zor0, zsi_g, zsj_g, zsi_2, zsj_1, xX12_hadOf_L6, o1, o3, zand, hb]
      rw [if_neg (by rw [show (1 : Int32) = nI 1 from rfl, nI_eq (by omega) (by decide)]; exact q)]
  · rintro z ⟨rfl, h3⟩
    refine ⟨.inr (.inr ()), ?_, _, rfl, zok_some ?_⟩
    · simp (disch := first | assumption | omega) only [zlet, nI_leI, nI_ltI, nI_eq, nI_eq0, nI_clamp, nI_neg0, nI_add, nI_1, false_or, or_false, if_pos, if_neg, Int32.add_zero, Nat.add_zero, Option.bind_some, if_true, if_false, and_true, true_and, and_false, false_and, nI_10, nI_mul, zl2, zl3, zl4, zl5, zl6, zl8, zl9, zl20, zl24, zor0, zsi_g, zsj_g, zsi_2, zsj_1, xX12_hadOf_L6]
    · unfold zhd
      rw [h3]
      rfl
theorem zx_hadBehind {F : zM} {fc od : Nat → Nat} {n : Nat} (hn : n ≤ 5) (ho : ∀ k, k < n → F.1 74 k = nI (od k) ∧ od k < 5 ∧ F.1 73 (od k) = nI (fc (od k))) : xX3_hadBehind F (nI n) = some (nI (zhd fc od n)) := by
  refine zok.eq ?_
  unfold xX3_hadBehind
  refine zok_bind ?_
  refine zok_forx (fun c (z : Int32 × Int32) => z = (nI (zall fc od c), nI c) ∧ zhf fc od c = none) 0 n (Nat.zero_le _) (by omega) ⟨rfl, rfl⟩ ?_ ?_
  · rintro c z h1 h2 ⟨rfl, h3⟩
    obtain ⟨o1, o2, o3⟩ := ho c h2
    have hl := zall_lt (fc := fc) (od := od) (c + 1)
    have hb := zx_bitCount _ hl
    have hp := zpc10_le (s := zall fc od (c + 1))
    have es : zall fc od (c + 1) = zall fc od c &&& fc (od c) := rfl
    by_cases q : zpc10 (zall fc od (c + 1)) = 1
    · have e2 := zhf_s h3
      rw [if_pos q] at e2
      have e3 := zhf_more e2 (n - (c + 1))
      rw [show c + 1 + (n - (c + 1)) = n by omega] at e3
      refine ⟨.inr (.inl (nI c)), ?_, Or.inr ⟨_, rfl, zok_some ?_⟩⟩
      · rw [es] at hb q
        simp (disch := first | assumption | omega) only [zlet, nI_leI, nI_ltI, nI_eq, nI_eq0, nI_clamp, nI_neg0, nI_add, nI_1, false_or, or_false, if_pos, if_neg, Int32.add_zero, Nat.add_zero, Option.bind_some, if_true, if_false, and_true, true_and, and_false, false_and, nI_10, nI_mul, zl2, zl3, zl4, zl5, zl6, zl8, zl9, zl20, zl24, zor0, zsi_g, zsj_g, zsi_2, zsj_1, xX3_hadBehind_L6, o1, o3, zand, hb]
        rw [q, if_pos (show nI 1 = 1 from rfl)]
      · unfold zhd
        rw [e3]
        exact nI_1 c
    · have e2 := zhf_s h3
      rw [if_neg q] at e2
      refine ⟨.inl (nI (zall fc od (c + 1)), nI (c + 1)), ?_, Or.inl ⟨_, rfl, rfl, e2⟩⟩
      rw [es] at hb q hp ⊢
      simp (disch := first | assumption | omega) only [zlet, nI_leI, nI_ltI, nI_eq, nI_eq0, nI_clamp, nI_neg0, nI_add, nI_1, false_or, or_false, if_pos, if_neg, Int32.add_zero, Nat.add_zero, Option.bind_some, if_true, if_false, and_true, true_and, and_false, false_and, nI_10, nI_mul, zl2, zl3, zl4, zl5, zl6, zl8, zl9, zl20, zl24, zor0, zsi_g, zsj_g, zsi_2, zsj_1, xX3_hadBehind_L6, o1, o3, zand, hb]
      rw [if_neg (by rw [show (1 : Int32) = nI 1 from rfl, nI_eq (by omega) (by decide)]; exact q)]
  · rintro z ⟨rfl, h3⟩
    refine ⟨.inr (.inr ()), ?_, _, rfl, zok_some ?_⟩
    · simp (disch := first | assumption | omega) only [zlet, nI_leI, nI_ltI, nI_eq, nI_eq0, nI_clamp, nI_neg0, nI_add, nI_1, false_or, or_false, if_pos, if_neg, Int32.add_zero, Nat.add_zero, Option.bind_some, if_true, if_false, and_true, true_and, and_false, false_and, nI_10, nI_mul, zl2, zl3, zl4, zl5, zl6, zl8, zl9, zl20, zl24, zor0, zsi_g, zsj_g, zsi_2, zsj_1, xX3_hadBehind_L6]
    · unfold zhd
      rw [h3]
      rfl
