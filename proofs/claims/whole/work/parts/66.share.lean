/-! the shares of the reference -/
def zshF (un : Nat) (par fw wg : Nat → Nat) : Nat → Nat → Nat
  | 0, _ => un
  | k + 1, w => if w = 0 then un else zshF un par fw wg k (par w) / fw (par w) * wg w
/-- the share of a word of the whole -/
def zsh (n : Nat) (par wt ans : Nat → Nat) (w : Nat) : Nat := zshF (zun n par wt ans) par (zfw n par wt ans) (fun c => wt c / zgc n par wt (par c)) w w
theorem zshF_0 {un : Nat} {par fw wg : Nat → Nat} : ∀ k : Nat, zshF un par fw wg k 0 = un
  | 0 => rfl
  | _ + 1 => if_pos rfl
theorem zshF_eq {un n : Nat} {par fw wg : Nat → Nat} (h : ∀ i, 0 < i → i < n → par i < i) : ∀ (k w : Nat), w ≤ k → w < n → zshF un par fw wg k w = zshF un par fw wg w w
  | 0, w, h1, _ => by
    obtain rfl : w = 0 := by omega
    rfl
  | k + 1, w, h1, h2 => by
    rcases Nat.eq_zero_or_pos w with rfl | g
    · rw [zshF_0, zshF_0]
    · obtain ⟨v, rfl⟩ : ∃ v, w = v + 1 := ⟨w - 1, by omega⟩
      have hp := h (v + 1) g h2
      show (if v + 1 = 0 then un else zshF un par fw wg k (par (v + 1)) / fw (par (v + 1)) * wg (v + 1)) = (if v + 1 = 0 then un else zshF un par fw wg v (par (v + 1)) / fw (par (v + 1)) * wg (v + 1))
      rw [if_neg (by omega), if_neg (by omega), zshF_eq h k (par (v + 1)) (by omega) (by omega), zshF_eq h v (par (v + 1)) (by omega) (by omega)]
theorem zsh_0 {n : Nat} {par wt ans : Nat → Nat} : zsh n par wt ans 0 = zun n par wt ans := rfl
theorem zsh_s {n : Nat} {par wt ans : Nat → Nat} (hV : zVT n par wt ans) {w : Nat} (h0 : 0 < w) (hw : w < n) : zsh n par wt ans w = zsh n par wt ans (par w) / zfw n par wt ans (par w) * (wt w / zgc n par wt (par w)) := by
  obtain ⟨v, rfl⟩ : ∃ v, w = v + 1 := ⟨w - 1, by omega⟩
  have hp := (hV.2.2.1 (v + 1) h0 hw).1
  show (if v + 1 = 0 then zun n par wt ans else zshF (zun n par wt ans) par (zfw n par wt ans) (fun c => wt c / zgc n par wt (par c)) v (par (v + 1)) / zfw n par wt ans (par (v + 1)) * (wt (v + 1) / zgc n par wt (par (v + 1)))) = _
  rw [if_neg (by omega), zshF_eq (fun i a b => (hV.2.2.1 i a b).1) v (par (v + 1)) (by omega) (by omega)]
  rfl
/-- a parent's factor is the weights' sum without the divisor -/
theorem zfw_par {n : Nat} {par wt ans : Nat → Nat} (hV : zVT n par wt ans) {w : Nat} (h0 : 0 < w) (hw : w < n) : zfw n par wt ans (par w) = zsw n par wt (par w) / zgc n par wt (par w) := if_pos (hV.2.2.1 w h0 hw).2.2.2.2
theorem zwg_le {n : Nat} {par wt ans : Nat → Nat} (hV : zVT n par wt ans) {w : Nat} (h0 : 0 < w) (hw : w < n) : wt w / zgc n par wt (par w) ≤ zfw n par wt ans (par w) := by
  rw [zfw_par hV h0 hw]
  refine Nat.div_le_div_right ?_
  have h2 := zsum_ge (f := zwc par wt (par w)) hw
  have e4 : zwc par wt (par w) w = wt w := if_pos ⟨h0, rfl⟩
  rw [zsw_eq]
  omega
theorem zsh_le {n : Nat} {par wt ans : Nat → Nat} (hV : zVT n par wt ans) : ∀ (k w : Nat), w ≤ k → w < n → zsh n par wt ans w ≤ zun n par wt ans
  | 0, w, h1, _ => by
    obtain rfl : w = 0 := by omega
    exact Nat.le_refl _
  | k + 1, w, h1, h2 => by
    rcases Nat.eq_zero_or_pos w with rfl | g
    · exact Nat.le_refl _
    · have hp := (hV.2.2.1 w g h2).1
      have ih := zsh_le hV k (par w) (by omega) (by omega)
      rw [zsh_s hV g h2]
      refine Nat.le_trans (Nat.mul_le_mul_left _ (zwg_le hV g h2)) (Nat.le_trans (Nat.div_mul_le_self _ _) ih)
theorem zx_find2 {M : zM} {n : Nat} {par wt ans : Nat → Nat} (hV : zVT n par wt ans) (hW : zWh n par ans) (hR : zRT M n par wt ans) (h0 : M.2 20 0 = lN (zun n par wt ans)) : zok (x_it (fun a9 => xX12_findShares_L67 a9.1 a9.2) zFU (M, (1 : Int32))) (fun r => r.1 = M.1 ∧ (∀ i, i < n → r.2 20 i = lN (zsh n par wt ans i)) ∧ ∀ j k, ¬ j = 20 → r.2 j k = M.2 j k) := by
  have hn := hV.2.1
  have hU := zun_lt hV hW
  refine zok_for (fun c a => a.2 = nI c ∧ a.1.1 = M.1 ∧ (∀ i, i < c → a.1.2 20 i = lN (zsh n par wt ans i)) ∧ ∀ j k, ¬ j = 20 → a.1.2 j k = M.2 j k) 1 n hV.1 (by omega) ⟨rfl, rfl, fun i hi => (show i = 0 by omega) ▸ h0, fun _ _ _ => rfl⟩ ?_ ?_
  · rintro c ⟨A, i⟩ h1 h2 ⟨e0, e1, e2, e3⟩
    dsimp only at e0 e1 e2 e3
    subst e0
    have hR' := zRT_of hR e1
    obtain ⟨q1, q2, q3⟩ := hR'.2 c h2
    obtain ⟨p1, p2, p3, p4, p5⟩ := hV.2.2.1 c h1 h2
    have hg := zgc_pos hV h1 h2 rfl
    have hg9 := zgc_le hV (w := par c)
    have hs9 := zsw_le hV (w := par c)
    have hf := zfw_par hV h1 h2
    have hfp := zfw_pos hV hW (w := par c) (by omega)
    have hd : zsw n par wt (par c) / zgc n par wt (par c) < 2 ^ 31 := Nat.lt_of_le_of_lt (Nat.div_le_self _ _) (by omega)
    have hw9 : wt c / zgc n par wt (par c) < 2 ^ 31 := Nat.lt_of_le_of_lt (Nat.div_le_self _ _) (by omega)
    have hsp := zsh_le hV (par c) (par c) (Nat.le_refl _) (by omega)
    have es := zsh_s hV h1 h2
    have ep := e2 (par c) (by omega)
    rw [hf] at hfp es
    refine ⟨.inl (zsj A 20 c (lN (zsh n par wt ans c)), nI (c + 1)), ?_, _, rfl, rfl, e1, fun j hj => ?_, fun j k hjk => ?_⟩
    · simp (disch := omega) only [zlet, nI_leI, nI_ltI, nI_eq, nI_eq0, nI_clamp, nI_neg0, nI_add, nI_1, false_or, or_false, if_pos, if_neg, Int32.add_zero, Nat.add_zero, xX12_findShares_L67, hR'.1, q1, q2, zx_sumOf hV hR' (show par c < n by omega), zx_commonOf hV hR' (show par c < n by omega), Option.bind_some, nI_div, nI_l, jN_eq0, ep, jN_div, lN_mul, es]
    · rcases Nat.lt_or_ge j c with g | g
      · exact (zsj_ne (by omega)).trans (e2 j g)
      · obtain rfl : j = c := by omega
        exact zsj_at
    · exact (zsj_ne (fun q => hjk q.1)).trans (e3 j k hjk)
  · rintro ⟨A, i⟩ ⟨e0, e1, e2, e3⟩
    dsimp only at e0 e1 e2 e3
    subst e0
    refine ⟨.inr A, ?_, A, rfl, e1, e2, e3⟩
    have hR' := zRT_of hR e1
    simp (disch := omega) only [zlet, nI_leI, nI_ltI, nI_eq, nI_eq0, nI_clamp, nI_neg0, nI_add, nI_1, false_or, or_false, if_pos, if_neg, Int32.add_zero, Nat.add_zero, xX12_findShares_L67, hR'.1]
