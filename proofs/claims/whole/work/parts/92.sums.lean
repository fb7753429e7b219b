/-! sums over all ends -/
def zvl (what p : Nat) (S : zRst) (e : Nat) : Int := if what = 0 then (if S.1 = some p then 1 else 0) else if what = 1 then S.2.2.2.2.2 p else if what = 2 then (if S.1 = none then 1 else 0) else (if S.2.1.map (fun x => x.2) = none ∨ S.2.1.map (fun x => x.2) = some e then 1 else 0)
theorem zvl0 {p e : Nat} {S : zRst} : zvl 0 p S e = if S.1 = some p then 1 else 0 := rfl
theorem zvl1 {p e : Nat} {S : zRst} : zvl 1 p S e = S.2.2.2.2.2 p := rfl
theorem zvl2 {p e : Nat} {S : zRst} : zvl 2 p S e = if S.1 = none then 1 else 0 := rfl
theorem zvl3 {p e : Nat} {S : zRst} : zvl 3 p S e = if S.2.1.map (fun x => x.2) = none ∨ S.2.1.map (fun x => x.2) = some e then 1 else 0 := rfl
theorem zvl_abs {what p e : Nat} {S : zRst} (hS : zWS S) : (zvl what p S e).natAbs ≤ 160 := by
  unfold zvl
  split
  · split <;> decide
  · split
    · exact hS.2.2.2.1 p
    · split
      · split <;> decide
      · split <;> decide
/-- a sum of shares m e, each times what run e brings -/
def zsv (n : Nat) (ans m : Nat → Nat) (run : Nat → zRst) (what p : Nat) (e : Nat) : Int := if ans e = 0 then 0 else (m e : Int) * zvl what p (run e) e
section
variable {n : Nat} {par wt ans : Nat → Nat} {np : Nat} {ad hd kn cm sr pt : Nat → Nat} {gu : Nat → Nat → Nat} {T : zM} {P : zP}
theorem zsum_cross (hV : zVT n par wt ans) (hW : zWh n par ans) {run : Nat → zRst} {what p : Nat} : zSm (zsv n ans (zsh n par wt ans) run what p) n * zbl n par wt 0 = zSm (zsv n ans (ztm n par wt) run what p) n * zun n par wt ans := by
  rw [← zSm_mul, ← zSm_mul]
  refine zSm_congr (fun e he => ?_)
  unfold zsv
  by_cases q : ans e = 0
  · rw [if_pos q, if_pos q, Int.zero_mul, Int.zero_mul]
  · have h := zcrT hV hW he q
    have h' : ((ztm n par wt e * zun n par wt ans : Nat) : Int) = ((zsh n par wt ans e * zbl n par wt 0 : Nat) : Int) := congrArg _ h
    rw [Int.natCast_mul, Int.natCast_mul] at h'
    rw [if_neg q, if_neg q, Int.mul_right_comm, ← h', Int.mul_right_comm]
theorem zsumM_abs (hV : zVT n par wt ans) (hW : zWh n par ans) {run : Nat → zRst} (hr : ∀ e, 0 < e → e < n → zWS (run e)) {what p : Nat} : (zSm (zsv n ans (zsh n par wt ans) run what p) n).natAbs ≤ 160 * zun n par wt ans := by
  have h := zSm_abs (f := zsv n ans (zsh n par wt ans) run what p) (g := fun e => (if zbe par e 0 = true then (if ans e = 0 then 0 else zsh n par wt ans e) else 0) * 160) (n := n) (fun e he => by
    unfold zsv
    by_cases q : ans e = 0
    · rw [if_pos q]
      exact Nat.zero_le _
    · have h0 : 0 < e := Nat.pos_of_ne_zero (fun z => q (z ▸ hV.2.2.2))
      rw [if_neg q, if_pos (zbe_root hV e e (Nat.le_refl _) he), if_neg q, Int.natAbs_mul, Int.natAbs_natCast]
      exact Nat.mul_le_mul_left _ (zvl_abs (hr e h0 he)))
  rw [zsum_mul, zsh_all hV hW 0 hV.1, Nat.mul_comm] at h
  exact h
theorem zsumC_abs (hV : zVT n par wt ans) {run : Nat → zRst} (hr : ∀ e, 0 < e → e < n → zWS (run e)) {what p : Nat} : ∀ c, c ≤ n → (zSm (zsv n ans (ztm n par wt) run what p) c).natAbs ≤ 2 ^ 61 := by
  intro c hc
  have hn := hV.2.1
  have hb := zbl_lt hV (w := 0) hV.1
  have h := zSm_abs (f := zsv n ans (ztm n par wt) run what p) (g := fun _ => 2 ^ 48 * 160) (n := c) (fun e he => by
    unfold zsv
    by_cases q : ans e = 0
    · rw [if_pos q]
      exact Nat.zero_le _
    · have h0 : 0 < e := Nat.pos_of_ne_zero (fun z => q (z ▸ hV.2.2.2))
      rw [if_neg q, Int.natAbs_mul, Int.natAbs_natCast]
      exact Nat.mul_le_mul (Nat.le_of_lt (ztm_lt hV (by omega))) (zvl_abs (hr e h0 (by omega))))
  have h2 := zsum_le (f := fun _ => 2 ^ 48 * 160) (b := 2 ^ 48 * 160) (n := c) (fun _ _ => Nat.le_refl _)
  refine Nat.le_trans h (Nat.le_trans h2 (Nat.le_trans (Nat.mul_le_mul_left _ (show c ≤ 24 by omega)) (by decide)))
theorem zo_eq {o : Option Nat} {k : Nat} (hk : k < 100) (ho : ∀ x, o = some x → x < 100) : (zo (-9) o = nI k) = (o = some k) := by
  cases o with
  | none =>
    refine propext ⟨fun h => ?_, fun h => by cases h⟩
    have h : (-9 : Int32) = nI k := h
    have : (-9 : Int32).toInt = (nI k).toInt := by rw [h]
    rw [nI_toInt (by omega)] at this
    have h9' : (-9 : Int32).toInt = -9 := by decide
    omega
  | some x =>
    have := ho x rfl
    refine propext ⟨fun h => ?_, fun h => by cases h; rfl⟩
    have h : nI x = nI k := h
    rw [nI_eq (by omega) (by omega)] at h
    rw [h]
theorem zo_neg {o : Option Nat} (ho : ∀ x, o = some x → x < 100) : (zo (-9) o < 0) = (o = none) := by
  cases o with
  | none => exact propext ⟨fun _ => rfl, fun _ => show (-9 : Int32) < 0 by decide⟩
  | some x =>
    have := ho x rfl
    refine propext ⟨fun h => absurd h (show ¬ nI x < 0 from nI_pos (by omega)), fun h => by cases h⟩
theorem zo_ge {o : Option Nat} (ho : ∀ x, o = some x → x < 100) : (0 ≤ zo (-9) o) = (¬ o = none) := by
  cases o with
  | none => exact propext ⟨fun h => absurd h (show ¬ 0 ≤ (-9 : Int32) by decide), fun h => absurd rfl h⟩
  | some x =>
    have := ho x rfl
    exact propext ⟨fun _ h => (by cases h), fun _ => (show 0 ≤ nI x from nI_pos' (by omega))⟩
theorem zo_m9 {o : Option Nat} (ho : ∀ x, o = some x → x < 100) : (zo (-9) o = (-9 : Int32)) = (o = none) := by
  cases o with
  | none => exact propext ⟨fun _ => rfl, fun _ => rfl⟩
  | some x =>
    have := ho x rfl
    refine propext ⟨fun h => ?_, fun h => by cases h⟩
    have h : nI x = (-9 : Int32) := h
    have : (-9 : Int32).toInt = (nI x).toInt := by rw [h]
    rw [nI_toInt (by omega)] at this
    have h9' : (-9 : Int32).toInt = -9 := by decide
    omega
theorem zWS_win {S : zRst} (hS : zWS S) : ∀ x, S.1 = some x → x < 100 := fun x h => by
  have := hS.2.2.2.2.2.2 x h
  omega
theorem zWS_fst {S : zRst} (hS : zWS S) : ∀ x, S.2.1.map (fun x => x.2) = some x → x < 100 := fun x h => by
  cases hf : S.2.1 with
  | none => rw [hf] at h; cases h
  | some y =>
    rw [hf] at h
    have h9 := hS.2.2.2.2.2.1 y hf
    injection h with h
    try dsimp only at h
    omega
theorem zWS_who {S : zRst} (hS : zWS S) : ∀ x, S.2.1.map (fun x => x.1) = some x → x < 100 := fun x h => by
  cases hf : S.2.1 with
  | none => rw [hf] at h; cases h
  | some y =>
    rw [hf] at h
    have h9 := hS.2.2.2.2.2.1 y hf
    injection h with h
    try dsimp only at h
    omega
/-- what a run adds, as the reference adds it up -/
theorem zx_sumStep {M : zM} {S : zRst} (hS : zWS S) (hR : zRS M S) {what p e s : Nat} {z : Int} (hwh : what ≤ 3) (hp : p < 4) (he : e < 24) (hs : M.2 20 e = lN s) (b : Int32 → Option ((zM × Int64 × Int32) ⊕ (zM × Int64))) (hb : b = fun _ => if nI what = 0 then (if (M.1 0 34) = nI p then (xX12_sumOver_b57_5 M (nI what) (nI p) (nI e) (lI z) (M.2 20 (nI e).toNatClampNeg)) else xX12_sumOver_b57_5 M (nI what) (nI p) (nI e) (lI z) (0 : Int64)) else xX12_sumOver_b59_5 M (nI what) (nI p) (lI z) (nI e)) : b 0 = some (.inl (M, lI (z + (s : Int) * zvl what p S e), nI (e + 1))) := by
  subst hb
  have h34 := hR.1
  have h35 := hR.2.1
  have h27 := hR.2.2.2.2.2 p hp
  have hgl := hS.2.2.2.1 p
  have k1 := zo_eq (o := S.1) (k := p) (by omega) (zWS_win hS)
  have k2 := zo_ge (o := S.1) (zWS_win hS)
  have k3 := zo_neg (o := S.2.1.map (fun x => x.2)) (zWS_fst hS)
  have k4 := zo_eq (o := S.2.1.map (fun x => x.2)) (k := e) (by omega) (zWS_fst hS)
  have c24 : ¬ (nI e < 0 ∨ 24 ≤ (nI e).toNatClampNeg) := nI_in (by omega) (by decide)
  have c4 : ¬ (nI p < 0 ∨ 4 ≤ (nI p).toNatClampNeg) := nI_in (by omega) (by decide)
  have ce := nI_clamp (n := e) (by omega)
  have cp := nI_clamp (n := p) (by omega)
  have z0 : lI z + (0 : Int64) = lI z := by rw [← lI_0, lI_add, Int.add_zero]
  have d01 : ¬ (0 : Int32) = 1 := by decide
  have d02 : ¬ (0 : Int32) = 2 := by decide
  have d03 : ¬ (0 : Int32) = 3 := by decide
  have d10 : ¬ (1 : Int32) = 0 := by decide
  have d12 : ¬ (1 : Int32) = 2 := by decide
  have d13 : ¬ (1 : Int32) = 3 := by decide
  have d20 : ¬ (2 : Int32) = 0 := by decide
  have d21 : ¬ (2 : Int32) = 1 := by decide
  have d23 : ¬ (2 : Int32) = 3 := by decide
  have d30 : ¬ (3 : Int32) = 0 := by decide
  have d31 : ¬ (3 : Int32) = 1 := by decide
  have d32 : ¬ (3 : Int32) = 2 := by decide
  have hc : what = 0 ∨ what = 1 ∨ what = 2 ∨ what = 3 := by omega
  rcases hc with rfl | rfl | rfl | rfl
  · show (if (0 : Int32) = 0 then _ else _) = _
    rw [if_pos rfl, h34, zif (k1), ce, hs]
    unfold xX12_sumOver_b57_5 xX12_sumOver_b59_5 xX12_sumOver_b82_5
    simp only [zlet]
    rw [zvl0]
    by_cases q : S.1 = some p
    · rw [if_pos q, if_pos q, Int.mul_one, show nI 0 = (0 : Int32) from rfl, if_neg d01, if_neg d02, if_neg d03, lN_lI, lI_add, nI_1]
    · rw [if_neg q, if_neg q, Int.mul_zero, Int.add_zero, show nI 0 = (0 : Int32) from rfl, if_neg d01, if_neg d02, if_neg d03, z0, nI_1]
  · show (if (1 : Int32) = 0 then _ else _) = _
    rw [if_neg d10]
    unfold xX12_sumOver_b59_5 xX12_sumOver_b82_5
    simp only [zlet]
    rw [show nI 1 = (1 : Int32) from rfl, if_pos rfl, if_neg c24, if_neg c4, ce, cp, hs, h27, if_neg d12, if_neg d13, iI_l (by omega), lN_lI, lI_mul, lI_add, nI_1, zvl1]
  · show (if (2 : Int32) = 0 then _ else _) = _
    rw [if_neg d20]
    unfold xX12_sumOver_b59_5 xX12_sumOver_b82_5
    simp only [zlet]
    rw [show nI 2 = (2 : Int32) from rfl, if_neg d21, if_pos rfl, h34, zif (k2), if_neg d23, if_neg d23, z0, if_neg c24, ce, hs, nI_1, zvl2]
    by_cases q : S.1 = none
    · rw [if_neg (fun y => y q), if_pos q, Int.mul_one, lN_lI, lI_add]
    · rw [if_pos q, if_neg q, Int.mul_zero, Int.add_zero]
  · show (if (3 : Int32) = 0 then _ else _) = _
    rw [if_neg d30]
    unfold xX12_sumOver_b59_5 xX12_sumOver_b82_5
    simp only [zlet]
    rw [show nI 3 = (3 : Int32) from rfl, if_neg d31, if_neg d32, if_pos rfl, h35, zif (k3), zif (k4), if_neg c24, ce, hs, z0, nI_1, zvl3]
    by_cases q : S.2.1.map (fun x => x.2) = none
    · rw [if_pos q, if_pos (Or.inl q), Int.mul_one, lN_lI, lI_add]
    · rw [if_neg q]
      by_cases r : S.2.1.map (fun x => x.2) = some e
      · rw [if_pos r, if_pos (Or.inr r), Int.mul_one, lN_lI, lI_add]
      · rw [if_neg r, if_neg (fun y => y.elim q r), Int.mul_zero, Int.add_zero]
theorem zx_sumOver (hV : zVT n par wt ans) (hQ : zVQ pt) (hB : zBE np hd cm sr gu) {M : zM} (hE : zRE M n par wt ans np hd cm sr pt gu) (hS : ∀ i, i < n → M.2 20 i = lN (zsh n par wt ans i)) {what p : Nat} (hwh : what ≤ 3) (hp : p < 4) : zok (xX12_sumOver M (nI what) (nI p)) (fun r => r.1 = lI (zSm (zsv n ans (zsh n par wt ans) (zrun par np hd cm sr pt (zwlen par) ans gu) what p) n) ∧ zfrM M r.2) := by
  have hn := hV.2.1
  unfold xX12_sumOver
  refine zok_bind ?_
  refine zok_for (fun c (z : zM × Int64 × Int32) => z.2.2 = nI c ∧ z.2.1 = lI (zSm (zsv n ans (zsh n par wt ans) (zrun par np hd cm sr pt (zwlen par) ans gu) what p) c) ∧ zfrM M z.1) 1 n hV.1 (by omega) ⟨rfl, ?_, zfrM_r⟩ ?_ ?_
  · rw [zSm_s, show zsv n ans (zsh n par wt ans) (zrun par np hd cm sr pt (zwlen par) ans gu) what p 0 = 0 from if_pos hV.2.2.2]
    rfl
  · rintro c ⟨A, x, i⟩ h1 h2 ⟨e0, e1, e2⟩
    try dsimp only at e0 e1 e2
    subst e0 e1
    have hEA := zRE_f hE e2
    have ha := zans_le hV h2
    have t3 := (hEA.1.2 c h2).2.2
    rw [show (c + 1 : Nat) = c + 1 from rfl]
    by_cases q : ans c = 0
    · refine ⟨.inl (A, lI (zSm (zsv n ans (zsh n par wt ans) (zrun par np hd cm sr pt (zwlen par) ans gu) what p) c), nI (c + 1)), ?_, _, rfl, rfl, ?_, e2⟩
      · simp (disch := first | assumption | omega) only [zlet, nI_leI, nI_ltI, nI_eq, nI_eq0, nI_clamp, nI_neg0, nI_add, nI_1, false_or, or_false, if_pos, if_neg, Int32.add_zero, Nat.add_zero, Option.bind_some, if_true, if_false, and_true, true_and, and_false, false_and, nI_10, nI_mul, zl2, zl3, zl4, zl5, zl6, zl8, zl9, zl20, zl24, zor0, zsi_g, zsj_g, zsi_2, zsj_1, xX12_sumOver_L5, hEA.1.1, t3]
      · show _ = lI (zSm _ (c + 1))
        rw [zSm_s, show zsv n ans (zsh n par wt ans) (zrun par np hd cm sr pt (zwlen par) ans gu) what p c = 0 from if_pos q, Int.add_zero]
    · obtain ⟨B, hBr, r1, r2⟩ := zx_runs hV hQ hB hEA h1 h2
      have hWS := zWS_run (np := np) (hd := hd) (cm := cm) (sr := sr) (gu := gu) hV hQ hB.1 h1 h2
      have hs : B.2 20 c = lN (zsh n par wt ans c) := by rw [r2.2, e2.2]; exact hS c h2
      have st := zx_sumStep hWS r1 (z := zSm (zsv n ans (zsh n par wt ans) (zrun par np hd cm sr pt (zwlen par) ans gu) what p) c) hwh hp (by omega) hs _ rfl
      refine ⟨.inl (B, lI (zSm (zsv n ans (zsh n par wt ans) (zrun par np hd cm sr pt (zwlen par) ans gu) what p) (c + 1)), nI (c + 1)), ?_, _, rfl, rfl, rfl, zfrM_t e2 r2⟩
      rw [zSm_s, show zsv n ans (zsh n par wt ans) (zrun par np hd cm sr pt (zwlen par) ans gu) what p c = (zsh n par wt ans c : Int) * zvl what p (zrun par np hd cm sr pt (zwlen par) ans gu c) c from if_neg q]
      simp only [xX12_sumOver_L5]
      rw [hEA.1.1, if_neg (by rw [nI_leI (by omega) (by omega)]; omega), if_neg (nI_in (by omega) (by decide)), nI_clamp (by omega), t3, if_neg (by rw [nI_eq0 (by omega)]; exact q), hBr, Option.bind_some]
      rw [nI_clamp (by omega)] at st
      exact st
  · rintro ⟨A, x, i⟩ ⟨e0, e1, e2⟩
    try dsimp only at e0 e1 e2
    subst e0
    have hEA := zRE_f hE e2
    refine ⟨.inr (A, x), ?_, _, rfl, zok_some ⟨e1, e2⟩⟩
    simp (disch := first | assumption | omega) only [zlet, nI_leI, nI_ltI, nI_eq, nI_eq0, nI_clamp, nI_neg0, nI_add, nI_1, false_or, or_false, if_pos, if_neg, Int32.add_zero, Nat.add_zero, Option.bind_some, if_true, if_false, and_true, true_and, and_false, false_and, nI_10, nI_mul, zl2, zl3, zl4, zl5, zl6, zl8, zl9, zl20, zl24, zor0, zsi_g, zsj_g, zsi_2, zsj_1, xX12_sumOver_L5, hEA.1.1]
end
