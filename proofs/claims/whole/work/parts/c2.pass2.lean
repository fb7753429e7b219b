/-! a quiz: what a right statement says -/
section
variable {nt a c : Nat} {tp : Nat → Nat}
theorem znv_val {d : Nat} (h : ¬ zcn nt tp a d = 0) : ∃ v, v < 10 ^ d ∧ znv nt tp a d = nI v :=
  ⟨zvn tp a (zcn nt tp a d), Nat.lt_of_lt_of_le (zvn_lt (nt := nt) (tp := tp) (a := a) (zcn nt tp a d) (fun j hj => zcn_dt d hj)) (Nat.pow_le_pow_right (by decide) (zcn_le d)), by unfold znv; rw [if_neg h]⟩
theorem zwd_ok (h : (zwd nt tp a).1 = true) : ∃ p w v, p < 100 ∧ w < 10 ∧ v < 10 ∧ znv nt tp a 2 = nI p ∧ znv nt tp (zw1 nt tp a + 1) 1 = nI w ∧ znv nt tp (zw2 nt tp a + 1) 1 = nI v := by
  unfold zwd at h
  by_cases g0 : zcn nt tp a 2 = 0
  · rw [if_pos g0] at h; cases h
  rw [if_neg g0] at h
  by_cases k0 : ¬ (zw1 nt tp a < nt ∧ tp (zw1 nt tp a) = 44)
  · rw [if_pos k0] at h; cases h
  rw [if_neg k0] at h
  by_cases g1 : zcn nt tp (zw1 nt tp a + 1) 1 = 0
  · rw [if_pos g1] at h; cases h
  rw [if_neg g1] at h
  by_cases k1 : ¬ (zw2 nt tp a < nt ∧ tp (zw2 nt tp a) = 44)
  · rw [if_pos k1] at h; cases h
  rw [if_neg k1] at h
  by_cases g2 : zcn nt tp (zw2 nt tp a + 1) 1 = 0
  · rw [if_pos g2] at h; cases h
  obtain ⟨p, hp, ep⟩ := znv_val g0
  obtain ⟨w, hw, ew⟩ := znv_val g1
  obtain ⟨v, hv, ev⟩ := znv_val g2
  exact ⟨p, w, v, by omega, by omega, by omega, ep, ew, ev⟩
theorem zpd_ok (hb : ∀ i, i < nt → tp i < 256) (h : (zpd nt tp a).1 = true) : ∃ k g s, k ≤ 5 ∧ g < 10 ∧ s < 1000 ∧ zks nt tp a = nI k ∧ znv nt tp (a + 1) 1 = nI g ∧ znv nt tp (zq1 nt tp a) 3 = nI s ∧ zkm tp (zq2 nt tp a + 1) (zkn nt tp (zq2 nt tp a + 1) 9) < 1024 := by
  unfold zpd at h
  by_cases g0 : zks nt tp a < 0
  · rw [if_pos g0] at h; cases h
  rw [if_neg g0] at h
  by_cases g1 : zcn nt tp (a + 1) 1 = 0
  · rw [if_pos g1] at h; cases h
  rw [if_neg g1] at h
  by_cases g2 : zcn nt tp (zq1 nt tp a) 3 = 0
  · rw [if_pos g2] at h; cases h
  have hk : ∃ k, k ≤ 5 ∧ zks nt tp a = nI k := by
    unfold zks at g0 ⊢
    by_cases y : a < nt
    · rw [if_pos y] at g0 ⊢
      rcases zkd_n (tp a) (hb a y) with z | z
      · exact absurd z g0
      · exact z
    · rw [if_neg y] at g0
      exact absurd (by decide) g0
  obtain ⟨k, hk, ek⟩ := hk
  obtain ⟨g, hg, eg⟩ := znv_val g1
  obtain ⟨s, hs, es⟩ := znv_val g2
  exact ⟨k, g, s, hk, by omega, by omega, ek, eg, es, zkm_lt _ (fun j hj => zkn_d 9 hj)⟩
theorem zk17_lt (hm : zkm tp a c < 1024) : zk17 tp a c < 2048 ∧ (zk17 tp a c < 1024 ↔ zkt tp a c = false) ∧ (zkt tp a c = false → zk17 tp a c = zkm tp a c) := by
  unfold zk17
  cases hb : zkt tp a c with
  | false =>
    rw [if_neg (by decide), Nat.or_zero]
    exact ⟨by omega, ⟨fun _ => rfl, fun _ => hm⟩, fun _ => rfl⟩
  | true =>
    rw [if_pos rfl]
    have h1 : 1024 ≤ zkm tp a c ||| 1024 := Nat.right_le_or
    exact ⟨Nat.or_lt_two_pow (n := 11) (by omega) (by decide), ⟨fun z => by omega, fun z => by cases z⟩, fun z => by cases z⟩
end
/-! a word more, a player more -/
theorem zsi_nj {M : zM} {j k j' k' : Nat} {v : Int32} (h : j' ≠ j) : (zsi M j k v).1 j' k' = M.1 j' k' := zsi_ne (fun z => h z.1)
section
variable {T R X M : zM} {P : zP} {n np : Nat} {par wt ans ad kd kn hd su td : Nat → Nat}
theorem zx_appendW (hV : zVT n par wt ans) (hT : zTC T n par wt ans) {p w v : Nat} (hp : p < 100) (hw : w < 10) (hv : v < 10) (y : n < 24 ∧ p < n ∧ ans p = 0 ∧ w ≠ 0) : xX10_append T (nI p) (nI w) (nI v) = some (1, zsi (zsi (zsi (zsi T 1 n (nI p)) 2 n (nI w)) 3 n (nI v)) 0 13 (nI (n + 1))) := by
  obtain ⟨g1, g2, g3, g4⟩ := y
  have hn := hV.2.1
  have hn1 := hV.1
  have h13 := hT.1
  have c1 : ¬ nI n < (1 : Int32) := by rw [show (1 : Int32) = nI 1 from rfl, nI_ltI (by omega) (by decide)]; omega
  have c2 : ¬ (24 : Int32) ≤ nI n := by rw [zl24, nI_leI (by decide) (by omega)]; omega
  have c4 : ¬ nI w < (1 : Int32) := by rw [show (1 : Int32) = nI 1 from rfl, nI_ltI (by omega) (by decide)]; omega
  have c5 : ¬ (9 : Int32) < nI w := by rw [show (9 : Int32) = nI 9 from rfl, nI_ltI (by decide) (by omega)]; omega
  have c6 : nI v ≤ (9 : Int32) := by rw [show (9 : Int32) = nI 9 from rfl, nI_leI (by omega) (by decide)]; omega
  unfold xX10_append
  rw [h13, if_neg c1, if_neg c2, zx_has hn h13 g2, Option.bind_some, if_neg (show ¬ (1 : Int32) = 0 by decide), zx_isEnd hV hT g2, Option.bind_some, if_pos g3, if_pos rfl, if_neg c4, if_neg c5, if_neg (nI_pos (by omega)), if_pos c6]
  simp (disch := omega) only [zlet, nI_leI, nI_ltI, nI_eq, nI_eq0, nI_clamp, nI_neg0, nI_add, nI_1, false_or, or_false, if_pos, if_neg, Int32.add_zero, Nat.add_zero, zsi_nj, h13]
theorem zx_appendWn (hV : zVT n par wt ans) (hT : zTC T n par wt ans) {p w v : Nat} (hp : p < 100) (hw : w < 10) (hv : v < 10) (y : ¬ (n < 24 ∧ p < n ∧ ans p = 0 ∧ w ≠ 0)) : xX10_append T (nI p) (nI w) (nI v) = some (0, T) := by
  have hn := hV.2.1
  have hn1 := hV.1
  have h13 := hT.1
  have c1 : ¬ nI n < (1 : Int32) := by rw [show (1 : Int32) = nI 1 from rfl, nI_ltI (by omega) (by decide)]; omega
  unfold xX10_append
  rw [h13, if_neg c1]
  by_cases g1 : n < 24
  · have c2 : ¬ (24 : Int32) ≤ nI n := by rw [zl24, nI_leI (by decide) (by omega)]; omega
    rw [if_neg c2]
    by_cases g2 : p < n
    · rw [zx_has hn h13 g2, Option.bind_some, if_neg (show ¬ (1 : Int32) = 0 by decide), zx_isEnd hV hT g2, Option.bind_some]
      by_cases g3 : ans p = 0
      · have g4 : w = 0 := Classical.byContradiction fun g4 => y ⟨g1, g2, g3, g4⟩
        rw [if_pos g3, if_pos rfl, if_pos (by rw [g4]; decide)]
      · rw [if_neg g3, if_neg (show ¬ (1 : Int32) = 0 by decide)]
    · rw [zx_hasnt hn h13 (Or.inr (nI_le (by omega) (by omega))), Option.bind_some, if_pos rfl]
  · have c2 : (24 : Int32) ≤ nI n := by rw [zl24, nI_leI (by decide) (by omega)]; omega
    rw [if_pos c2]
theorem zx_comesWord (h12 : M.1 0 12 = nI n) (hn : n < 24) {p l : Nat} (hp : p < n) (h5 : M.1 5 p = nI l) {w v : Int32} : xX12_comesWord M (nI p) w v = some (zsi (zsi (zsi (zsi (zsi M 2 n (nI p)) 3 n w) 4 n v) 5 n (nI (l + 1))) 0 12 (nI (n + 1))) := by
  unfold xX12_comesWord
  simp (disch := omega) only [zlet, nI_leI, nI_ltI, nI_eq, nI_eq0, nI_clamp, nI_neg0, nI_add, nI_1, false_or, or_false, if_pos, if_neg, Int32.add_zero, Nat.add_zero, zsi_nj, h12, h5]
theorem zx_isWordn (hn : n < 100) (h12 : M.1 0 12 = nI n) {p : Nat} (hp : p < 100) : xX12_isWord M (nI p) = some (if p < n then 1 else 0) := by
  unfold xX12_isWord
  rw [if_neg (nI_pos (by omega)), h12]
  by_cases g : p < n
  · rw [if_neg (by rw [nI_leI (by omega) (by omega)]; omega), if_pos g]
  · rw [if_pos (nI_le (by omega) (by omega)), if_neg g]
theorem zx_comesW (hV : zVT n par wt ans) (hM : zRT M n par wt ans) (hL : zRL M n par) {z p w v : Nat} (hz : z < 32) (hp : p < 100) (hw : w < 10) (r18 : M.1 18 z = nI 119) (r14 : M.1 14 z = nI p) (r15 : M.1 15 z = nI w) (r16 : M.1 16 z = nI v) (y : n < 24 ∧ p < n ∧ ans p = 0 ∧ w ≠ 0) : xX12_comes M (nI z) = some (1, zsi (zsi (zsi (zsi (zsi M 2 n (nI p)) 3 n (nI w)) 4 n (nI v)) 5 n (nI (zwlen par p + 1))) 0 12 (nI (n + 1))) := by
  obtain ⟨g1, g2, g3, g4⟩ := y
  have hn := hV.2.1
  have h12 := hM.1
  have hcl : (nI z).toNatClampNeg = z := nI_clamp (by omega)
  unfold xX12_comes
  rw [if_neg (nI_in hz (by decide)), hcl, r18, if_pos (show nI 119 = (119 : Int32) from rfl), h12, r14, r15, r16, if_neg (by rw [zl24, nI_eq (by omega) (by decide)]; omega), zx_isWordn (by omega) h12 hp, Option.bind_some, if_pos g2, if_neg (show ¬ (1 : Int32) = 0 by decide), if_neg (nI_in (by omega) (by decide)), nI_clamp (by omega), (hM.2 p g2).2.2, if_pos (by rw [g3]; rfl), if_neg (by rw [nI_eq0 (by omega)]; exact g4), zx_comesWord h12 g1 g2 (hL p g2), Option.bind_some]
theorem zx_comesWn (hV : zVT n par wt ans) (hM : zRT M n par wt ans) {z p w : Nat} (hz : z < 32) (hp : p < 100) (hw : w < 10) (r18 : M.1 18 z = nI 119) (r14 : M.1 14 z = nI p) (r15 : M.1 15 z = nI w) (y : ¬ (n < 24 ∧ p < n ∧ ans p = 0 ∧ w ≠ 0)) : xX12_comes M (nI z) = some (0, M) := by
  have hn := hV.2.1
  have h12 := hM.1
  have hcl : (nI z).toNatClampNeg = z := nI_clamp (by omega)
  unfold xX12_comes
  rw [if_neg (nI_in hz (by decide)), hcl, r18, if_pos (show nI 119 = (119 : Int32) from rfl), h12, r14, r15]
  by_cases g1 : n < 24
  · rw [if_neg (by rw [zl24, nI_eq (by omega) (by decide)]; omega), zx_isWordn (by omega) h12 hp, Option.bind_some]
    by_cases g2 : p < n
    · have hap := zans_le hV g2
      rw [if_pos g2, if_neg (show ¬ (1 : Int32) = 0 by decide), if_neg (nI_in (by omega) (by decide)), nI_clamp (by omega), (hM.2 p g2).2.2]
      by_cases g3 : ans p = 0
      · have g4 : w = 0 := Classical.byContradiction fun g4 => y ⟨g1, g2, g3, g4⟩
        rw [if_pos (by rw [g3]; rfl), if_pos (by rw [g4]; rfl)]
      · rw [if_neg (by rw [nI_eq0 (by omega)]; exact g3)]
    · rw [if_neg g2, if_pos rfl]
  · rw [if_pos (by rw [zl24, nI_eq (by omega) (by decide)]; omega)]
theorem zx_ofKind {k : Nat} (hk : k ≤ 5) (g s m : Int32) : ∃ Q, xX5_ofKind P (nI k) g s m = some Q ∧ Q.1 = P.1 ∧ Q.2.2.2 = P.2.2.2 + 1 ∧ (∀ b, b ≠ P.2.2.2 → Q.2.1 b = P.2.1 b ∧ Q.2.2.1 b = P.2.2.1 b) ∧ Q.2.1 P.2.2.2 = k ∧ Q.2.2.1 P.2.2.2 0 = g ∧ Q.2.2.1 P.2.2.2 1 = s ∧ Q.2.2.1 P.2.2.2 2 = m ∧ (4 ≤ k → Q.2.2.1 P.2.2.2 3 = 0) := by
  have hc : k = 0 ∨ k = 1 ∨ k = 2 ∨ k = 3 ∨ k = 4 ∨ k = 5 := by omega
  unfold xX5_ofKind xX2_init_k0 xX7_init_k1 xX1_init_k2 xX4_init_k3 xX0_init_k5 xX9_init_k4 xX9_init_k5 xX7_init_k2 xX7_init_k3 xX5_init_k0 xX5_init_k1 xX5_init_k2 xX5_init_k3 xX5_init_k4 xX5_init_k5
  simp only [zlet, Option.bind_some]
  rcases hc with rfl | rfl | rfl | rfl | rfl | rfl
  · rw [if_pos (by decide)]
    refine ⟨_, rfl, rfl, rfl, fun b hb => ⟨?_, ?_⟩, ?_, ?_, ?_, ?_, fun h => absurd h (by decide)⟩ <;> simp [zpf, zpn, upd, *]
  · rw [if_neg (by decide), if_pos (by decide)]
    refine ⟨_, rfl, rfl, rfl, fun b hb => ⟨?_, ?_⟩, ?_, ?_, ?_, ?_, fun h => absurd h (by decide)⟩ <;> simp [zpf, zpn, upd, *]
  · rw [if_neg (by decide), if_neg (by decide), if_pos (by decide)]
    refine ⟨_, rfl, rfl, rfl, fun b hb => ⟨?_, ?_⟩, ?_, ?_, ?_, ?_, fun h => absurd h (by decide)⟩ <;> simp [zpf, zpn, upd, *]
  · rw [if_neg (by decide), if_neg (by decide), if_neg (by decide), if_pos (by decide)]
    refine ⟨_, rfl, rfl, rfl, fun b hb => ⟨?_, ?_⟩, ?_, ?_, ?_, ?_, fun h => absurd h (by decide)⟩ <;> simp [zpf, zpn, upd, *]
  · rw [if_neg (by decide), if_neg (by decide), if_neg (by decide), if_neg (by decide), if_pos (by decide)]
    refine ⟨_, rfl, rfl, rfl, fun b hb => ⟨?_, ?_⟩, ?_, ?_, ?_, ?_, fun h => ?_⟩ <;> simp [zpf, zpn, upd, *]
  · rw [if_neg (by decide), if_neg (by decide), if_neg (by decide), if_neg (by decide), if_neg (by decide)]
    refine ⟨_, rfl, rfl, rfl, fun b hb => ⟨?_, ?_⟩, ?_, ?_, ?_, ?_, fun h => ?_⟩ <;> simp [zpf, zpn, upd, *]
theorem zx_appendP (hn : np ≤ 4) (h2 : R.1 62 2 = nI np) (hwf : zPwf P) {k s : Nat} {g m : Int32} {Q : zP} (hQ : xX5_ofKind P (nI k) g (nI s) m = some Q) (y : np < 4 ∧ s ≤ 100) : xX6_append R P (nI k) g (nI s) m = some (1, zsi R 62 2 (nI (np + 1)), zpa Q np P.2.2.2) := by
  obtain ⟨g1, g2⟩ := y
  unfold xX6_append
  rw [h2, if_neg (nI_pos (by omega)), if_neg (by rw [zl4, nI_leI (by omega) (by omega)]; omega), if_neg (nI_pos (by omega)), if_pos (by rw [show (100 : Int32) = nI 100 from rfl, nI_leI (by omega) (by omega)]; omega)]
  unfold zwfg
  rw [if_pos hwf, hQ, Option.bind_some]
  simp (disch := omega) only [zlet, nI_leI, nI_ltI, nI_eq, nI_eq0, nI_clamp, nI_neg0, nI_add, nI_1, false_or, or_false, if_pos, if_neg, Int32.add_zero, Nat.add_zero]
theorem zx_appendPn (hn : np ≤ 4) (h2 : R.1 62 2 = nI np) {k s : Nat} {g m : Int32} (hs : s < 1000) (y : ¬ (np < 4 ∧ s ≤ 100)) : xX6_append R P (nI k) g (nI s) m = some (0, R, P) := by
  unfold xX6_append
  rw [h2, if_neg (nI_pos (by omega))]
  by_cases g1 : np < 4
  · rw [if_neg (by rw [zl4, nI_leI (by omega) (by omega)]; omega), if_neg (nI_pos (by omega)), if_neg (by rw [show (100 : Int32) = nI 100 from rfl, nI_leI (by omega) (by omega)]; omega)]
  · rw [if_pos (by rw [zl4, nI_leI (by omega) (by omega)]; omega)]
theorem zx_comesP (h13 : M.1 0 13 = nI np) {z k g s t : Nat} (hz : z < 32) (ht : t < 2048) (r18 : M.1 18 z = nI 112) (r14 : M.1 14 z = nI g) (r15 : M.1 15 z = nI s) (r16 : M.1 16 z = nI k) (r17 : M.1 17 z = nI t) (y : np < 4 ∧ s ≤ 100 ∧ t < 1024) : xX12_comes M (nI z) = some (1, zsi (zsi (zsi (zsi (zsi (zsi M 6 np (nI k)) 8 np (nI g)) 9 np (nI s)) 7 np (nI t)) 10 np 0) 0 13 (nI (np + 1))) := by
  obtain ⟨g1, g2, g3⟩ := y
  have hcl : (nI z).toNatClampNeg = z := nI_clamp (by omega)
  unfold xX12_comes
  rw [if_neg (nI_in hz (by decide)), hcl, r18, if_neg (show ¬ nI 112 = (119 : Int32) by decide), h13, r15, r17, if_neg (by rw [zl4, nI_eq (by omega) (by decide)]; omega), if_neg (by rw [show (100 : Int32) = nI 100 from rfl, nI_ltI (by omega) (by omega)]; omega), if_pos (by rw [show (1024 : Int32) = nI 1024 from rfl, nI_ltI (by omega) (by omega)]; omega)]
  simp (disch := omega) only [zlet, nI_leI, nI_ltI, nI_eq, nI_eq0, nI_clamp, nI_neg0, nI_add, nI_1, false_or, or_false, if_pos, if_neg, Int32.add_zero, Nat.add_zero, zsi_nj, h13, r14, r15, r16, r17]
theorem zx_comesPn (hn : np ≤ 4) (h13 : M.1 0 13 = nI np) {z s t : Nat} (hz : z < 32) (hs : s < 1000) (ht : t < 2048) (r18 : M.1 18 z = nI 112) (r15 : M.1 15 z = nI s) (r17 : M.1 17 z = nI t) (y : ¬ (np < 4 ∧ s ≤ 100 ∧ t < 1024)) : xX12_comes M (nI z) = some (0, M) := by
  have hcl : (nI z).toNatClampNeg = z := nI_clamp (by omega)
  unfold xX12_comes
  rw [if_neg (nI_in hz (by decide)), hcl, r18, if_neg (show ¬ nI 112 = (119 : Int32) by decide), h13, r15, r17]
  by_cases g1 : np < 4
  · rw [if_neg (by rw [zl4, nI_eq (by omega) (by decide)]; omega)]
    by_cases g2 : s ≤ 100
    · rw [if_neg (by rw [show (100 : Int32) = nI 100 from rfl, nI_ltI (by omega) (by omega)]; omega), if_neg (by rw [show (1024 : Int32) = nI 1024 from rfl, nI_ltI (by omega) (by omega)]; omega)]
    · rw [if_pos (by rw [show (100 : Int32) = nI 100 from rfl, nI_ltI (by omega) (by omega)]; omega)]
  · rw [if_pos (by rw [zl4, nI_eq (by omega) (by decide)]; omega)]
end
