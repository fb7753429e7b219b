/-! an evening: the draws -/
section
variable {T T' R R' X X' F F' B B' : zM} {P P' : zP} {M M' : zM} {n np nf nt nr : Nat} {par wt ans ad kd kn hd su td pt fc tp rw : Nat → Nat}
def zSw (par wt : Nat → Nat) (w c : Nat) : Nat := zsum (fun c => if 0 < c ∧ par c = w then wt c else 0) c
theorem zSw_s {w c : Nat} : zSw par wt w (c + 1) = zSw par wt w c + (if 0 < c ∧ par c = w then wt c else 0) := rfl
theorem zSw_mono {w u : Nat} : ∀ c, u ≤ c → zSw par wt w u ≤ zSw par wt w c
  | 0, h => by
    obtain rfl : u = 0 := by omega
    exact Nat.le_refl _
  | c + 1, h => by
    by_cases e : u = c + 1
    · rw [e]; exact Nat.le_refl _
    · rw [zSw_s]
      exact Nat.le_trans (zSw_mono c (by omega)) (Nat.le_add_right _ _)
theorem zSw_pick {w z : Nat} : ∀ c, z < zSw par wt w c → ∃ v, v < c ∧ 0 < v ∧ par v = w ∧ zSw par wt w v ≤ z ∧ z < zSw par wt w v + wt v
  | 0, h => absurd h (Nat.not_lt_zero _)
  | c + 1, h => by
    by_cases g : z < zSw par wt w c
    · obtain ⟨v, h1, h2⟩ := zSw_pick c g
      exact ⟨v, by omega, h2⟩
    · rw [zSw_s] at h
      by_cases q : 0 < c ∧ par c = w
      · rw [if_pos q] at h
        exact ⟨c, by omega, q.1, q.2, by omega, h⟩
      · rw [if_neg q] at h
        exact absurd h g
theorem zSw_le (hV : zVT n par wt ans) {w v : Nat} (hv : v ≤ n) : zSw par wt w v ≤ 9 * v := by
  refine zsum_le (fun i hi => ?_)
  split
  · rename_i g
    exact (hV.2.2.1 i g.1 (by omega)).2.2.1
  · omega
theorem zSw_0 (hV : zVT n par wt ans) {w : Nat} (hw : w < n) : zSw par wt w (w + 1) = 0 := zsum_zero (fun i hi => if_neg (fun g => by have := (hV.2.2.1 i g.1 (by omega)).1; omega))
theorem zx_nextBy (hV : zVT n par wt ans) (hT : zTC T n par wt ans) {w v z : Nat} (hv : v < n) (h0 : 0 < v) (hp : par v = w) (h1 : zSw par wt w v ≤ z) (h2 : z < zSw par wt w v + wt v) : xX10_nextBy T (nI w) (nI z) = some (nI v) := by
  have hn := hV.2.1
  have hpv := hV.2.2.1 v h0 hv
  have b1 := zSw_le hV (w := w) (v := v) (by omega)
  have it : x_it (fun a9 => xX10_nextBy_L5 T (nI w) (nI z) a9.1 a9.2) zFU ((0 : Int32), (1 : Int32)) = some (.inl (nI v)) := by
    refine zfor (fun c => (nI (zSw par wt w c), nI c)) 1 v h0 (by omega) ?_ ?_ ?_
    · rw [show zSw par wt w 1 = 0 from by rw [zSw_s, if_neg (by omega)]; rfl]
      rfl
    · intro c g1 g2
      obtain ⟨t1, t2, t3⟩ := hT.2 c (by omega)
      have m := zSw_mono (par := par) (wt := wt) (w := w) v (show c + 1 ≤ v by omega)
      have b2 := zSw_le hV (w := w) (v := c) (by omega)
      have hpc := hV.2.2.1 c (by omega) (by omega)
      try dsimp only
      unfold xX10_nextBy_L5
      simp only [zlet]
      rw [if_neg (by rw [show (24 : Int32) = nI 24 from rfl, nI_leI (by decide) (by omega)]; omega), hT.1, if_neg (by rw [nI_leI (by omega) (by omega)]; omega), if_neg (nI_in (by omega) (by decide)), nI_clamp (by omega), t1, t2]
      rw [zSw_s] at m ⊢
      by_cases q : par c = w
      · rw [if_pos (show 0 < c ∧ par c = w from ⟨by omega, q⟩)] at m ⊢
        rw [if_pos (by rw [q]), nI_add, if_pos (nI_le (by omega) (by omega)), nI_1]
      · rw [if_neg (show ¬ (0 < c ∧ par c = w) from fun g => q g.2), Nat.add_zero, if_neg (by rw [nI_eq (by omega) (by omega)]; exact q), nI_1]
    · obtain ⟨t1, t2, t3⟩ := hT.2 v hv
      try dsimp only
      unfold xX10_nextBy_L5
      simp only [zlet]
      rw [if_neg (by rw [show (24 : Int32) = nI 24 from rfl, nI_leI (by decide) (by omega)]; omega), hT.1, if_neg (by rw [nI_leI (by omega) (by omega)]; omega), if_neg (nI_in (by omega) (by decide)), nI_clamp (by omega), t1, t2, if_pos (by rw [hp]), nI_add, if_neg (by rw [nI_leI (by omega) (by omega)]; omega)]
  unfold xX10_nextBy
  rw [it, Option.bind_some]
  rfl
theorem zx_drawL (hV : zVT n par wt ans) (hT : zRT M n par wt ans) {w v z : Nat} (hw : w < n) (hv : v < n) (h0 : 0 < v) (hp : par v = w) (h1 : zSw par wt w v ≤ z) (h2 : z < zSw par wt w v + wt v) : x_it (fun a9 => xX12_drawn_L50_L2 M (nI w) a9.1 a9.2) zFU (nI z, nI w + 1) = some (nI v) := by
  have hn := hV.2.1
  have hpv := hV.2.2.1 v h0 hv
  have b1 := zSw_le hV (w := w) (v := v) (by omega)
  refine zfor (fun c => (nI (z - zSw par wt w c), nI c)) (w + 1) v (by omega) (by omega) ?_ ?_ ?_
  · rw [zSw_0 hV hw, nI_1]
    rfl
  · intro c g1 g2
    obtain ⟨t1, t2, t3⟩ := hT.2 c (by omega)
    have m := zSw_mono (par := par) (wt := wt) (w := w) v (show c + 1 ≤ v by omega)
    have hpc := hV.2.2.1 c (by omega) (by omega)
    try dsimp only
    unfold xX12_drawn_L50_L2
    simp only [zlet]
    rw [if_neg (nI_in (by omega) (by decide)), nI_clamp (by omega), t1, t2]
    rw [zSw_s] at m ⊢
    by_cases q : par c = w
    · rw [if_pos (show 0 < c ∧ par c = w from ⟨by omega, q⟩)] at m ⊢
      have e : nI (par c) = nI w := by rw [q]
      rw [if_pos e, if_pos e, if_neg (by rw [nI_ltI (by omega) (by omega)]; omega), nI_sub (by omega), Nat.sub_sub, nI_1]
    · have e : ¬ nI (par c) = nI w := by rw [nI_eq (by omega) (by omega)]; exact q
      rw [if_neg (show ¬ (0 < c ∧ par c = w) from fun g => q g.2), Nat.add_zero, if_neg e, if_neg e, Int32.sub_zero, nI_1]
  · obtain ⟨t1, t2, t3⟩ := hT.2 v hv
    try dsimp only
    unfold xX12_drawn_L50_L2
    rw [if_neg (nI_in (by omega) (by decide)), nI_clamp (by omega), t1, t2, if_pos (by rw [hp]), if_pos (nI_lt (by omega) (by omega))]
theorem zseed (s : Int32) {m : Nat} (h0 : 0 < m) (hm : m < 2 ^ 31) : ∃ z, z < m ∧ ((s &&& (2147483647 : Int32)) / (256 : Int32)) - ((s &&& (2147483647 : Int32)) / (256 : Int32)) / nI m * nI m = nI z := by
  obtain ⟨x, hx, rfl⟩ := zI_nat s
  refine ⟨x % 2 ^ 31 / 256 % m, Nat.mod_lt _ h0, ?_⟩
  have e : nI x &&& (2147483647 : Int32) = nI (x % 2 ^ 31) := by
    rw [show (2147483647 : Int32) = nI (2 ^ 31 - 1) by decide, zand, Nat.and_two_pow_sub_one_eq_mod]
  have l1 := Nat.mod_lt x (show 0 < 2 ^ 31 by decide)
  rw [e, show (256 : Int32) = nI 256 from rfl, nI_div l1 (by decide)]
  have l2 : x % 2 ^ 31 / 256 < 2 ^ 31 := Nat.lt_of_le_of_lt (Nat.div_le_self _ _) l1
  generalize x % 2 ^ 31 / 256 = y at *
  rw [nI_div l2 hm, nI_mul, nI_sub (Nat.div_mul_le_self y m), Nat.mod_eq_sub_div_mul]
/-- a word without an answer has words behind it -/
theorem znx_end (hV : zVT n par wt ans) {w : Nat} (hw : w < n) (ha : ans w ≠ 0) : znx n par w = 0 := zsum_zero (fun i hi => if_neg (fun g => ha (by have := (hV.2.2.1 i g.1 hi).2.2.2.2; rw [g.2] at this; exact this)))
theorem zSw_pos (hV : zVT n par wt ans) {w : Nat} : ∀ c, c ≤ n → zsum (fun c => if 0 < c ∧ par c = w then 1 else 0) c ≠ 0 → 0 < zSw par wt w c
  | 0, _, h => absurd rfl h
  | c + 1, hc, h => by
    have e : zsum (fun c => if 0 < c ∧ par c = w then 1 else 0) (c + 1) = zsum (fun c => if 0 < c ∧ par c = w then 1 else 0) c + (if 0 < c ∧ par c = w then 1 else 0) := rfl
    rw [e] at h
    rw [zSw_s]
    by_cases q : 0 < c ∧ par c = w
    · rw [if_pos q]
      have := (hV.2.2.1 c q.1 (by omega)).2.1
      omega
    · rw [if_neg q] at h ⊢
      have := zSw_pos hV c (by omega) (by omega)
      omega
def zDr (R M R' M' : zM) : Prop := (∀ j k, ¬ (j = 62 ∧ k = 16) → R'.1 j k = R.1 j k) ∧ R'.2 = R.2 ∧ (∀ j k, ¬ (j = 0 ∧ k = 45) → M'.1 j k = M.1 j k) ∧ M'.2 = M.2 ∧ R'.1 62 16 = M'.1 0 45
theorem zRE_d {cm sr : Nat → Nat} {gu : Nat → Nat → Nat} (h : zRE M n par wt ans np hd cm sr pt gu) (f : ∀ j k, ¬ (j = 0 ∧ k = 45) → M'.1 j k = M.1 j k) : zRE M' n par wt ans np hd cm sr pt gu := by
  obtain ⟨⟨h1, h2⟩, h3, h4, h5, h6⟩ := h
  refine ⟨⟨(f _ _ (by decide)).trans h1, fun i hi => ?_⟩, fun i hi => (f _ _ (by omega)).trans (h3 i hi), fun k hk => (f _ _ (by omega)).trans (h4 k hk), (f _ _ (by decide)).trans h5, fun p hp => ?_⟩
  · rw [f _ _ (by omega), f _ _ (by omega), f _ _ (by omega)]
    exact h2 i hi
  · rw [f _ _ (by omega), f _ _ (by omega), f _ _ (by omega)]
    exact ⟨(h6 p hp).1, (h6 p hp).2.1, (h6 p hp).2.2.1, fun w hw => (f _ _ (by omega)).trans ((h6 p hp).2.2.2 w hw)⟩
theorem zCE_d {cm sr : Nat → Nat} (h : zCE T R P n par wt ans np ad hd kn cm sr pt) (f : ∀ j k, ¬ (j = 62 ∧ k = 16) → R'.1 j k = R.1 j k) : zCE T R' P n par wt ans np ad hd kn cm sr pt := by
  obtain ⟨h1, h2, h3, h4⟩ := h
  refine ⟨h1, fun k hk => (f _ _ (by omega)).trans (h2 k hk), (f _ _ (by omega)).trans h3, fun p hp => ?_⟩
  rw [f _ _ (by omega), f _ _ (by omega)]
  exact h4 p hp
theorem zx_draws (hT : zIT T M n par wt ans) (hW : zWh n par ans) {R M' : zM} (h0 : R.1 62 16 = M'.1 0 45) (hM : zRT M' n par wt ans) : ∃ a b e, xX6_drawEnd T R = some a ∧ xX12_drawn M' = some b ∧ a.1 = nI e ∧ b.1 = nI e ∧ 0 < e ∧ e < n ∧ zDr R M' a.2 b.2 := by
  have hV := hT.1
  have hn := hV.2.1
  have key : ∃ a b, x_it (fun a9 => xX6_drawEnd_L4 T a9.1 a9.2.1 a9.2.2) zFU (R, (0 : Int32), (0 : Int32)) = some a ∧ x_it (fun a9 => xX12_drawn_L2 a9.1 a9.2) zFU (M', (0 : Int32)) = some b ∧ ∃ e, a.2 = nI e ∧ b.2 = nI e ∧ 0 < e ∧ e < n ∧ zDr R M' a.1 b.1 := by
    refine zlock (α := zM × Int32 × Int32) (γ := zM × Int32) (fun k a c => ∃ (w st : Nat) (A C : zM), w < n ∧ st ≤ w ∧ k = n - w ∧ a = (A, nI w, nI st) ∧ c = (C, nI w) ∧ zDr R M' A C) ?_ zFU n (R, (0 : Int32), (0 : Int32)) (M', (0 : Int32)) ⟨0, 0, R, M', hV.1, by decide, rfl, rfl, rfl, fun _ _ _ => rfl, rfl, fun _ _ _ => rfl, rfl, h0⟩ (Nat.lt_of_le_of_lt hn (by decide))
    rintro k a c ⟨w, st, A, C, hw, hst, rfl, rfl, rfl, d1, d2, d3, d4, d5⟩
    have hz := znx_lt (n := n) (par := par) (w := w) hn
    have c4 : C.1 4 w = nI (ans w) := by rw [d3 _ _ (by omega)]; exact (hM.2 w hw).2.2
    have ha := zans_le hV hw
    try dsimp only
    unfold xX6_drawEnd_L4 xX12_drawn_L2
    simp only [zlet]
    rw [if_neg (show ¬ (24 : Int32) ≤ nI st by rw [show (24 : Int32) = nI 24 from rfl, nI_leI (by decide) (by omega)]; omega), zx_nextsOf hT hw, Option.bind_some, if_neg (nI_in (show w < 24 by omega) (by decide)), nI_clamp (show w < 2 ^ 31 by omega), c4]
    by_cases q : ans w = 0
    · have hx : znx n par w ≠ 0 := hW w hw q
      have hs := zSw_pos hV n (Nat.le_refl _) hx
      have hs2 := zSw_le hV (w := w) (Nat.le_refl n)
      have hs3 : zsw n par wt w = zSw par wt w n := rfl
      obtain ⟨z, hz1, hz2⟩ := zseed (A.1 62 16 * (1664525 : Int32) + (1013904223 : Int32)) hs (show zSw par wt w n < 2 ^ 31 by omega)
      obtain ⟨v, k1, k2, k3, k4, k5⟩ := zSw_pick n hz1
      have hC : zRT (zsi C 0 45 (C.1 0 45 * (1664525 : Int32) + (1013904223 : Int32))) n par wt ans := by
        refine ⟨?_, fun i hi => ?_⟩
        · rw [zsi_ne (by decide), d3 _ _ (by decide)]
          exact hM.1
        · rw [zsi_ne (by omega), zsi_ne (by omega), zsi_ne (by omega), d3 _ _ (by omega), d3 _ _ (by omega), d3 _ _ (by omega)]
          exact hM.2 i hi
      have hdr : xX6_draw A (nI (zSw par wt w n)) = some (nI z, zsi A 62 16 (A.1 62 16 * (1664525 : Int32) + (1013904223 : Int32))) := by
        unfold xX6_draw
        simp only [zlet]
        rw [if_pos (by rw [← nI_0]; exact nI_lt hs (by omega)), if_neg (by rw [nI_eq0 (by omega)]; omega), zsi_y ⟨rfl, rfl⟩, hz2]
      have hsum := zx_sumOf hV hC hw
      rw [hs3] at hsum
      have hpv := hV.2.2.1 v k2 k1
      rw [if_neg (by rw [nI_le0 (by omega)]; exact hx), zx_nextSumOf hT hw, Option.bind_some, hs3, hdr, Option.bind_some, zx_nextBy hV hT.2.1.1 k1 k2 k3 k4 k5, Option.bind_some, if_pos (by rw [q]; rfl), hsum, Option.bind_some, if_neg (by rw [nI_eq0 (by omega)]; omega), zsi_y ⟨rfl, rfl⟩, ← d5, hz2, d5, zx_drawL hV hC hw k1 k2 k3 k4 k5, Option.bind_some]
      refine Or.inl ⟨_, _, n - v, rfl, rfl, by omega, v, st + 1, zsi A 62 16 (C.1 0 45 * (1664525 : Int32) + (1013904223 : Int32)), zsi C 0 45 (C.1 0 45 * (1664525 : Int32) + (1013904223 : Int32)), k1, by omega, rfl, by rw [nI_1], rfl, fun j k g => ?_, d2, fun j k g => ?_, d4, ?_⟩
      · rw [zsi_ne g]; exact d1 j k g
      · rw [zsi_ne g]; exact d3 j k g
      · rw [zsi_y ⟨rfl, rfl⟩, zsi_y ⟨rfl, rfl⟩]
    · rw [znx_end hV hw q, if_pos (show nI 0 ≤ 0 by decide), if_neg (by rw [nI_eq0 (by omega)]; exact q)]
      exact Or.inr ⟨_, _, rfl, rfl, w, rfl, rfl, Nat.pos_of_ne_zero (fun z => q (by rw [z]; exact hV.2.2.2)), hw, d1, d2, d3, d4, d5⟩
  obtain ⟨a, b, ha, hb, e, e1, e2, e3, e4, e5⟩ := key
  refine ⟨(a.2, a.1), (b.2, b.1), e, ?_, ?_, e1, e2, e3, e4, e5⟩
  · unfold xX6_drawEnd
    rw [ha]; rfl
  · unfold xX12_drawn
    rw [hb]; rfl
end
