/-! a quiz: a statement is taken, on both sides -/
def zag (n : Nat) (f g : Nat → Nat) : Prop := ∀ i, i < n → g i = f i
theorem zag_r {n : Nat} {f : Nat → Nat} : zag n f f := fun _ _ => rfl
theorem zag_up {n m v : Nat} {f g : Nat → Nat} (h : zag n f g) (hm : n ≤ m) : zag n f (zup g m v) := fun i hi => (zup_n (by omega)).trans (h i hi)
section
variable {T R X M T0 R0 M0 : zM} {P : zP} {o0 n0 np0 n np n' : Nat} {par wt ans par' wt' ans' ad kd kn hd su td par0 wt0 ans0 ad0 kd0 kn0 hd0 su0 td0 : Nat → Nat}
theorem zwl_ext (hV : zVT n par wt ans) (hV' : zVT n' par' wt' ans') (hn : n ≤ n') (he : zag n par par') : ∀ k i, i ≤ k → i < n → zwlen par' i = zwlen par i
  | 0, i, h1, _ => by
    obtain rfl : i = 0 := by omega
    rw [zlen_0, zlen_0]
  | k + 1, i, h1, h2 => by
    rcases Nat.eq_zero_or_pos i with g | g
    · rw [g, zlen_0, zlen_0]
    · have hp := (hV.2.2.1 i g h2).1
      rw [zlen_s hV' g (by omega), zlen_s hV g h2, he i h2, zwl_ext hV hV' hn he k (par i) (by omega) (by omega)]
theorem zVT_up (hV : zVT n par wt ans) (hn : n < 24) {p w v : Nat} (hp : p < n) (ha : ans p = 0) (hw : 0 < w) (hw2 : w ≤ 9) (hv : v ≤ 9) : zVT (n + 1) (zup par n p) (zup wt n w) (zup ans n v) := by
  have hn1 := hV.1
  refine ⟨by omega, by omega, fun i h0 hi => ?_, ?_⟩
  · by_cases g : i = n
    · rw [g, zup_s, zup_s, zup_s, zup_n (show p ≠ n by omega)]
      exact ⟨hp, hw, hw2, hv, ha⟩
    · have h := hV.2.2.1 i h0 (by omega)
      rw [zup_n g, zup_n g, zup_n g, zup_n (show par i ≠ n by omega)]
      exact h
  · rw [zup_n (show 0 ≠ n by omega)]
    exact hV.2.2.2
theorem zTC_up (hT : zTC T n par wt ans) {p w v : Nat} : zTC (zsi (zsi (zsi (zsi T 1 n (nI p)) 2 n (nI w)) 3 n (nI v)) 0 13 (nI (n + 1))) (n + 1) (zup par n p) (zup wt n w) (zup ans n v) := by
  refine ⟨zsi_y ⟨rfl, rfl⟩, fun i hi => ?_⟩
  by_cases g : i = n
  · rw [g, zup_s, zup_s, zup_s]
    refine ⟨?_, ?_, ?_⟩
    · rw [zsi_ne (by omega), zsi_ne (by omega), zsi_ne (by omega), zsi_y ⟨rfl, rfl⟩]
    · rw [zsi_ne (by omega), zsi_ne (by omega), zsi_y ⟨rfl, rfl⟩]
    · rw [zsi_ne (by omega), zsi_y ⟨rfl, rfl⟩]
  · obtain ⟨t1, t2, t3⟩ := hT.2 i (by omega)
    rw [zup_n g, zup_n g, zup_n g]
    refine ⟨?_, ?_, ?_⟩
    · rw [zsi_ne (by omega), zsi_ne (by omega), zsi_ne (by omega), zsi_ne (by omega)]; exact t1
    · rw [zsi_ne (by omega), zsi_ne (by omega), zsi_ne (by omega), zsi_ne (by omega)]; exact t2
    · rw [zsi_ne (by omega), zsi_ne (by omega), zsi_ne (by omega), zsi_ne (by omega)]; exact t3
theorem zRT_up (hM : zRT M n par wt ans) {p w v : Nat} {l : Int32} : zRT (zsi (zsi (zsi (zsi (zsi M 2 n (nI p)) 3 n (nI w)) 4 n (nI v)) 5 n l) 0 12 (nI (n + 1))) (n + 1) (zup par n p) (zup wt n w) (zup ans n v) := by
  refine ⟨zsi_y ⟨rfl, rfl⟩, fun i hi => ?_⟩
  by_cases g : i = n
  · rw [g, zup_s, zup_s, zup_s]
    refine ⟨?_, ?_, ?_⟩
    · rw [zsi_ne (by omega), zsi_ne (by omega), zsi_ne (by omega), zsi_ne (by omega), zsi_y ⟨rfl, rfl⟩]
    · rw [zsi_ne (by omega), zsi_ne (by omega), zsi_ne (by omega), zsi_y ⟨rfl, rfl⟩]
    · rw [zsi_ne (by omega), zsi_ne (by omega), zsi_y ⟨rfl, rfl⟩]
  · obtain ⟨t1, t2, t3⟩ := hM.2 i (by omega)
    rw [zup_n g, zup_n g, zup_n g]
    refine ⟨?_, ?_, ?_⟩
    · rw [zsi_ne (by omega), zsi_ne (by omega), zsi_ne (by omega), zsi_ne (by omega), zsi_ne (by omega)]; exact t1
    · rw [zsi_ne (by omega), zsi_ne (by omega), zsi_ne (by omega), zsi_ne (by omega), zsi_ne (by omega)]; exact t2
    · rw [zsi_ne (by omega), zsi_ne (by omega), zsi_ne (by omega), zsi_ne (by omega), zsi_ne (by omega)]; exact t3
theorem zRL_up (hV : zVT n par wt ans) (hL : zRL M n par) {p : Nat} (hV' : zVT (n + 1) (zup par n p) wt' ans') (hp : p < n) {x1 x2 x3 : Int32} : zRL (zsi (zsi (zsi (zsi (zsi M 2 n x1) 3 n x2) 4 n x3) 5 n (nI (zwlen par p + 1))) 0 12 (nI (n + 1))) (n + 1) (zup par n p) := by
  have he : ∀ i, i < n → zwlen (zup par n p) i = zwlen par i := fun i hi => zwl_ext hV hV' (by omega) (zag_up zag_r (Nat.le_refl n)) i i (Nat.le_refl i) hi
  intro i hi
  by_cases g : i = n
  · rw [g, zlen_s hV' (by have := hV.1; omega) (by omega), zup_s, he p hp, zsi_ne (by omega), zsi_y ⟨rfl, rfl⟩]
  · rw [zsi_ne (by omega), zsi_ne (by omega), zsi_ne (by omega), zsi_ne (by omega), zsi_ne (by omega), he i (by omega)]
    exact hL i (by omega)
/-- a player more -/
theorem zIP_up (hP : zIP R P M np ad kd kn hd su td) (hwf : zPwf P) (hn : np < 4) {k g s m : Nat} (hk : k ≤ 5) (hg : g < 10) (hs : s ≤ 100) (hm : m < 1024) {Q : zP} (q1 : Q.1 = P.1) (q2 : Q.2.2.2 = P.2.2.2 + 1) (q3 : ∀ b, b ≠ P.2.2.2 → Q.2.1 b = P.2.1 b ∧ Q.2.2.1 b = P.2.2.1 b) (q4 : Q.2.1 P.2.2.2 = k) (q5 : Q.2.2.1 P.2.2.2 0 = nI g) (q6 : Q.2.2.1 P.2.2.2 1 = nI s) (q7 : Q.2.2.1 P.2.2.2 2 = nI m) (q8 : 4 ≤ k → Q.2.2.1 P.2.2.2 3 = 0) : zIP (zsi R 62 2 (nI (np + 1))) (zpa Q np P.2.2.2) (zsi (zsi (zsi (zsi (zsi (zsi M 6 np (nI k)) 8 np (nI g)) 9 np (nI s)) 7 np (nI m)) 10 np 0) 0 13 (nI (np + 1))) (np + 1) (zup ad np P.2.2.2) (zup kd np k) (zup kn np m) (zup hd np g) (zup su np s) (zup td np 0) ∧ zPwf (zpa Q np P.2.2.2) := by
  obtain ⟨h1, h2, h3, h4⟩ := hP
  have p1 : ∀ i, (zpa Q np P.2.2.2).1 i = if i = np then some P.2.2.2 else P.1 i := fun i => by
    show (if i = np then some P.2.2.2 else Q.1 i) = _
    rw [q1]
  have p2 : (zpa Q np P.2.2.2).2 = Q.2 := rfl
  refine ⟨⟨⟨by omega, fun p hp => ?_⟩, zsi_y ⟨rfl, rfl⟩, fun p hp => ?_, zsi_y ⟨rfl, rfl⟩, fun p hp => ?_⟩, fun i b hb => ?_⟩
  · by_cases e : p = np
    · rw [e, zup_s, zup_s, zup_s, zup_s, zup_s]
      exact ⟨hk, hm, by omega, hs, by decide, fun _ => rfl⟩
    · rw [zup_n e, zup_n e, zup_n e, zup_n e, zup_n e]
      exact h1.2 p (by omega)
  · by_cases e : p = np
    · rw [e, p1, p2, zup_s, zup_s, zup_s, zup_s, zup_s, zup_s, if_pos rfl]
      refine ⟨rfl, by omega, q4, q5, q6, q7, fun y => q8 y, fun q hq he => ?_⟩
      by_cases e2 : q = np
      · exact e2.symm
      · rw [zup_n e2] at he
        have := (h3 q (by omega)).2.1
        omega
    · obtain ⟨c1, c2, c3, c4, c5, c6, c7, c8⟩ := h3 p (by omega)
      have ne : ad p ≠ P.2.2.2 := by omega
      obtain ⟨d1, d2⟩ := q3 (ad p) ne
      rw [p1, p2, zup_n e, zup_n e, zup_n e, zup_n e, zup_n e, zup_n e, if_neg e, d1, d2]
      refine ⟨c1, by omega, c3, c4, c5, c6, c7, fun q hq he => ?_⟩
      by_cases e2 : q = np
      · rw [e2, zup_s] at he
        exact absurd he ne
      · rw [zup_n e2] at he
        exact c8 q (by omega) he
  · by_cases e : p = np
    · rw [e, zup_s, zup_s, zup_s, zup_s, zup_s]
      refine ⟨?_, ?_, ?_, ?_, ?_⟩
      · rw [zsi_ne (by omega), zsi_ne (by omega), zsi_ne (by omega), zsi_ne (by omega), zsi_ne (by omega), zsi_y ⟨rfl, rfl⟩]
      · rw [zsi_ne (by omega), zsi_ne (by omega), zsi_y ⟨rfl, rfl⟩]
      · rw [zsi_ne (by omega), zsi_ne (by omega), zsi_ne (by omega), zsi_ne (by omega), zsi_y ⟨rfl, rfl⟩]
      · rw [zsi_ne (by omega), zsi_ne (by omega), zsi_ne (by omega), zsi_y ⟨rfl, rfl⟩]
      · exact (zsi_ne (by omega)).trans (zsi_y ⟨rfl, rfl⟩)
    · have h := h4.2 p (by omega)
      have cell : ∀ j, 6 ≤ j → (zsi (zsi (zsi (zsi (zsi (zsi M 6 np (nI k)) 8 np (nI g)) 9 np (nI s)) 7 np (nI m)) 10 np 0) 0 13 (nI (np + 1))).1 j p = M.1 j p := fun j hj => by
        rw [zsi_ne (by omega), zsi_ne (by omega), zsi_ne (by omega), zsi_ne (by omega), zsi_ne (by omega), zsi_ne (by omega)]
      rw [cell 6 (by decide), cell 7 (by decide), cell 8 (by decide), cell 9 (by decide), cell 10 (by decide), zup_n e, zup_n e, zup_n e, zup_n e, zup_n e]
      exact h
  · rw [p1] at hb
    rw [p2, q2]
    by_cases e : i = np
    · rw [if_pos e] at hb
      have := Option.some.inj hb
      omega
    · rw [if_neg e] at hb
      have := hwf i b hb
      omega
/-- the second pass: what has come so far -/
def zS2 (T0 R0 M0 : zM) (o0 n0 np0 : Nat) (par0 wt0 ans0 ad0 kd0 kn0 hd0 su0 td0 : Nat → Nat) (T R : zM) (P : zP) (M : zM) : Prop := ∃ (n np : Nat) (par wt ans ad kd kn hd su td : Nat → Nat), (zVT n par wt ans ∧ zTC T n par wt ans ∧ zRT M n par wt ans ∧ zRL M n par) ∧ (zIP R P M np ad kd kn hd su td ∧ zPwf P) ∧ (n0 ≤ n ∧ np0 ≤ np ∧ o0 ≤ P.2.2.2) ∧ (zag n0 par0 par ∧ zag n0 wt0 wt ∧ zag n0 ans0 ans) ∧ (zag np0 ad0 ad ∧ zag np0 kd0 kd ∧ zag np0 kn0 kn ∧ zag np0 hd0 hd ∧ zag np0 su0 su ∧ zag np0 td0 td) ∧ (∀ a b, ¬ (a = 0 ∧ b = 13) → ¬ (1 ≤ a ∧ a ≤ 3) → T.1 a b = T0.1 a b) ∧ T.2 = T0.2 ∧ (∀ a b, ¬ (a = 62 ∧ b = 2) → R.1 a b = R0.1 a b) ∧ (∀ a b, ¬ (a = 0 ∧ (b = 12 ∨ b = 13)) → ¬ (2 ≤ a ∧ a ≤ 10) → M.1 a b = M0.1 a b)
variable {nt a z : Nat} {tp : Nat → Nat}
theorem zstep2 (h : zS2 T0 R0 M0 o0 n0 np0 par0 wt0 ans0 ad0 kd0 kn0 hd0 su0 td0 T R P M) (hb : ∀ i, i < nt → tp i < 256) (hok : (zst9 nt tp a).1 = true) (hz : z < 32) (hr : zrow nt tp a z M) (hc : zcls nt tp a X) : (∃ T1 R1 P1 M1, xX12_comes M (nI z) = some (1, M1) ∧ xX8_takeStatement T R X P = some (1, T1, R1, P1) ∧ zS2 T0 R0 M0 o0 n0 np0 par0 wt0 ans0 ad0 kd0 kn0 hd0 su0 td0 T1 R1 P1 M1) ∨ (xX12_comes M (nI z) = some (0, M) ∧ xX8_takeStatement T R X P = some (0, T, R, P)) := by
  obtain ⟨n, np, par, wt, ans, ad, kd, kn, hd, su, td, ⟨hV, hT, hRT, hRL⟩, ⟨hP, hwf⟩, ⟨l1, l2, l3⟩, ⟨a1, a2, a3⟩, ⟨b1, b2, b3, b4, b5, b6⟩, fT, fT2, fR, fM⟩ := h
  obtain ⟨r18, -, rW, rP⟩ := hr
  obtain ⟨c3, cW, cP⟩ := hc
  have n10 : ¬ (1 : Int32) = 0 := by decide
  rcases zst9_sign hok with g | g
  · have hok2 : (zwd nt tp (a + 1)).1 = true := by
      unfold zst9 at hok
      by_cases y : a < nt ∧ tp a = 119
      · rw [if_pos y] at hok; exact hok
      · rw [if_neg y, if_neg (by omega)] at hok; cases hok
    obtain ⟨p, w, v, hp, hw, hv, e1, e2, e3⟩ := zwd_ok hok2
    obtain ⟨x1, x2, x3⟩ := rW g
    obtain ⟨y1, y2, y3⟩ := cW g
    have C : xX8_takeStatement T R X P = (xX10_append T (nI p) (nI w) (nI v)).bind (fun q5 => if ¬ (q5.1 = 0 ∨ q5.1 = 1) then none else some (q5.1, q5.2, R, P)) := by
      unfold xX8_takeStatement
      rw [c3, if_pos g, if_neg n10, y1, e1, y2, e2, y3, e3]
    by_cases y : n < 24 ∧ p < n ∧ ans p = 0 ∧ w ≠ 0
    · have A := zx_appendW hV hT hp hw hv y
      have B := zx_comesW hV hRT hRL hz hp hw (r18.trans (by rw [g])) (x1.trans e1) (x2.trans e2) (x3.trans e3) y
      have hV' := zVT_up hV y.1 y.2.1 y.2.2.1 (Nat.pos_of_ne_zero y.2.2.2) (show w ≤ 9 by omega) (show v ≤ 9 by omega)
      refine Or.inl ⟨zsi (zsi (zsi (zsi T 1 n (nI p)) 2 n (nI w)) 3 n (nI v)) 0 13 (nI (n + 1)), R, P, _, B, ?_, n + 1, np, zup par n p, zup wt n w, zup ans n v, ad, kd, kn, hd, su, td, ⟨hV', zTC_up hT, zRT_up hRT, zRL_up hV hRL hV' y.2.1⟩, ⟨zIP_c hP rfl (fun j k hjk => ?_), hwf⟩, ⟨by omega, l2, l3⟩, ⟨zag_up a1 l1, zag_up a2 l1, zag_up a3 l1⟩, ⟨b1, b2, b3, b4, b5, b6⟩, fun a b g1 g2 => ?_, fT2, fR, fun a b g1 g2 => ?_⟩
      · rw [C, A, Option.bind_some, if_neg (by exact fun y => y (Or.inr rfl))]
      · rw [zsi_ne (by omega), zsi_ne (by omega), zsi_ne (by omega), zsi_ne (by omega), zsi_ne (by omega)]
      · rw [zsi_ne (by omega), zsi_ne (by omega), zsi_ne (by omega), zsi_ne (by omega)]
        exact fT a b g1 g2
      · rw [zsi_ne (by omega), zsi_ne (by omega), zsi_ne (by omega), zsi_ne (by omega), zsi_ne (by omega)]
        exact fM a b g1 g2
    · have A := zx_appendWn hV hT hp hw hv y
      have B := zx_comesWn hV hRT hz hp hw (r18.trans (by rw [g])) (x1.trans e1) (x2.trans e2) y
      exact Or.inr ⟨B, by rw [C, A, Option.bind_some, if_neg (by exact fun y => y (Or.inl rfl))]⟩
  · have hok2 : (zpd nt tp (a + 1)).1 = true := by
      unfold zst9 at hok
      by_cases y : a < nt ∧ tp a = 119
      · omega
      · by_cases y2 : a < nt ∧ tp a = 112
        · rw [if_neg y, if_pos y2] at hok; exact hok
        · rw [if_neg y, if_neg y2] at hok; cases hok
    obtain ⟨k, f, s, hk, hf, hs, e1, e2, e3, hm⟩ := zpd_ok hb hok2
    obtain ⟨x1, x2, x3, x4⟩ := rP g
    obtain ⟨y1, y2, y3, y4, y5⟩ := cP g
    obtain ⟨t1, t2, t3⟩ := zk17_lt hm
    have hnp := hP.1.1
    obtain ⟨Q, hQ, q1, q2, q3, q4, q5, q6, q7, q8⟩ := zx_ofKind (P := P) hk (nI f) (nI s) (nI (zkm tp (zq2 nt tp (a + 1) + 1) (zkn nt tp (zq2 nt tp (a + 1) + 1) 9)))
    have C : xX8_takeStatement T R X P = if (if zkt tp (zq2 nt tp (a + 1) + 1) (zkn nt tp (zq2 nt tp (a + 1) + 1) 9) = true then (1 : Int32) else 0) = 0 then (xX6_append R P (nI k) (nI f) (nI s) (nI (zkm tp (zq2 nt tp (a + 1) + 1) (zkn nt tp (zq2 nt tp (a + 1) + 1) 9)))).bind (fun q3 => if q3.1 = 0 then some ((0 : Int32), T, q3.2.1, q3.2.2) else some ((1 : Int32), T, q3.2.1, q3.2.2)) else some ((0 : Int32), T, R, P) := by
      unfold xX8_takeStatement
      rw [c3, if_neg (show ¬ tp a = 119 by omega), if_pos rfl, y1, e2, y2, e3, y3, e1, y4, y5]
    cases hkt : zkt tp (zq2 nt tp (a + 1) + 1) (zkn nt tp (zq2 nt tp (a + 1) + 1) 9) with
    | true =>
      rw [hkt, if_neg (by decide)] at C
      refine Or.inr ⟨zx_comesPn hnp hP.2.2.2.1 hz hs t1 (r18.trans (by rw [g])) (x2.trans e3) x4 (fun y => ?_), C⟩
      rw [t2.mp y.2.2] at hkt
      cases hkt
    | false =>
      rw [hkt, if_pos (by decide)] at C
      have h17 := t3 hkt
      by_cases y : np < 4 ∧ s ≤ 100
      · rw [zx_appendP hnp hP.2.1 hwf hQ y, Option.bind_some, if_neg (by exact n10)] at C
        have B := zx_comesP hP.2.2.2.1 hz (by omega) (r18.trans (by rw [g])) (x1.trans e2) (x2.trans e3) (x3.trans e1) (x4.trans (by rw [h17])) ⟨y.1, y.2, hm⟩
        have U := zIP_up hP hwf y.1 hk hf y.2 hm q1 q2 q3 q4 q5 q6 q7 q8
        refine Or.inl ⟨T, _, _, _, B, C, n, np + 1, par, wt, ans, _, _, _, _, _, _, ⟨hV, hT, ⟨?_, fun i hi => ?_⟩, fun i hi => ?_⟩, U, ⟨l1, by omega, ?_⟩, ⟨a1, a2, a3⟩, ⟨zag_up b1 l2, zag_up b2 l2, zag_up b3 l2, zag_up b4 l2, zag_up b5 l2, zag_up b6 l2⟩, fT, fT2, fun a b g1 => ?_, fun a b g1 g2 => ?_⟩
        · rw [zsi_ne (by omega), zsi_ne (by omega), zsi_ne (by omega), zsi_ne (by omega), zsi_ne (by omega), zsi_ne (by omega)]
          exact hRT.1
        · have cell : ∀ j, 2 ≤ j → j ≤ 4 → (zsi (zsi (zsi (zsi (zsi (zsi M 6 np (nI k)) 8 np (nI f)) 9 np (nI s)) 7 np (nI (zkm tp (zq2 nt tp (a + 1) + 1) (zkn nt tp (zq2 nt tp (a + 1) + 1) 9)))) 10 np 0) 0 13 (nI (np + 1))).1 j i = M.1 j i := fun j hj hj2 => by
            rw [zsi_ne (by omega), zsi_ne (by omega), zsi_ne (by omega), zsi_ne (by omega), zsi_ne (by omega), zsi_ne (by omega)]
          rw [cell 2 (by decide) (by decide), cell 3 (by decide) (by decide), cell 4 (by decide) (by decide)]
          exact hRT.2 i hi
        · rw [zsi_ne (by omega), zsi_ne (by omega), zsi_ne (by omega), zsi_ne (by omega), zsi_ne (by omega), zsi_ne (by omega)]
          exact hRL i hi
        · show o0 ≤ Q.2.2.2
          omega
        · rw [zsi_ne (by omega)]
          exact fR a b g1
        · rw [zsi_ne (by omega), zsi_ne (by omega), zsi_ne (by omega), zsi_ne (by omega), zsi_ne (by omega), zsi_ne (by omega)]
          exact fM a b g1 g2
      · rw [zx_appendPn hnp hP.2.1 hs y, Option.bind_some, if_pos (by rfl)] at C
        exact Or.inr ⟨zx_comesPn hnp hP.2.2.2.1 hz hs t1 (r18.trans (by rw [g])) (x2.trans e3) x4 (fun z => y ⟨z.1, z.2.1⟩), C⟩
end
