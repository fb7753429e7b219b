/-! replies, by the class -/
section
variable {n : Nat} {par wt ans : Nat → Nat} {np : Nat} {ad hd kn cm sr pt : Nat → Nat} {T : zM} {P : zP}
def zfrZ (p : Nat) (R A : zM) : Prop := (∀ j k, ¬ ((j = 66 ∨ j = 67) ∧ k = p) → j ≠ 68 → ¬ (j = 62 ∧ ((8 ≤ k ∧ k ≤ 12) ∨ k = 14)) → A.1 j k = R.1 j k) ∧ ∀ j k, ¬ (j = 62 ∧ k = 15) → A.2 j k = R.2 j k
theorem zfrZ_r {p : Nat} {R : zM} : zfrZ p R R := ⟨fun _ _ _ _ _ => rfl, fun _ _ _ => rfl⟩
theorem zfrZ_t {p : Nat} {A B C : zM} (h1 : zfrZ p A B) (h2 : zfrZ p B C) : zfrZ p A C := ⟨fun j k g1 g2 g3 => (h2.1 j k g1 g2 g3).trans (h1.1 j k g1 g2 g3), fun j k g => (h2.2 j k g).trans (h1.2 j k g)⟩
theorem zfrZ_r2 {p : Nat} {A B : zM} (h : zfrR A B) : zfrZ p A B := ⟨fun j k _ g2 g3 => h.1 j k g2 (fun z => g3 ⟨z.1, Or.inl z.2⟩), fun j k _ => by rw [h.2]⟩
theorem zCE_z {R A : zM} {p t : Nat} (hE : zCE T R P n par wt ans np ad hd kn cm sr pt) (f : zfrZ p R A) (h66 : A.1 66 p = nI t) (h67 : A.1 67 p = nI t) : zCE T A P n par wt ans np ad hd kn (zup cm p t) (zup sr p t) pt := by
  obtain ⟨a1, a2, a3, a4⟩ := hE
  obtain ⟨f1, f2⟩ := f
  refine ⟨a1, fun k hk => (f1 64 k (by omega) (by decide) (by omega)).trans (a2 k hk), (f1 62 2 (by omega) (by decide) (by omega)).trans a3, fun q hq => ?_⟩
  obtain ⟨b1, b2, b3⟩ := a4 q hq
  refine ⟨?_, ?_, b3⟩
  · by_cases g : q = p
    · rw [g, zup_s]; exact h66
    · rw [zup_n g, f1 66 q (by omega) (by decide) (by omega)]
      exact b1
  · by_cases g : q = p
    · rw [g, zup_s]; exact h67
    · rw [zup_n g, f1 67 q (by omega) (by decide) (by omega)]
      exact b2
theorem zx_tryReply (hV : zVT n par wt ans) (hW : zWh n par ans) (hQ : zVQ pt) (hB : zBE np hd cm sr (zgu2 n par wt ans kn)) {R A : zM} (hE : zCE T R P n par wt ans np ad hd kn cm sr pt) {p s G : Nat} (hp : p < np) (hf : zfrZ p R A) (hG : A.1 65 p = nI G) (hs : s < 2 ^ 24) {x : Nat} {W : Int} (hx : A.1 62 14 = nI x) (hWd : A.2 62 15 = lI W) (hWa : W.natAbs < 2 ^ 63) : ∃ r, xX6_tryReply T A P (nI p) (nI s) = some r ∧ zfrZ p R r ∧ r.1 62 14 = nI (ztr (zVc n par wt ans np hd cm sr pt kn p) G (x, W) s).1 ∧ r.2 62 15 = lI (ztr (zVc n par wt ans np hd cm sr pt kn p) G (x, W) s).2 := by
  have hn := hV.2.1
  have hnp := hB.1
  have hsub : ((nI s &&& (nI G ^^^ (-1 : Int32))) = 0) = (s &&& G = s) := by
    rw [zsub_bits (by omega)]
    exact propext zsub_and.symm
  have pre : ∀ o : Option zM, xX6_tryReply T A P (nI p) (nI s) = o ↔ (if s &&& G = s then (xX6_total T (zsi (zsi A 66 p (nI s)) 67 p (nI s)) P (1 : Int32) (nI p)).bind (fun q9 => if (lg_cmp q9.1 (q9.2.2 62 15)) ≤ 0 then (some q9.2) else some (zsi (zsj q9.2 62 15 q9.1) 62 14 (nI s))) else some A) = o := by
    intro o
    unfold xX6_tryReply
    rw [if_neg (nI_pos (by omega)), zl4, if_pos (nI_lt (by omega) (by omega)), if_neg (nI_in (by omega) (by decide)), nI_clamp (by omega), hG, zif (hsub)]
    exact Iff.rfl
  by_cases g : s &&& G = s
  · have f2 : zfrZ p R (zsi (zsi A 66 p (nI s)) 67 p (nI s)) := zfrZ_t hf ⟨fun j k g1 _ _ => by rw [zsi_ne (fun z => g1 ⟨Or.inr z.1, z.2⟩), zsi_ne (fun z => g1 ⟨Or.inl z.1, z.2⟩)], fun _ _ _ => rfl⟩
    have hE2 := zCE_z hE f2 (t := s) (by rw [zsi_ne (by omega), zsi_y ⟨rfl, rfl⟩]) (by rw [zsi_y ⟨rfl, rfl⟩])
    obtain ⟨q, hq, q1, q2⟩ := zx_total hV hW hQ (zBE_up hB hs) hE2 (what := 1) (p := p) (v2 := nI p) (by decide) (fun _ => ⟨rfl, hp⟩)
    have q1' : q.1 = lI (zVc n par wt ans np hd cm sr pt kn p s) := q1
    have hVa := zVsC_abs (p := p) (t := s) hV hQ hB hs
    have hVa' : (zVc n par wt ans np hd cm sr pt kn p s).natAbs ≤ 2 ^ 61 := hVa
    have f3 : zfrZ p R q.2 := zfrZ_t f2 (zfrZ_r2 q2)
    have c14 : q.2.1 62 14 = nI x := by
      rw [q2.1 62 14 (by decide) (by omega), zsi_ne (by omega), zsi_ne (by omega)]
      exact hx
    have c15 : q.2.2 62 15 = lI W := by rw [q2.2]; exact hWd
    have hcmp : (lg_cmp q.1 (q.2.2 62 15) ≤ 0) ↔ ¬ W < zVc n par wt ans np hd cm sr pt kn p s := by
      rw [lg_cmp_le, q1', c15, lI_le (by omega) hWa]
      omega
    unfold ztr
    by_cases h : W < zVc n par wt ans np hd cm sr pt kn p s
    · refine ⟨zsi (zsj q.2 62 15 q.1) 62 14 (nI s), (pre _).mpr ?_, zfrZ_t f3 ⟨fun j k _ _ g3 => by rw [zsi_ne (by omega)]; rfl, fun j k g4 => by rw [zsi_2, zsj_g, if_neg g4]⟩, ?_, ?_⟩
      · rw [if_pos g, show (1 : Int32) = nI 1 from rfl, hq, Option.bind_some, if_neg (fun z => hcmp.mp z h)]
      · rw [if_pos ⟨g, h⟩, zsi_y ⟨rfl, rfl⟩]
      · rw [if_pos ⟨g, h⟩, zsi_2, zsj_y ⟨rfl, rfl⟩, q1']
    · refine ⟨q.2, (pre _).mpr ?_, f3, ?_, ?_⟩
      · rw [if_pos g, show (1 : Int32) = nI 1 from rfl, hq, Option.bind_some, if_pos (hcmp.mpr h)]
      · rw [if_neg (fun z => h z.2), c14]
      · rw [if_neg (fun z => h z.2), c15]
  · rw [ztr_off g]
    exact ⟨A, (pre _).mpr (by rw [if_neg g]), hf, hx, hWd⟩
/-- the sets of all, calm and stirred -/
def zcA (n : Nat) (par wt ans pt kd kn su td : Nat → Nat) (p : Nat) : Nat := zPS n par wt ans pt (kd p) (td p) (kn p) (zh0 (kd p) (su p))
def zsA (n : Nat) (par wt ans pt kd kn su td : Nat → Nat) (p : Nat) : Nat := zPS n par wt ans pt (kd p) (td p) (kn p) (zh1 (kd p) (su p))
theorem zBE_A (hV : zVT n par wt ans) {kd su td : Nat → Nat} (hVP : zVP np kd kn hd su td) : zBE np hd (zcA n par wt ans pt kd kn su td) (zsA n par wt ans pt kd kn su td) (zgu2 n par wt ans kn) := by
  have h24 : 2 ^ n ≤ 2 ^ 24 := Nat.pow_le_pow_right (by decide) hV.2.1
  exact ⟨hVP.1, fun p hp => ⟨(hVP.2 p hp).2.2.1, Nat.lt_of_lt_of_le (zPS_lt hV) h24, Nat.lt_of_lt_of_le (zPS_lt hV) h24, fun w => zgu_lt⟩⟩
theorem zCE_A {kd su td : Nat → Nat} (hVP : zVP np kd kn hd su td) {R R' : zM} (hT : zCS T n par wt ans) (hCQ : zCQ R' pt) (hR2 : R'.1 62 2 = nI np) (hCP : zCP P ad np kd kn hd su td) (hF : zCF R' n par wt ans pt np kd kn su td) : zCE T R' P n par wt ans np ad hd kn (zcA n par wt ans pt kd kn su td) (zsA n par wt ans pt kd kn su td) pt := by
  refine ⟨hT, hCQ, hR2, fun p hp => ?_⟩
  obtain ⟨-, c2, c3⟩ := hF p hp
  obtain ⟨d1, d2, d3, d4, d5, d6, -⟩ := hCP p hp
  exact ⟨c2, c3, d1, d2, d4, d6, (hVP.2 p hp).2.1⟩
theorem zRE_A {kd su td : Nat → Nat} {M : zM} (hR : zRT M n par wt ans) (hL : zRL M n par) (hP : zRQ M pt) (hRP : zRP M np kd kn hd su td) (hF : zFP M n par wt ans pt np kd kn su td) : zRE M n par wt ans np hd (zcA n par wt ans pt kd kn su td) (zsA n par wt ans pt kd kn su td) pt (zgu2 n par wt ans kn) := by
  refine ⟨hR, hL, hP, hRP.1, fun p hp => ?_⟩
  obtain ⟨c1, c2, c3⟩ := hF p hp
  exact ⟨(hRP.2 p hp).2.2.1, c2, c3, c1⟩
theorem zx_bestReply (hV : zVT n par wt ans) (hW : zWh n par ans) (hQ : zVQ pt) {kd su td : Nat → Nat} (hVP : zVP np kd kn hd su td) {R : zM} (hT : zCS T n par wt ans) (hCQ : zCQ R pt) (hR2 : R.1 62 2 = nI np) (hCP : zCP P ad np kd kn hd su td) {p most : Nat} (hp : p < np) (hm : most ≤ 2) : zok (xX6_bestReply T R P (nI p) (nI most)) (fun r => r.1 = nI (zrp (zVc n par wt ans np hd (zcA n par wt ans pt kd kn su td) (zsA n par wt ans pt kd kn su td) pt kn p) (zGB n par wt ans (kn p)) most) ∧ (∀ j k, j ≠ 65 → j ≠ 66 → j ≠ 67 → j ≠ 68 → ¬ (j = 62 ∧ ((8 ≤ k ∧ k ≤ 12) ∨ k = 14)) → r.2.1 j k = R.1 j k)) := by
  have hn := hV.2.1
  have hnp := hVP.1
  unfold xX6_bestReply
  obtain ⟨R', hR', d1, d2, d3⟩ := zx_prepare hV hW hVP hQ hT hCQ hR2 hCP
  have hE := zCE_A (R := R) hVP hT (fun k hk => (d2 64 k (by decide) (by decide) (by decide)).trans (hCQ k hk)) ((d2 62 2 (by decide) (by decide) (by decide)).trans hR2) hCP d1
  have hB := zBE_A (pt := pt) hV hVP
  have hG65 := (d1 p hp).1
  have hG0 := zGB_0 (n := n) (par := par) (wt := wt) (ans := ans) (s := kn p)
  generalize zcA n par wt ans pt kd kn su td = cmA at hE hB ⊢
  generalize zsA n par wt ans pt kd kn su td = srA at hE hB ⊢
  have tr1 := fun (A : zM) (s : Nat) => zx_tryReply (A := A) (s := s) (G := zGB n par wt ans (kn p)) hV hW hQ hB hE hp
  have hVa := zVsC_abs (p := p) (t := 0) hV hQ hB (by decide)
  have hVa' : (zVc n par wt ans np hd cmA srA pt kn p 0).natAbs ≤ 2 ^ 61 := hVa
  have hVb : ∀ t, t < 2 ^ 24 → (zVc n par wt ans np hd cmA srA pt kn p t).natAbs ≤ 2 ^ 61 := fun t ht => zVsC_abs (p := p) (t := t) hV hQ hB ht
  generalize zVc n par wt ans np hd cmA srA pt kn p = V at tr1 hVa' hVb ⊢
  generalize zGB n par wt ans (kn p) = G at hG0 hG65 tr1 ⊢
  refine zok_eb hR' (zok_let (zok_let ?_))
  -- a try from a best so far
  have tr2 : ∀ (A : zM) (s : Nat) (B : Nat × Int), s < 2 ^ 24 → zfrZ p R' A → A.1 62 14 = nI B.1 → A.2 62 15 = lI B.2 → B.2.natAbs < 2 ^ 63 → ∃ r, xX6_tryReply T A P (nI p) (nI s) = some r ∧ zfrZ p R' r ∧ r.1 62 14 = nI (ztr V G B s).1 ∧ r.2 62 15 = lI (ztr V G B s).2 := by
    intro A s B hs hf h1 h2 h3
    exact tr1 A s hf ((hf.1 65 p (by omega) (by decide) (by omega)).trans hG65) hs h1 h2 h3
  have f0 : zfrZ p R' (zsj (zsi R' 62 14 0) 62 15 (-4000000000000000000)) := ⟨fun j k _ _ g3 => by rw [zsj_1, zsi_ne (by omega)], fun j k g => by rw [zsj_g, if_neg g]; rfl⟩
  obtain ⟨A, hA, A1, A2, A3⟩ := tr2 (zsj (zsi R' 62 14 0) 62 15 (-4000000000000000000)) 0 (0, -4000000000000000000) (by decide) f0 (by rw [zsj_1, zsi_y ⟨rfl, rfl⟩]; rfl) (by rw [zsj_y ⟨rfl, rfl⟩]; decide) (by decide)
  have e0 : ztr V G (0, -4000000000000000000) 0 = (0, V 0) := if_pos ⟨Nat.zero_and _, by show (-4000000000000000000 : Int) < V 0; omega⟩
  rw [e0] at A2 A3
  rw [show (0 : Int32) = nI 0 from rfl]
  refine zok_eb hA (zok_bind ?_)
  have hab : ∀ B, zBo V G B → B.2.natAbs < 2 ^ 63 := fun B h => by
    have := hVb B.1 h.2.2.1
    rw [h.2.1]
    omega
  have one : zok (x_it (fun a9 => xX6_bestReply_L24 T P (nI p) (nI most) a9.1 a9.2) zFU (A, (1 : Int32))) (fun r => zfrZ p R' r ∧ r.1 62 14 = nI (if most = 0 then (0, V 0) else zb1 V G 24).1 ∧ r.2 62 15 = lI (if most = 0 then (0, V 0) else zb1 V G 24).2) := by
    by_cases q0 : most = 0
    · rw [if_pos q0]
      refine ⟨A, zfor (fun _ => (A, (1 : Int32))) 1 1 (Nat.le_refl _) (by decide) rfl (fun c h1 h2 => absurd h2 (by omega)) ?_, A1, A2, A3⟩
      try dsimp only
      unfold xX6_bestReply_L24
      rw [if_neg (by decide), if_pos (by rw [q0]; decide)]
    · rw [if_neg q0]
      refine zok_for (fun c (z : zM × Int32) => z.2 = nI c ∧ zfrZ p R' z.1 ∧ z.1.1 62 14 = nI (zb1 V G c).1 ∧ z.1.2 62 15 = lI (zb1 V G c).2) 1 24 (by decide) (by decide) ⟨rfl, A1, by rw [zb1_1 hG0]; exact A2, by rw [zb1_1 hG0]; exact A3⟩ ?_ ?_
      · rintro c ⟨C, i⟩ h1 h2 ⟨e0, e1, e2, e3⟩
        try dsimp only at e0 e1 e2 e3
        subst e0
        have ho := zb1_o (V := V) (G := G) c (by omega)
        obtain ⟨D, hD, D1, D2, D3⟩ := tr2 C (2 ^ c) (zb1 V G c) (Nat.pow_lt_pow_right (by decide) (by omega)) e1 e2 e3 (hab _ ho)
        refine ⟨.inl (D, nI (c + 1)), ?_, _, rfl, rfl, D1, D2, D3⟩
        unfold xX6_bestReply_L24
        rw [zl24, if_neg (by rw [nI_leI (by omega) (by omega)]; omega), if_neg (by rw [show (1 : Int32) = nI 1 from rfl, nI_ltI (by omega) (by omega)]; omega), zshl c (by omega), hD, Option.bind_some, nI_1]
      · rintro ⟨C, i⟩ ⟨e0, e1, e2, e3⟩
        try dsimp only at e0 e1 e2 e3
        subst e0
        refine ⟨.inr C, ?_, C, rfl, e1, e2, e3⟩
        unfold xX6_bestReply_L24
        rw [if_pos (show (24 : Int32) ≤ nI 24 by decide)]
  refine one.imp ?_
  rintro A5 ⟨Y1, Y2, Y3⟩
  refine zok_bind ?_
  have fin : ∀ (r : zM), zfrZ p R' r → ∀ j k, j ≠ 65 → j ≠ 66 → j ≠ 67 → j ≠ 68 → ¬ (j = 62 ∧ ((8 ≤ k ∧ k ≤ 12) ∨ k = 14)) → r.1 j k = R.1 j k := fun r hr j k g1 g2 g3 g4 g5 => (hr.1 j k (by omega) g4 g5).trans (d2 j k g1 g2 g3)
  by_cases q2 : most = 2
  · rw [if_neg (show ¬ most = 0 by omega)] at Y2 Y3
    refine (zok_for (fun b (z : zM × Int32) => z.2 = nI b ∧ zfrZ p R' z.1 ∧ z.1.1 62 14 = nI (zb2 V G b).1 ∧ z.1.2 62 15 = lI (zb2 V G b).2) 2 24 (by decide) (by decide) ⟨rfl, Y1, by rw [zb2_2 hG0]; exact Y2, by rw [zb2_2 hG0]; exact Y3⟩ ?_ ?_ (P := fun r => zfrZ p R' r ∧ r.1 62 14 = nI (zb2 V G 24).1)).imp ?_
    · rintro b ⟨C, i⟩ h1 h2 ⟨e0, e1, e2, e3⟩
      try dsimp only at e0 e1 e2 e3
      subst e0
      have hbo := zb2_o (V := V) (G := G) b (by omega)
      have inner : zok (x_it (fun a9 => xX6_bestReply_L65_L51 T P (nI p) (nI most) (nI b) a9.1 a9.2) zFU (C, (1 : Int32))) (fun r => zfrZ p R' r ∧ r.1 62 14 = nI (zb2 V G (b + 1)).1 ∧ r.2 62 15 = lI (zb2 V G (b + 1)).2) := by
        refine zok_for (fun a (z : zM × Int32) => z.2 = nI a ∧ zfrZ p R' z.1 ∧ z.1.1 62 14 = nI (zb2i V G (zb2 V G b) b a).1 ∧ z.1.2 62 15 = lI (zb2i V G (zb2 V G b) b a).2) 1 b (by omega) (by omega) ⟨rfl, e1, by rw [zb2i_1 hG0]; exact e2, by rw [zb2i_1 hG0]; exact e3⟩ ?_ ?_
        · rintro a ⟨D, i⟩ g1 g2 ⟨c0, c1, c2, c3⟩
          try dsimp only at c0 c1 c2 c3
          subst c0
          have ho := zb2i_o (V := V) (G := G) hbo (show b < 24 by omega) a (by omega)
          obtain ⟨F, hF, F1, F2, F3⟩ := tr2 D (2 ^ a ||| 2 ^ b) (zb2i V G (zb2 V G b) b a) (Nat.or_lt_two_pow (Nat.pow_lt_pow_right (by decide) (by omega)) (Nat.pow_lt_pow_right (by decide) (by omega))) c1 c2 c3 (hab _ ho)
          refine ⟨.inl (F, nI (a + 1)), ?_, _, rfl, rfl, F1, F2, F3⟩
          unfold xX6_bestReply_L65_L51
          rw [if_neg (by rw [nI_leI (by omega) (by omega)]; omega), zshl a (by omega), zshl b (by omega), zor, Nat.or_comm, hF, Option.bind_some, nI_1]
        · rintro ⟨D, i⟩ ⟨c0, c1, c2, c3⟩
          try dsimp only at c0 c1 c2 c3
          subst c0
          refine ⟨.inr D, ?_, D, rfl, c1, c2, c3⟩
          unfold xX6_bestReply_L65_L51
          rw [if_pos (nI_le (Nat.le_refl _) (by omega))]
      obtain ⟨D, hD, D1, D2, D3⟩ := inner
      refine ⟨.inl (D, nI (b + 1)), ?_, _, rfl, rfl, D1, D2, D3⟩
      unfold xX6_bestReply_L51
      rw [zl24, if_neg (by rw [nI_leI (by omega) (by omega)]; omega), if_neg (by rw [q2]; decide), hD, Option.bind_some, nI_1]
    · rintro ⟨C, i⟩ ⟨e0, e1, e2, e3⟩
      try dsimp only at e0 e1 e2 e3
      subst e0
      refine ⟨.inr C, ?_, C, rfl, e1, e2⟩
      unfold xX6_bestReply_L51
      rw [if_pos (show (24 : Int32) ≤ nI 24 by decide)]
    · rintro A6 ⟨g1, g2⟩
      refine zok_some ⟨?_, fin A6 g1⟩
      unfold zrp zrB
      rw [if_neg (show ¬ most = 0 by omega), if_neg (show ¬ most = 1 by omega)]
      exact g2
  · refine ⟨A5, zfor (fun _ => (A5, (2 : Int32))) 2 2 (Nat.le_refl _) (by decide) rfl (fun c h1 h2 => absurd h2 (by omega)) ?_, zok_some ⟨?_, fin A5 Y1⟩⟩
    · try dsimp only
      unfold xX6_bestReply_L51
      rw [if_neg (by decide), if_pos (by rw [zl2]; exact nI_lt (by omega) (by decide))]
    · unfold zrp zrB
      by_cases q0 : most = 0
      · rw [if_pos q0] at Y2 ⊢
        exact Y2
      · rw [if_neg q0] at Y2 ⊢
        rw [if_pos (show most = 1 by omega)]
        exact Y2
end
