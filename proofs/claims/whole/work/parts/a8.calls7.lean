/-! single calls: silence, replies, the rest -/
/-- two loops in step -/
theorem zlock {α β γ δ : Type} {f : α → Option (α ⊕ β)} {g : γ → Option (γ ⊕ δ)} (J : Nat → α → γ → Prop) {Q : β → δ → Prop} (step : ∀ k a c, J k a c → (∃ a' c' k', f a = some (.inl a') ∧ g c = some (.inl c') ∧ k' < k ∧ J k' a' c') ∨ ∃ b d, f a = some (.inr b) ∧ g c = some (.inr d) ∧ Q b d) : ∀ (n k : Nat) (a : α) (c : γ), J k a c → k < n → ∃ b d, x_it f n a = some b ∧ x_it g n c = some d ∧ Q b d
  | 0, _, _, _, _, h => absurd h (Nat.not_lt_zero _)
  | n + 1, k, a, c, hJ, h => by
    unfold x_it
    rcases step k a c hJ with ⟨a', c', k', h1, h2, h3, h4⟩ | ⟨b, d, h1, h2, h3⟩
    · rw [h1, h2]
      exact zlock J step n k' a' c' h4 (by omega)
    · rw [h1, h2]
      exact ⟨b, d, rfl, rfl, h3⟩
section
variable {T T' R R' X X' F F' B B' : zM} {P P' : zP} {M M' : zM} {n np nf nt nr : Nat} {par wt ans ad kd kn hd su td pt fc tp rw : Nat → Nat}
def zsS (n : Nat) (par wt ans : Nat → Nat) (i h u : Nat) : Bool := decide (0 < zoA n par wt ans u i) && zsu n par wt ans u i h
theorem zgu_one {i u h' : Nat} (h0 : 0 < i) (h10 : i < 10) : (decide (zgu n par wt ans (2 ^ i) u ≠ 0) && zsu n par wt ans u (zgu n par wt ans (2 ^ i) u) h') = zsS n par wt ans i h' u := by
  unfold zsS
  by_cases q : zgu n par wt ans (2 ^ i) u = 0
  · have : ¬ 0 < zoA n par wt ans u i := fun z => zgs_ne h0 h10 (by rw [Nat.testBit_two_pow]; simp) z q
    rw [decide_eq_false (p := zgu n par wt ans (2 ^ i) u ≠ 0) (fun z => z q), decide_eq_false this, Bool.false_and, Bool.false_and]
  · have h := zgs_spec (X := zoA n par wt ans u) (s := 2 ^ i) q
    rw [Nat.testBit_two_pow, decide_eq_true_eq] at h
    have h3 : zgu n par wt ans (2 ^ i) u = i := h.1.symm
    have h2 := h.2
    rw [← h.1] at h2
    rw [h3, decide_eq_true (show i ≠ 0 by omega), decide_eq_true h2]
theorem zx_silC (hV : zVT n par wt ans) {k t s h i w : Nat} (hk : k = 1 ∨ k = 2) (h0 : 0 < i) (h10 : i < 10) (hw : w < n) : (zPS n par wt ans pt k t (2 ^ i) h &&& zwy par w = 0) ↔ zap par (zsS n par wt ans i h) w = false := by
  rw [zap_wy hV w w (Nat.le_refl _) hw, zap_c hV (fun u g1 g2 => ?_) w w (Nat.le_refl _) hw]
  unfold zPS zpb zmy
  rw [if_neg (by omega), zbits_test, decide_eq_true g2, Bool.true_and, decide_eq_true g1, Bool.true_and, if_neg (by omega), if_neg (by omega)]
  exact zgu_one h0 h10
theorem zx_silM {r : zM} (hV : zVT n par wt ans) (hW : zWh n par ans) (hR : zRT r n par wt ans) (hF : zFS r n par wt ans) {p k s i w b : Nat} {v2 : Int32} (hp : p < 4) (hk : k ≤ 5) (hs : s ≤ 100) (h6 : r.1 6 p = nI k) (h9 : r.1 9 p = nI s) (h0 : 0 < i) (h10 : i < 10) (hw : w < n) : x_it (fun a9 => xX12_silent_L76_L66 r (nI p) v2 (nI i) a9.1 a9.2) zFU (nI b, nI w) = some (nI (b ||| (if zap par (zsS n par wt ans i (zh0 k s)) w = true then 2 ^ i else 0))) := by
  have hn := hV.2.1
  refine zok.eq ?_
  refine zok_it (fun u z => ∃ b', z = (nI b', nI u) ∧ u < n ∧ (b' ||| (if zap par (zsS n par wt ans i (zh0 k s)) u = true then 2 ^ i else 0)) = b ||| (if zap par (zsS n par wt ans i (zh0 k s)) w = true then 2 ^ i else 0)) w ⟨b, rfl, hw, rfl⟩ (by omega) ?_
  rintro u z ⟨b', rfl, hu, hb⟩
  rcases Nat.eq_zero_or_pos u with rfl | g
  · refine ⟨.inr (nI b'), ?_, Or.inr ⟨_, rfl, ?_⟩⟩
    · unfold xX12_silent_L76_L66
      rw [if_pos (show nI 0 ≤ 0 by decide)]
    · rw [show zap par (zsS n par wt ans i (zh0 k s)) 0 = false from rfl, if_neg (by decide), Nat.or_zero] at hb
      rw [← hb]
  · have hpu := (hV.2.2.1 u g hu).1
    have t1 := (hR.2 u hu).1
    have hm := hF.2.2 u i hu h10
    have hl := zoA_lt hV hW (a := i) hu
    have hsu := zx_sureOf hp hk hs h6 h9
    have hz : zh0 k s ≤ 100 := by unfold zh0; split <;> omega
    have his := zx_isSure hV hW hR hF hu (g := i) h10 hz
    have e3 : ((10 : Int32) * nI u) + nI i = nI (10 * u + i) := by rw [nI_10, nI_mul, nI_add]
    have hu0 : ¬ nI u ≤ 0 := by rw [nI_le0 (by omega)]; omega
    rw [zap_s hV g hu] at hb
    by_cases q : 0 < zoA n par wt ans u i
    · have q2 : ¬ lN (zoA n par wt ans u i) ≤ lN 0 := by rw [jN_le (by omega) (by decide)]; omega
      by_cases q3 : zsu n par wt ans u i (zh0 k s) = true
      · rw [if_pos q3] at his
        have hS : zsS n par wt ans i (zh0 k s) u = true := by unfold zsS; rw [decide_eq_true q, q3]; rfl
        rw [hS, Bool.or_true, if_pos rfl] at hb
        refine ⟨.inl (nI (b' ||| 2 ^ i), nI (par u)), ?_, Or.inl ⟨_, par u, rfl, hpu, b' ||| 2 ^ i, rfl, by omega, ?_⟩⟩
        · unfold xX12_silent_L76_L66
          simp only [zlet]
          rw [if_neg hu0, e3, if_neg (nI_in (by omega) (by decide)), nI_clamp (by omega), hm, zL0, zifi (lg_cmp_le _ _), if_neg q2, hsu, Option.bind_some, his, Option.bind_some, if_neg (by decide), if_neg (nI_in (by omega) (by decide)), nI_clamp (by omega), t1, zshl i (by omega), zor]
        · rw [← hb]
          split
          · rw [Nat.or_assoc, Nat.or_self]
          · rw [Nat.or_zero]
      · rw [if_neg q3] at his
        have hS : zsS n par wt ans i (zh0 k s) u = false := by unfold zsS; rw [Bool.eq_false_iff.mpr q3, Bool.and_false]
        rw [hS, Bool.or_false] at hb
        refine ⟨.inl (nI b', nI (par u)), ?_, Or.inl ⟨_, par u, rfl, hpu, b', rfl, by omega, hb⟩⟩
        unfold xX12_silent_L76_L66
        simp only [zlet]
        rw [if_neg hu0, e3, if_neg (nI_in (by omega) (by decide)), nI_clamp (by omega), hm, zL0, zifi (lg_cmp_le _ _), if_neg q2, hsu, Option.bind_some, his, Option.bind_some, if_pos rfl, if_neg (nI_in (by omega) (by decide)), nI_clamp (by omega), t1]
    · have q2 : lN (zoA n par wt ans u i) ≤ lN 0 := by rw [jN_le (by omega) (by decide)]; omega
      have hS : zsS n par wt ans i (zh0 k s) u = false := by unfold zsS; rw [decide_eq_false q]; rfl
      rw [hS, Bool.or_false] at hb
      refine ⟨.inl (nI b', nI (par u)), ?_, Or.inl ⟨_, par u, rfl, hpu, b', rfl, by omega, hb⟩⟩
      unfold xX12_silent_L76_L66
      simp only [zlet]
      rw [if_neg hu0, e3, if_neg (nI_in (by omega) (by decide)), nI_clamp (by omega), hm, zL0, zifi (lg_cmp_le _ _), if_pos q2, if_neg (nI_in (by omega) (by decide)), nI_clamp (by omega), t1]
def zsl (n : Nat) (par wt ans : Nat → Nat) (h w c : Nat) : Nat := zbits (fun i => decide (0 < i) && zap par (zsS n par wt ans i h) w) c
theorem zsl_s {h w c : Nat} (hc : 0 < c) : zsl n par wt ans h w (c + 1) = zsl n par wt ans h w c ||| (if zap par (zsS n par wt ans c h) w = true then 2 ^ c else 0) := by
  show zbits _ c ||| (if (decide (0 < c) && zap par (zsS n par wt ans c h) w) = true then 2 ^ c else 0) = _
  rw [decide_eq_true hc, Bool.true_and]
  rfl
theorem zc_silent (h : zJA T R X F B P M n np nf nt nr par wt ans ad kd kn hd su td pt fc tp rw) (a1 a2 a3 : Int32) : zgo (xL_22 T R X F B P M a1 a2 a3) := by
  have hT := h.1
  have hP := h.2.1
  have hQ := h.2.2.1
  have hV := hT.1
  have hn := hV.2.1
  have hnp := hP.1.1
  unfold xL_22 xX11_silent xX12_silent
  rcases zarg_p hP a1 with ⟨p, hp, rfl, h1, h2⟩ | ⟨h1, h2⟩
  · obtain ⟨c1, c2, c3, c4, c5, c6, c7, c8⟩ := hP.2.2.1 p hp
    obtain ⟨v1, v2, v3, v4, v5, v6⟩ := hP.1.2 p hp
    obtain ⟨m6, m7, m8, m9, m10⟩ := hP.2.2.2.2 p hp
    simp only [h1, h2, Option.bind_some, z10, if_false, zon, if_neg (show ¬ P.2.2.2 ≤ ad p by omega)]
    rcases zarg_w hT a2 with ⟨w, hw, rfl, h3, h4⟩ | ⟨-, h3, h4⟩
    · simp only [h3, h4, Option.bind_some, z10, if_false, zx_kind c3 v1, if_neg (zin_w (show p < 4 by omega) (by decide)), nI_clamp (show p < 2 ^ 31 by omega), m6]
      rcases zarg_in (nI (kd p)) (lo := 1) (hi := 2) 1 2 rfl (by decide) (by decide) (by decide) with ⟨k, hk1, hk2, hk3, h5⟩ | ⟨hv, h5⟩
      · have hkd : kd p = k := (nI_eq (by omega) (by omega)).mp hk3
        simp only [h5, Option.bind_some, z10, if_false]
        rcases zarg_W hT with ⟨hW, h6, h7⟩ | ⟨-, h6, h7⟩
        · obtain ⟨r, hr, r1, r2⟩ := zx_fShares hT hW
          have hrP := zIP_k hP (zbR_r (R := R)) (zbM_1 r1)
          have hrT := zIT_k hT (zbM_1 r1)
          obtain ⟨k6, k7, k8, k9, k10⟩ := hrP.2.2.2.2 p hp
          have hM : x_it (fun a9 => xX12_silent_L66 r (nI p) (nI w) a9.1 a9.2) zFU ((0 : Int32), (1 : Int32)) = some (nI (zsl n par wt ans (zh0 (kd p) (su p)) w 10)) := by
            refine zfor (fun c => (nI (zsl n par wt ans (zh0 (kd p) (su p)) w c), nI c)) 1 10 (by decide) (by decide) ?_ ?_ ?_
            · rw [zsl, zbits_1] <;> rfl
            · intro c g1 g2
              try dsimp only
              unfold xX12_silent_L66
              rw [if_neg (by rw [nI_10, nI_leI (by decide) (by omega)]; omega), zx_silM hV hW hrT.2.2.1 r2 (show p < 4 by omega) v1 v4 k6 k9 g1 g2 hw, Option.bind_some, ← zsl_s g1, nI_1]
            · try dsimp only
              unfold xX12_silent_L66
              rw [if_pos (show (10 : Int32) ≤ nI 10 by decide)]
          have hC : zok (x_it (fun a9 => xX11_silent_L76 T B P (nI w) (ad p) a9.1 a9.2.1 a9.2.2) zFU (R, (0 : Int32), (1 : Int32))) (fun q => zbR R q.1 ∧ q.2 = nI (zsl n par wt ans (zh0 (kd p) (su p)) w 10)) := by
            refine zok_for (fun c z => z.1.1 = R.1 ∧ z.2.1 = nI (zsl n par wt ans (zh0 (kd p) (su p)) w c) ∧ z.2.2 = nI c) 1 10 (by decide) (by decide) ⟨rfl, ?_, rfl⟩ ?_ ?_
            · rw [zsl, zbits_1] <;> rfl
            · rintro c ⟨A, x, y⟩ g1 g2 ⟨hA, hx, hy⟩
              try dsimp only at hA hx hy
              subst hx hy
              obtain ⟨q, hq, q1, q2, q3⟩ := zx_pressBits hV hW hT.2.1 (R := A) (P := P) hQ.1 (fun k hk => by rw [hA]; exact hQ.2.1 k hk) (a := ad p) (k := kd p) (su := su p) (t := td p) (s := 2 ^ c) (v := 0) (Or.inl rfl) c2 c3 v1 c5 v4 (fun z => by omega) (Nat.pow_lt_pow_right (a := 2) (n := 10) (by decide) (by omega))
              rw [if_pos rfl] at q1
              have hcc := zx_silC (pt := pt) (t := td p) (s := 0) (h := zh0 (kd p) (su p)) hV (show kd p = 1 ∨ kd p = 2 by omega) g1 g2 hw
              have hb : zPS n par wt ans pt (kd p) (td p) (2 ^ c) (zh0 (kd p) (su p)) &&& zwy par w < 2 ^ 31 := Nat.lt_of_le_of_lt Nat.and_le_right (Nat.lt_of_lt_of_le (zwy_lt hV w w (Nat.le_refl _) hw) (by decide))
              have run : xX11_silent_L76 T B P (nI w) (ad p) A (nI (zsl n par wt ans (zh0 (kd p) (su p)) w c)) (nI c) = some (.inl (q.2, nI (zsl n par wt ans (zh0 (kd p) (su p)) w (c + 1)), nI (c + 1))) := by
                unfold xX11_silent_L76
                simp only [zlet]
                rw [if_neg (by rw [nI_10, nI_leI (by decide) (by omega)]; omega), zshl c (by omega), hq, Option.bind_some, zx_wayTo hn hT.2.1 hw, Option.bind_some, q1, zand, zif (nI_eq0 hb), zifi hcc, zsl_s g1]
                by_cases y : zap par (zsS n par wt ans c (zh0 (kd p) (su p))) w = true
                · rw [if_neg (by rw [y]; decide), if_pos y, zor, nI_1]
                · rw [if_pos (by simpa using y), if_neg y, Nat.or_zero, nI_1]
              exact ⟨_, run, _, rfl, q2.trans hA, rfl, rfl⟩
            · rintro ⟨A, x, y⟩ ⟨hA, hx, hy⟩
              try dsimp only at hA hx hy
              subst hx hy
              refine ⟨.inr (A, nI (zsl n par wt ans (zh0 (kd p) (su p)) w 10)), ?_, _, rfl, fun j k _ => ?_, rfl⟩
              · try dsimp only
                unfold xX11_silent_L76
                rw [if_pos (show (10 : Int32) ≤ nI 10 by decide)]
              · show A.1 j k = _
                rw [hA]
          obtain ⟨q, hq, q1, q2⟩ := hC
          simp only [h6, h7, Option.bind_some, z10, if_false, hr, hM, hq]
          by_cases y : nI (kd p) = (1 : Int32)
          · simp only [if_pos y, Option.bind_some]
            exact zgo_i (if_pos q2) (zInv_k h q1 zbF_r (zbM_1 r1))
          · have y2 : nI (kd p) = (2 : Int32) := by
              have : kd p = 2 := by
                rcases (show kd p = 1 ∨ kd p = 2 by omega) with z | z
                · exact absurd (by rw [z]; rfl) y
                · exact z
              rw [this]; rfl
            simp only [if_neg y, if_pos y2, Option.bind_some]
            exact zgo_i (if_pos q2) (zInv_k h q1 zbF_r (zbM_1 r1))
        · simp only [h6, h7, Option.bind_some, if_true, zx_ref3, zx_no3]
          by_cases y : nI (kd p) = (1 : Int32)
          · simp only [if_pos y, Option.bind_some]
            exact zgo_i rfl (zInv_ref h zbR_r zbF_r (by decide))
          · have y2 : nI (kd p) = (2 : Int32) := by
              have : kd p = 2 := by
                rcases (show kd p = 1 ∨ kd p = 2 by omega) with z | z
                · exact absurd (by rw [z]; rfl) y
                · exact z
              rw [this]; rfl
            simp only [if_neg y, if_pos y2, Option.bind_some]
            exact zgo_i rfl (zInv_ref h zbR_r zbF_r (by decide))
      · have y1 : ¬ nI (kd p) = (1 : Int32) := fun z => by
          rw [z] at hv
          revert hv
          decide
        have y2 : ¬ nI (kd p) = (2 : Int32) := fun z => by
          rw [z] at hv
          revert hv
          decide
        simp only [h5, Option.bind_some, if_true, if_neg y1, if_neg y2, zx_ref2, zx_no2]
        exact zgo_i rfl (zInv_ref h zbR_r zbF_r (by decide))
    · simp only [h3, h4, Option.bind_some, if_true, zx_ref1, zx_no1]
      exact zgo_i rfl (zInv_ref h zbR_r zbF_r (by decide))
  · simp only [h1, h2, Option.bind_some, if_true, zon, zx_ref1, zx_no1]
    exact zgo_i rfl (zInv_ref h zbR_r zbF_r (by decide))
end
