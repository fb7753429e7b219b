/-! an evening, the judge -/
section
variable {T T' R R' X X' F F' B B' : zM} {P P' : zP} {M M' : zM} {n np nf nt nr : Nat} {par wt ans ad kd kn hd su td pt fc tp rw : Nat → Nat}
def zEv (n : Nat) (par wt ans : Nat → Nat) (np : Nat) (ad kd kn hd su td pt : Nat → Nat) (T R0 : zM) (P : zP) (M0 R M : zM) : Prop := zCE T R P n par wt ans np ad hd kn (zcA n par wt ans pt kd kn su td) (zsA n par wt ans pt kd kn su td) pt ∧ zRE M n par wt ans np hd (zcA n par wt ans pt kd kn su td) (zsA n par wt ans pt kd kn su td) pt (zgu2 n par wt ans kn) ∧ zbR R0 R ∧ zbM M0 M ∧ R.1 62 16 = M.1 0 45
theorem zx_play (hT : zIT T M n par wt ans) (hW : zWh n par ans) (hP : zIP R P M np ad kd kn hd su td) (hQ : zIQ R M pt) {A C : zM} {R0 M0 : zM} (hE : zEv n par wt ans np ad kd kn hd su td pt T R0 P M0 A C) : ∃ a b r m S, xX6_drawEnd T A = some a ∧ xX12_drawn C = some b ∧ xX6_runTo T a.2 P a.1 = some r ∧ xX12_runs b.2 b.1 = some m ∧ zEv n par wt ans np ad kd kn hd su td pt T R0 P M0 r m ∧ zWS S ∧ zRC r np S ∧ zRS m S := by
  obtain ⟨e1, e2, e3, e4, e5⟩ := hE
  have hV := hT.1
  obtain ⟨a, b, e, ha, hb, a1, b1, g1, g2, d1, d2, d3, d4, d5⟩ := zx_draws hT hW e5 e2.1
  have hB := zBE_A (pt := pt) (hd := hd) hV hP.1
  obtain ⟨r, hr, r1, r2⟩ := zx_runTo hV hW hQ.1 hB (zCE_d e1 d1) g1 g2
  obtain ⟨m, hm, m1, m2⟩ := zx_runs hV hQ.1 hB (zRE_d e2 d3) g1 g2
  refine ⟨a, b, r, m, _, ha, hb, by rw [a1]; exact hr, by rw [b1]; exact hm, ⟨zCE_f (zCE_d e1 d1) r2, zRE_f (zRE_d e2 d3) m2, fun j k g => ?_, fun j k g => ?_, ?_⟩, zWS_run hV hQ.1 hP.1.1 g1 g2, r1, m1⟩
  · rw [r2.1 j k (by omega) (by omega), d1 j k (by omega)]
    exact e3 j k g
  · obtain ⟨y1, y2, y3, y4, y5⟩ := zba_n g
    rw [m2.1 j k (by omega) (by omega) (by omega), d3 j k (by rintro ⟨rfl, rfl⟩; exact absurd g (by decide))]
    exact e4 j k g
  · rw [r2.1 _ _ (by decide) (by decide), m2.1 _ _ (by decide) (by decide) (by decide)]
    exact d5
theorem zx_evenings (hT : zIT T M n par wt ans) (hW : zWh n par ans) (hP : zIP R P M np ad kd kn hd su td) (hQ : zIQ R M pt) {R0 M0 A C : zM} (hE : zEv n par wt ans np ad kd kn hd su td pt T R0 P M0 A C) {v p : Nat} (hv : v ≤ 20) (hp : p < np) : ∃ a b, x_it (fun a9 => xX11_evening_L92 T B P (nI v) (nI p) a9.1 a9.2.1 a9.2.2) zFU (A, (0 : Int32), (0 : Int32)) = some a ∧ x_it (fun a9 => xX12_evening_L66_b39 (nI v) (nI p) a9.1 a9.2.1 a9.2.2) zFU (C, (0 : Int32), (0 : Int32)) = some b ∧ a.2 = b.2 ∧ zbR R0 a.1 ∧ zbM M0 b.1 := by
  have hnp := hP.1.1
  refine zlock (α := zM × Int32 × Int32) (γ := zM × Int32 × Int32) (fun k a c => ∃ (w : Nat) (x : Int32) (A C : zM), w ≤ v ∧ k = v - w ∧ a = (A, x, nI w) ∧ c = (C, x, nI w) ∧ zEv n par wt ans np ad kd kn hd su td pt T R0 P M0 A C) ?_ zFU v (A, (0 : Int32), (0 : Int32)) (C, (0 : Int32), (0 : Int32)) ⟨0, 0, A, C, by omega, rfl, rfl, rfl, hE⟩ (Nat.lt_of_le_of_lt hv (by decide))
  rintro k a c ⟨w, x, A, C, hw, rfl, rfl, rfl, hE⟩
  try dsimp only
  unfold xX11_evening_L92 xX12_evening_L66_b39
  by_cases g : w = v
  · subst g
    rw [if_pos (nI_le (by omega) (by omega)), if_pos (nI_le (by omega) (by omega))]
    exact Or.inr ⟨_, _, rfl, rfl, rfl, hE.2.2.1, hE.2.2.2.1⟩
  · obtain ⟨a, b, r, m, S, ha, hb, hr, hm, E, hS, h1, h2⟩ := zx_play hT hW hP hQ hE
    have g1 := zx_gainOf (R := r) (show p < 4 by omega)
    rw [h1.2.2.2.2.2 p hp] at g1
    have g2 := h2.2.2.2.2.2 p (by omega)
    simp only [zlet]
    rw [if_neg (by rw [nI_leI (by omega) (by omega)]; omega), ha, Option.bind_some, hr, Option.bind_some, g1, Option.bind_some, if_neg (by rw [nI_leI (by omega) (by omega)]; omega), hb, Option.bind_some, hm, Option.bind_some, if_neg (nI_in (by omega) (by decide)), nI_clamp (by omega), g2]
    exact Or.inl ⟨_, _, v - (w + 1), rfl, rfl, by omega, w + 1, _, _, _, by omega, rfl, by rw [nI_1], by rw [nI_1], E⟩
theorem zEv_start (hT : zIT T M n par wt ans) (hW : zWh n par ans) (hP : zIP R P M np ad kd kn hd su td) (hQ : zIQ R M pt) {s : Int32} : ∃ c r, xX6_prepare T R P = some c ∧ xX12_finds M = some r ∧ zbM M r ∧ zbR R c ∧ zEv n par wt ans np ad kd kn hd su td pt T R P M (zsi c 62 16 s) (zsi r 0 45 s) := by
  obtain ⟨c, hc, c1, c2⟩ := zx_prep hT hW hP hQ
  obtain ⟨r, hr, r1, r2, r3, -⟩ := zx_finds hT hW hP hQ
  refine ⟨c, r, hc, hr, r1, c1, zCE_d c2 (fun j k g => zsi_ne g), zRE_d r3 (fun j k g => zsi_ne g), fun j k g => ?_, fun j k g => ?_, ?_⟩
  · rw [zsi_ne (by omega)]
    exact c1 j k g
  · rw [zsi_ne (by rintro ⟨rfl, rfl⟩; exact absurd g (by decide))]
    exact r1 j k g
  · rw [zsi_y ⟨rfl, rfl⟩, zsi_y ⟨rfl, rfl⟩]
theorem zx_refw1 : ∃ e, (∀ R : zM, ((xX11_refuse B (-1 : Int32)).bind fun q => some ((1000000000 : Int32) - q.1, R, q.2)) = some (e, R, zsi B 78 1 (B.1 78 1 + 1))) ∧ xX12_lower M (-1) = some (e, zsi M 1 1 (M.1 1 1 + 1)) := by
  refine ⟨(1000000000 : Int32) - (-1 : Int32), fun R => by rw [zx_ref1, Option.bind_some], ?_⟩
  unfold xX12_lower
  simp only [zlet]
  rw [if_neg (by decide)]
  rfl
theorem zx_refw3 : ∃ e, (∀ R : zM, ((xX11_refuse B (-3 : Int32)).bind fun q => some ((1000000000 : Int32) - q.1, R, q.2)) = some (e, R, zsi B 78 3 (B.1 78 3 + 1))) ∧ xX12_lower M (-3) = some (e, zsi M 1 3 (M.1 1 3 + 1)) := by
  refine ⟨(1000000000 : Int32) - (-3 : Int32), fun R => by rw [zx_ref3, Option.bind_some], ?_⟩
  unfold xX12_lower
  simp only [zlet]
  rw [if_neg (by decide)]
  rfl
theorem zx_refw4 : ∃ e, (∀ R : zM, ((xX11_refuse B (-4 : Int32)).bind fun q => some ((1000000000 : Int32) - q.1, R, q.2)) = some (e, R, zsi B 78 4 (B.1 78 4 + 1))) ∧ xX12_lower M (-4) = some (e, zsi M 1 4 (M.1 1 4 + 1)) := by
  refine ⟨(1000000000 : Int32) - (-4 : Int32), fun R => by rw [zx_ref4, Option.bind_some], ?_⟩
  unfold xX12_lower
  simp only [zlet]
  rw [if_neg (by decide)]
  rfl
theorem zx_refw6 : ∃ e, (∀ R : zM, ((xX11_refuse B (-6 : Int32)).bind fun q => some ((1000000000 : Int32) - q.1, R, q.2)) = some (e, R, zsi B 78 6 (B.1 78 6 + 1))) ∧ xX12_lower M (-6) = some (e, zsi M 1 6 (M.1 1 6 + 1)) := by
  refine ⟨(1000000000 : Int32) - (-6 : Int32), fun R => by rw [zx_ref6, Option.bind_some], ?_⟩
  unfold xX12_lower
  simp only [zlet]
  rw [if_neg (by decide)]
  rfl
theorem zc_evening (h : zJA T R X F B P M n np nf nt nr par wt ans ad kd kn hd su td pt fc tp rw) (a1 a2 a3 : Int32) : zgo (xL_28 T R X F B P M a1 a2 a3) := by
  have hT := h.1
  have hP := h.2.1
  have hQ := h.2.2.1
  obtain ⟨e1, w1, l1⟩ := zx_refw1 (B := B) (M := M)
  obtain ⟨e3, w3, l3⟩ := zx_refw3 (B := B) (M := M)
  obtain ⟨e4, w4, l4⟩ := zx_refw4 (B := B) (M := M)
  obtain ⟨e6, w6, l6⟩ := zx_refw6 (B := B) (M := M)
  unfold xL_28 xX11_evening xX12_evening
  generalize (1000000000 : Int32) = N at *
  rcases zarg_p hP a3 with ⟨p, hp, rfl, h1, h2⟩ | ⟨h1, h2⟩
  · obtain ⟨c1, c2, c3, c4, c5, c6, c7, c8⟩ := hP.2.2.1 p hp
    simp only [h1, h2, Option.bind_some, z10, if_false, zon, if_neg (show ¬ P.2.2.2 ≤ ad p by omega)]
    have hb := zarg_b a1 (lo := 1) (hi := 20) (by decide) (by decide)
    rw [show nI 1 = (1 : Int32) from rfl, show nI 20 = (20 : Int32) from rfl] at hb
    rcases hb with ⟨g, b1⟩ | ⟨k, hk1, hk, rfl, b1⟩ | ⟨g, b1⟩
    · have g0 : ¬ (1 : Int32) ≤ a1 := by rw [zile]; rw [zilt] at g; omega
      simp only [if_neg g0, b1, Option.bind_some, xX12_evening_b39, if_neg (show ¬ (-4 : Int32) = 0 by decide), w4, l4, if_true]
      exact zgo_i rfl (zInv_ref h zbR_r zbF_r (by decide))
    · have g0 : (1 : Int32) ≤ nI k := by rw [show (1 : Int32) = nI 1 from rfl]; exact nI_le hk1 (by omega)
      have g9 : nI k ≤ (20 : Int32) := by rw [show (20 : Int32) = nI 20 from rfl]; exact nI_le hk (by decide)
      rw [if_pos g0, if_pos g9, b1, Option.bind_some, if_pos rfl]
      rcases zarg_W hT with ⟨hW, h6, h7⟩ | ⟨-, h6, h7⟩
      · obtain ⟨c, r, hc, hr, k1, k2, E⟩ := zEv_start (s := a2) hT hW hP hQ
        obtain ⟨a, b, ha, hb, hab, k3, k4⟩ := zx_evenings (B := B) hT hW hP hQ E hk hp
        simp only [h6, h7, Option.bind_some, z10, if_false, xX12_evening_b39, zlet, hc, hr, ha, hb, hab, if_true]
        exact zgo_i rfl (zInv_k h k3 zbF_r k4)
      · simp only [h6, h7, Option.bind_some, if_true, xX12_evening_b39, if_neg (show ¬ (-3 : Int32) = 0 by decide), w3, l3]
        exact zgo_i rfl (zInv_ref h zbR_r zbF_r (by decide))
    · have g0 : (1 : Int32) ≤ a1 := by
        rw [zile]
        rw [zilt] at g
        have h9 : ((20 : Int32)).toInt = 20 := by decide
        have h0 : ((1 : Int32)).toInt = 1 := by decide
        omega
      have g1 : ¬ a1 ≤ (20 : Int32) := by rw [zile]; rw [zilt] at g; omega
      simp only [if_pos g0, if_neg g1, b1, Option.bind_some, xX12_evening_b39, if_neg (show ¬ (-6 : Int32) = 0 by decide), w6, l6, if_true]
      exact zgo_i rfl (zInv_ref h zbR_r zbF_r (by decide))
  · simp only [h1, h2, Option.bind_some, if_true, zon, w1, l1]
    exact zgo_i rfl (zInv_ref h zbR_r zbF_r (by decide))
/-! the judge -/
/-- two loops in step, where the first may take one step more -/
theorem zlock2 {α β γ δ : Type} {f : α → Option (α ⊕ β)} {g : γ → Option (γ ⊕ δ)} (J : Nat → α → γ → Prop) {Q : β → δ → Prop} (step : ∀ k a c, J k a c → (∃ a' c' k', f a = some (.inl a') ∧ g c = some (.inl c') ∧ k' < k ∧ J k' a' c') ∨ (∃ b d, f a = some (.inr b) ∧ g c = some (.inr d) ∧ Q b d) ∨ ∃ a' b d, 0 < k ∧ f a = some (.inl a') ∧ f a' = some (.inr b) ∧ g c = some (.inr d) ∧ Q b d) : ∀ (n k : Nat) (a : α) (c : γ), J k a c → k < n → ∃ b d, x_it f n a = some b ∧ x_it g n c = some d ∧ Q b d
  | 0, _, _, _, _, h => absurd h (Nat.not_lt_zero _)
  | n + 1, k, a, c, hJ, h => by
    rcases step k a c hJ with ⟨a', c', k', h1, h2, h3, h4⟩ | ⟨b, d, h1, h2, h3⟩ | ⟨a', b, d, h0, h1, h2, h3, h4⟩
    · unfold x_it
      rw [h1, h2]
      exact zlock2 J step n k' a' c' h4 (by omega)
    · unfold x_it
      rw [h1, h2]
      exact ⟨b, d, rfl, rfl, h3⟩
    · obtain ⟨m, rfl⟩ : ∃ m, n = m + 1 := ⟨n - 1, by omega⟩
      refine ⟨b, d, ?_, ?_, h4⟩
      · unfold x_it
        rw [h1]
        show x_it f (m + 1) a' = some b
        unfold x_it
        rw [h2]
      · unfold x_it
        rw [h3]
theorem zJA_row0 (h : zJA T R X F B P M n np nf nt nr par wt ans ad kd kn hd su td pt fc tp rw) : zJA T R X F (zsi B 76 5 (0 : Int32)) P (zsi M 0 47 (0 : Int32)) n np nf nt 0 par wt ans ad kd kn hd su td pt fc tp rw := by
  obtain ⟨h1, h2, h3, h4, h5, ⟨f1, f2, f3, f4, f5, f6, f7⟩, h7⟩ := h
  have cM : ∀ a b, ¬ (a = 0 ∧ b = 47) → (zsi M 0 47 (0 : Int32)).1 a b = M.1 a b := fun a b g2 => by rw [zsi_ne g2]
  have cB : ∀ a b, ¬ (a = 76 ∧ b = 5) → (zsi B 76 5 (0 : Int32)).1 a b = B.1 a b := fun a b g2 => by rw [zsi_ne g2]
  refine ⟨zIT_c h1 (fun a b g => cM a b (by omega)), zIP_c h2 rfl (fun a b g => cM a b (by omega)), zIQ_c h3 (fun _ => rfl) (fun a b g => cM a b (by omega)), zIF_c h4 (fun a b g => cM a b (by omega)), zIX_c h5 (fun a b g => cM a b (by omega)), ⟨by omega, fun i hi => absurd hi (Nat.not_lt_zero i), zsi_y ⟨rfl, rfl⟩, fun i hi => absurd hi (Nat.not_lt_zero i), zsi_y ⟨rfl, rfl⟩, fun i hi => absurd hi (Nat.not_lt_zero i), fun k hk => ?_⟩, zImg_k h7 (fun k => cM 32 k (by omega)) (cM 0 49 (by omega)) (fun a b g1 g2 g3 => cB a b (by omega))⟩
  rw [cB 78 k (by omega), cM 1 k (by omega)]
  exact f7 k hk
theorem zx_judges (hT : zIT T M n par wt ans) (hW : zWh n par ans) (hP : zIP R P M np ad kd kn hd su td) (hQ : zIQ R M pt) {R0 M0 A C : zM} (hE : zEv n par wt ans np ad kd kn hd su td pt T R0 P M0 A C) (hr : nr ≤ 20) (hrw : ∀ i, i < nr → rw i ≤ 9) (hB1 : B.1 76 5 = nI nr) (hB2 : ∀ i, i < nr → B.1 77 i = nI (rw i)) (hM2 : ∀ i, i < nr → M0.1 31 i = nI (rw i)) : ∃ a b, x_it (fun a9 => xX11_judge_L37 T B P a9.1 a9.2.1 a9.2.2) zFU (A, (-9 : Int32), (0 : Int32)) = some a ∧ x_it (fun a9 => xX12_judge_L35 (nI nr) a9.1 a9.2) zFU (C, (0 : Int32)) = some b ∧ Sum.elim (fun b11 : zM × Int32 => some (b11.2, b11.1)) (fun c12 : zM => some ((-9 : Int32), c12)) b = some (a.2, Sum.elim (fun b11 : zM × Int32 => b11.1) (fun c12 : zM => c12) b) ∧ zbR R0 a.1 ∧ zbM M0 (Sum.elim (fun b11 : zM × Int32 => b11.1) (fun c12 : zM => c12) b) := by
  refine zlock2 (α := zM × Int32 × Int32) (γ := zM × Int32) (fun k a c => ∃ (w : Nat) (A C : zM), w ≤ nr ∧ k = nr - w ∧ a = (A, -9, nI w) ∧ c = (C, nI w) ∧ zEv n par wt ans np ad kd kn hd su td pt T R0 P M0 A C) ?_ zFU nr (A, (-9 : Int32), (0 : Int32)) (C, (0 : Int32)) ⟨0, A, C, by omega, rfl, rfl, rfl, hE⟩ (Nat.lt_of_le_of_lt hr (by decide))
  rintro k a c ⟨w, A, C, hw, rfl, rfl, rfl, hE⟩
  have l20 : (20 : Int32) = nI 20 := rfl
  by_cases g : w = nr
  · subst g
    refine Or.inr (Or.inl ⟨(A, -9), .inr C, ?_, ?_, rfl, hE.2.2.1, hE.2.2.2.1⟩)
    · try dsimp only
      unfold xX11_judge_L37
      by_cases q : (20 : Int32) ≤ nI w
      · rw [if_pos q]
      · rw [if_neg q, hB1, if_pos (nI_le (by omega) (by omega))]
    · try dsimp only
      unfold xX12_judge_L35
      rw [if_pos (nI_le (by omega) (by omega))]
  · obtain ⟨a, b, r, m, S, ha, hb, hr', hm, E, hS, h1, h2⟩ := zx_play hT hW hP hQ hE
    have m31 : m.1 31 w = nI (rw w) := (E.2.2.2.1 31 w rfl).trans (hM2 w (by omega))
    have m77 := hB2 w (by omega)
    have hrww := hrw w (by omega)
    have v1 : r.1 62 10 = zo (-9) (S.2.1.map (fun x => x.1)) := h1.2.2.1
    have v2 : m.1 0 36 = zo (-1) (S.2.1.map (fun x => x.1)) := h2.2.2.1
    have key : ∃ t : Nat, t ≤ 9 ∧ xX11_judge_L37 T B P A (-9) (nI w) = (if t = rw w then some (.inl (r, -9, nI (w + 1))) else some (.inl (r, nI w, nI (w + 1)))) ∧ xX12_judge_L35 (nI nr) C (nI w) = (if t = rw w then some (.inl (m, nI (w + 1))) else some (.inr (.inl (m, nI w)))) := by
      have y1 : ¬ (20 : Int32) ≤ nI w := by rw [l20, nI_leI (by omega) (by omega)]; omega
      have y2 : ¬ nI nr ≤ nI w := by rw [nI_leI (by omega) (by omega)]; omega
      have l9 : (9 : Int32) = nI 9 := rfl
      cases hx : S.2.1 with
      | none =>
        rw [hx] at v1 v2
        have v1 : r.1 62 10 = -9 := v1
        have v2 : m.1 0 36 = -1 := v2
        have y3 : ¬ (0 : Int32) ≤ -1 := by decide
        refine ⟨9, Nat.le_refl _, ?_, ?_⟩
        · unfold xX11_judge_L37
          simp only [if_neg y1, hB1, if_neg y2, if_true, ha, hr', Option.bind_some, v1, if_neg (zin_w (show w < 20 by omega) (by decide)), nI_clamp (show w < 2 ^ 31 by omega), m77, nI_1]
          rw [l9]
          exact zifi (nI_eq (show 9 < 2 ^ 31 by decide) (show rw w < 2 ^ 31 by omega))
        · unfold xX12_judge_L35
          simp only [if_neg y2, hb, hm, Option.bind_some, v2, if_neg y3, if_neg (zin_w (show w < 20 by omega) (by decide)), nI_clamp (show w < 2 ^ 31 by omega), m31, nI_1]
          rw [l9]
          exact zifi ((nI_eq (show rw w < 2 ^ 31 by omega) (show 9 < 2 ^ 31 by decide)).trans eq_comm)
      | some x =>
        have hx4 := (hS.2.2.2.2.2.1 x hx).1
        rw [hx] at v1 v2
        have v1 : r.1 62 10 = nI x.1 := v1
        have v2 : m.1 0 36 = nI x.1 := v2
        have y3 : ¬ nI x.1 = (-9 : Int32) := fun z => by have := nI_pos (show x.1 < 2 ^ 31 by omega); rw [z] at this; exact this (by decide)
        refine ⟨x.1, by omega, ?_, ?_⟩
        · unfold xX11_judge_L37
          simp only [zlet, if_neg y1, hB1, if_neg y2, if_true, ha, hr', Option.bind_some, v1, if_neg y3, if_neg (zin_w (show w < 20 by omega) (by decide)), nI_clamp (show w < 2 ^ 31 by omega), m77, nI_1]
          exact zifi (nI_eq (show x.1 < 2 ^ 31 by omega) (show rw w < 2 ^ 31 by omega))
        · unfold xX12_judge_L35
          simp only [if_neg y2, hb, hm, Option.bind_some, v2, if_pos (nI_pos' (show x.1 < 2 ^ 31 by omega)), if_neg (zin_w (show w < 20 by omega) (by decide)), nI_clamp (show w < 2 ^ 31 by omega), m31, nI_1]
          exact zifi ((nI_eq (show rw w < 2 ^ 31 by omega) (show x.1 < 2 ^ 31 by omega)).trans eq_comm)
    obtain ⟨t, ht, k1, k2⟩ := key
    try dsimp only
    rw [k1, k2]
    by_cases y : t = rw w
    · rw [if_pos y, if_pos y]
      exact Or.inl ⟨_, _, nr - (w + 1), rfl, rfl, by omega, w + 1, _, _, by omega, rfl, rfl, rfl, E⟩
    · rw [if_neg y, if_neg y]
      refine Or.inr (Or.inr ⟨(r, nI w, nI (w + 1)), (r, nI w), _, by omega, rfl, ?_, rfl, rfl, E.2.2.1, E.2.2.2.1⟩)
      try dsimp only
      unfold xX11_judge_L37
      by_cases q : (20 : Int32) ≤ nI (w + 1)
      · rw [if_pos q]
      · rw [if_neg q, hB1]
        by_cases q2 : nI nr ≤ nI (w + 1)
        · rw [if_pos q2]
        · rw [if_neg q2, if_neg (fun z => by have := nI_pos (show w < 2 ^ 31 by omega); rw [z] at this; exact this (by decide))]
theorem zc_judge (h : zJA T R X F B P M n np nf nt nr par wt ans ad kd kn hd su td pt fc tp rw) (a1 a2 a3 : Int32) : zgo (xL_30 T R X F B P M a1 a2 a3) := by
  have hT := h.1
  have hP := h.2.1
  have hQ := h.2.2.1
  obtain ⟨f1, f2, f3, f4, f5, f6, f7⟩ := h.2.2.2.2.2.1
  unfold xL_30 xX11_judge xX12_judge
  rcases zarg_W hT with ⟨hW, h6, h7⟩ | ⟨-, h6, h7⟩
  · have h0 := zJA_row0 h
    obtain ⟨c, r, hc, hr, k1, k2, E⟩ := zEv_start (s := a1) hT hW hP hQ
    have e47 : r.1 0 47 = nI nr := (k1 0 47 rfl).trans f5
    have E2 : zEv n par wt ans np ad kd kn hd su td pt T R P (zsi M 0 47 (0 : Int32)) (zsi c 62 16 a1) (zsi (zsi r 0 47 (0 : Int32)) 0 45 a1) := by
      obtain ⟨y1, y2, y3, y4, y5⟩ := E
      have q : ∀ j k, ¬ (j = 0 ∧ k = 47) → (zsi (zsi r 0 47 (0 : Int32)) 0 45 a1).1 j k = (zsi r 0 45 a1).1 j k := fun j k g => by
        by_cases z : j = 0 ∧ k = 45
        · rw [zsi_y z, zsi_y z]
        · rw [zsi_ne z, zsi_ne z, zsi_ne g]
      obtain ⟨⟨x1, x2⟩, x3, x4, x5, x6⟩ := y2
      refine ⟨y1, ⟨⟨(q _ _ (by decide)).trans x1, fun i hi => ?_⟩, fun i hi => (q _ _ (by omega)).trans (x3 i hi), fun k hk => (q _ _ (by omega)).trans (x4 k hk), (q _ _ (by decide)).trans x5, fun p hp => ?_⟩, y3, fun j k g => ?_, ?_⟩
      · rw [q _ _ (by omega), q _ _ (by omega), q _ _ (by omega)]
        exact x2 i hi
      · rw [q _ _ (by omega), q _ _ (by omega), q _ _ (by omega)]
        exact ⟨(x6 p hp).1, (x6 p hp).2.1, (x6 p hp).2.2.1, fun w hw => (q _ _ (by omega)).trans ((x6 p hp).2.2.2 w hw)⟩
      · by_cases z : j = 0 ∧ k = 47
        · rw [zsi_y z, zsi_ne (by omega), zsi_y z]
        · rw [q j k z, zsi_ne (M := M) z]
          exact y4 j k g
      · rw [q _ _ (by decide)]
        exact y5
    obtain ⟨a, b, ha, hb, hab, k3, k4⟩ := zx_judges (B := B) hT hW hP hQ E2 f1 f2 f3 f4 (fun i hi => by rw [zsi_ne (by omega)]; exact f6 i hi)
    simp only [h6, h7, Option.bind_some, z10, if_false, zlet, hc, hr, e47, ha, hb, hab, if_true]
    exact zgo_i rfl (zInv_k h0 k3 zbF_r k4)
  · simp only [h6, h7, Option.bind_some, if_true, zx_ref3, zx_no3]
    exact zgo_i rfl (zInv_ref h zbR_r zbF_r (by decide))
end
