/-! what holds between the two all along -/
def zba (j k : Nat) : Bool := if j = 0 then decide (k = 12 ∨ k = 13 ∨ k = 21 ∨ k = 44 ∨ k = 47 ∨ k = 49) else decide (j ≤ 13 ∨ j = 28 ∨ j = 31 ∨ j = 32)
def zbM (M M' : zM) : Prop := ∀ j k, zba j k = true → M'.1 j k = M.1 j k
def zbR (R R' : zM) : Prop := ∀ j k, (j = 64 ∨ (j = 62 ∧ k = 2)) → R'.1 j k = R.1 j k
def zbF (F F' : zM) : Prop := ∀ j k, (j = 73 ∨ (j = 72 ∧ k = 1)) → F'.1 j k = F.1 j k
theorem zbM_r {M : zM} : zbM M M := fun _ _ _ => rfl
theorem zbM_t {A B C : zM} (h1 : zbM A B) (h2 : zbM B C) : zbM A C := fun j k g => (h2 j k g).trans (h1 j k g)
theorem zbR_r {R : zM} : zbR R R := fun _ _ _ => rfl
theorem zbR_t {A B C : zM} (h1 : zbR A B) (h2 : zbR B C) : zbR A C := fun j k g => (h2 j k g).trans (h1 j k g)
theorem zbF_r {F : zM} : zbF F F := fun _ _ _ => rfl
theorem zba_n {j k : Nat} (h : zba j k = true) : ¬ (14 ≤ j ∧ j ≤ 27) ∧ j ≠ 29 ∧ j ≠ 30 ∧ j ≤ 32 ∧ (j = 0 → k = 12 ∨ k = 13 ∨ k = 21 ∨ k = 44 ∨ k = 47 ∨ k = 49) := by
  unfold zba at h
  by_cases q : j = 0
  · rw [if_pos q] at h
    have := of_decide_eq_true h
    omega
  · rw [if_neg q] at h
    have := of_decide_eq_true h
    omega
/-- the image -/
def zImg (n np nf : Nat) (par wt ans kd kn hd su fc : Nat → Nat) (B M : zM) : Prop := (B.1 76 7 = 0 ∧ M.1 0 49 = 0) ∨ (B.1 76 7 = 1 ∧ M.1 0 49 = 1 ∧ ∃ (n1 np1 nf1 : Nat) (pt1 td1 : Nat → Nat), 1 ≤ n1 ∧ n1 ≤ n ∧ np1 ≤ np ∧ nf1 ≤ nf ∧ zVQ pt1 ∧ (∀ p, p < np1 → td1 p < 2 ^ 24 ∧ (kd p ≠ 4 → td1 p = 0)) ∧ B.1 76 8 = nI n1 ∧ B.1 76 9 = nI np1 ∧ B.1 76 10 = nI nf1 ∧ (∀ k, k < 4 → B.1 79 k = nI (pt1 k)) ∧ (∀ p, p < np1 → B.1 80 p = nI (td1 p)) ∧ (∀ i, i < n1 → M.1 32 i = nI (par i) ∧ M.1 32 (24 + i) = nI (wt i) ∧ M.1 32 (48 + i) = nI (ans i) ∧ M.1 32 (72 + i) = nI (zwlen par i)) ∧ (∀ p, p < np1 → M.1 32 (96 + p) = nI (kd p) ∧ M.1 32 (100 + p) = nI (kn p) ∧ M.1 32 (104 + p) = nI (hd p) ∧ M.1 32 (108 + p) = nI (su p) ∧ M.1 32 (112 + p) = nI (td1 p)) ∧ (∀ k, k < 4 → M.1 32 (116 + k) = nI (pt1 k)) ∧ (∀ i, i < nf1 → M.1 32 (120 + i) = nI (fc i)) ∧ M.1 32 125 = nI n1 ∧ M.1 32 126 = nI np1 ∧ M.1 32 127 = nI nf1)
def zIT (T M : zM) (n : Nat) (par wt ans : Nat → Nat) : Prop := zVT n par wt ans ∧ zCS T n par wt ans ∧ zRT M n par wt ans ∧ zRL M n par
def zIP (R : zM) (P : zP) (M : zM) (np : Nat) (ad kd kn hd su td : Nat → Nat) : Prop := zVP np kd kn hd su td ∧ R.1 62 2 = nI np ∧ zCP P ad np kd kn hd su td ∧ zRP M np kd kn hd su td
def zIQ (R M : zM) (pt : Nat → Nat) : Prop := zVQ pt ∧ zCQ R pt ∧ zRQ M pt ∧ M.1 12 0 = nI 20 ∧ M.1 12 1 = nI 20 ∧ M.1 12 2 = nI 5 ∧ M.1 12 3 = nI 1
def zIF (F M : zM) (nf : Nat) (fc : Nat → Nat) : Prop := nf < 6 ∧ (∀ i, i < nf → fc i < 1024) ∧ F.1 72 1 = nI nf ∧ (∀ i, i < nf → F.1 73 i = nI (fc i)) ∧ M.1 0 44 = nI nf ∧ ∀ i, i < nf → M.1 28 i = nI (fc i)
def zIX (X M : zM) (nt : Nat) (tp : Nat → Nat) : Prop := X.1 70 1 = nI nt ∧ zTp (X.1 71) nt tp ∧ M.1 0 21 = nI nt ∧ zTp (M.1 13) nt tp
def zIB (B M : zM) (nr : Nat) (rw : Nat → Nat) : Prop := nr ≤ 20 ∧ (∀ i, i < nr → rw i ≤ 9) ∧ B.1 76 5 = nI nr ∧ (∀ i, i < nr → B.1 77 i = nI (rw i)) ∧ M.1 0 47 = nI nr ∧ (∀ i, i < nr → M.1 31 i = nI (rw i)) ∧ ∀ k, k < 7 → B.1 78 k = M.1 1 k
def zJA (T R X F B : zM) (P : zP) (M : zM) (n np nf nt nr : Nat) (par wt ans ad kd kn hd su td pt fc tp rw : Nat → Nat) : Prop := zIT T M n par wt ans ∧ zIP R P M np ad kd kn hd su td ∧ zIQ R M pt ∧ zIF F M nf fc ∧ zIX X M nt tp ∧ zIB B M nr rw ∧ zImg n np nf par wt ans kd kn hd su fc B M
def zInv (T R X F B : zM) (P : zP) (M : zM) : Prop := ∃ n np nf nt nr par wt ans ad kd kn hd su td pt fc tp rw, zJA T R X F B P M n np nf nt nr par wt ans ad kd kn hd su td pt fc tp rw
section
variable {T R R' X F F' B : zM} {P : zP} {M M' : zM} {n np nf nt nr : Nat} {par wt ans ad kd kn hd su td pt fc tp rw : Nat → Nat}
theorem zIT_k (h : zIT T M n par wt ans) (hM : zbM M M') : zIT T M' n par wt ans := by
  obtain ⟨h1, h2, h3, h4⟩ := h
  refine ⟨h1, h2, ⟨(hM 0 12 rfl).trans h3.1, fun i hi => ?_⟩, fun i hi => (hM 5 i rfl).trans (h4 i hi)⟩
  rw [hM 2 i rfl, hM 3 i rfl, hM 4 i rfl]
  exact h3.2 i hi
theorem zIP_k (h : zIP R P M np ad kd kn hd su td) (hR : zbR R R') (hM : zbM M M') : zIP R' P M' np ad kd kn hd su td := by
  obtain ⟨h1, h2, h3, h4⟩ := h
  refine ⟨h1, (hR 62 2 (Or.inr ⟨rfl, rfl⟩)).trans h2, h3, (hM 0 13 rfl).trans h4.1, fun p hp => ?_⟩
  rw [hM 6 p rfl, hM 7 p rfl, hM 8 p rfl, hM 9 p rfl, hM 10 p rfl]
  exact h4.2 p hp
theorem zIQ_k (h : zIQ R M pt) (hR : zbR R R') (hM : zbM M M') : zIQ R' M' pt := by
  obtain ⟨h1, h2, h3, h4, h5, h6, h7⟩ := h
  exact ⟨h1, fun k hk => (hR 64 k (Or.inl rfl)).trans (h2 k hk), fun k hk => (hM 11 k rfl).trans (h3 k hk), (hM 12 0 rfl).trans h4, (hM 12 1 rfl).trans h5, (hM 12 2 rfl).trans h6, (hM 12 3 rfl).trans h7⟩
theorem zIF_k (h : zIF F M nf fc) (hF : zbF F F') (hM : zbM M M') : zIF F' M' nf fc := by
  obtain ⟨h1, h2, h3, h4, h5, h6⟩ := h
  exact ⟨h1, h2, (hF 72 1 (Or.inr ⟨rfl, rfl⟩)).trans h3, fun i hi => (hF 73 i (Or.inl rfl)).trans (h4 i hi), (hM 0 44 rfl).trans h5, fun i hi => (hM 28 i rfl).trans (h6 i hi)⟩
theorem zIX_k (h : zIX X M nt tp) (hM : zbM M M') : zIX X M' nt tp := by
  obtain ⟨h1, h2, h3, h4⟩ := h
  exact ⟨h1, h2, (hM 0 21 rfl).trans h3, h4.1, fun i hi => by rw [hM 13 i rfl]; exact h4.2 i hi⟩
theorem zIB_k (h : zIB B M nr rw) (hM : zbM M M') : zIB B M' nr rw := by
  obtain ⟨h1, h2, h3, h4, h5, h6, h7⟩ := h
  exact ⟨h1, h2, h3, h4, (hM 0 47 rfl).trans h5, fun i hi => (hM 31 i rfl).trans (h6 i hi), fun k hk => (h7 k hk).trans (hM 1 k rfl).symm⟩
theorem zImg_k (h : zImg n np nf par wt ans kd kn hd su fc B M) (h32 : ∀ k, M'.1 32 k = M.1 32 k) (h49 : M'.1 0 49 = M.1 0 49) {B' : zM} (hB : ∀ j k, ¬ (j = 76 ∧ k = 5) → j ≠ 77 → j ≠ 78 → B'.1 j k = B.1 j k) : zImg n np nf par wt ans kd kn hd su fc B' M' := by
  rcases h with ⟨g1, g2⟩ | ⟨g1, g2, n1, np1, nf1, pt1, td1, k1, k2, k3, k4, k5, k6, k7, k8, k9, k10, k11, k12, k13, k14, k15, k16, k17, k18⟩
  · exact Or.inl ⟨(hB 76 7 (by decide) (by decide) (by decide)).trans g1, h49.trans g2⟩
  · refine Or.inr ⟨(hB 76 7 (by decide) (by decide) (by decide)).trans g1, h49.trans g2, n1, np1, nf1, pt1, td1, k1, k2, k3, k4, k5, k6, (hB 76 8 (by decide) (by decide) (by decide)).trans k7, (hB 76 9 (by decide) (by decide) (by decide)).trans k8, (hB 76 10 (by decide) (by decide) (by decide)).trans k9, fun k hk => (hB 79 k (by omega) (by decide) (by decide)).trans (k10 k hk), fun p hp => (hB 80 p (by omega) (by decide) (by decide)).trans (k11 p hp), fun i hi => ?_, fun p hp => ?_, fun k hk => (h32 _).trans (k14 k hk), fun i hi => (h32 _).trans (k15 i hi), (h32 _).trans k16, (h32 _).trans k17, (h32 _).trans k18⟩
    · rw [h32, h32, h32, h32]
      exact k12 i hi
    · rw [h32, h32, h32, h32, h32]
      exact k13 p hp
theorem zJA_k (h : zJA T R X F B P M n np nf nt nr par wt ans ad kd kn hd su td pt fc tp rw) (hR : zbR R R') (hF : zbF F F') (hM : zbM M M') : zJA T R' X F' B P M' n np nf nt nr par wt ans ad kd kn hd su td pt fc tp rw := by
  obtain ⟨h1, h2, h3, h4, h5, h6, h7⟩ := h
  exact ⟨zIT_k h1 hM, zIP_k h2 hR hM, zIQ_k h3 hR hM, zIF_k h4 hF hM, zIX_k h5 hM, zIB_k h6 hM, zImg_k h7 (fun k => hM 32 k rfl) (hM 0 49 rfl) (fun _ _ _ _ _ => rfl)⟩
theorem zInv_k (h : zJA T R X F B P M n np nf nt nr par wt ans ad kd kn hd su td pt fc tp rw) (hR : zbR R R') (hF : zbF F F') (hM : zbM M M') : zInv T R' X F' B P M' := ⟨_, _, _, _, _, _, _, _, _, _, _, _, _, _, _, _, _, _, zJA_k h hR hF hM⟩
/-- a refusal counts on both sides -/
theorem zInv_ref (h : zJA T R X F B P M n np nf nt nr par wt ans ad kd kn hd su td pt fc tp rw) (hR : zbR R R') (hF : zbF F F') {r : Nat} (hr : r < 7) : zInv T R' X F' (zsi B 78 r (B.1 78 r + 1)) P (zsi M 1 r (M.1 1 r + 1)) := by
  obtain ⟨h1, h2, h3, h4, h5, h6, h7⟩ := h
  have hM : ∀ j k, j ≠ 1 → (zsi M 1 r (M.1 1 r + 1)).1 j k = M.1 j k := fun j k g => zsi_ne (fun z => g z.1)
  have hB : ∀ j k, j ≠ 78 → (zsi B 78 r (B.1 78 r + 1)).1 j k = B.1 j k := fun j k g => zsi_ne (fun z => g z.1)
  refine ⟨n, np, nf, nt, nr, par, wt, ans, ad, kd, kn, hd, su, td, pt, fc, tp, rw, ⟨h1.1, h1.2.1, ⟨(hM 0 12 (by decide)).trans h1.2.2.1.1, fun i hi => ?_⟩, fun i hi => (hM 5 i (by decide)).trans (h1.2.2.2 i hi)⟩, ⟨h2.1, (hR 62 2 (Or.inr ⟨rfl, rfl⟩)).trans h2.2.1, h2.2.2.1, (hM 0 13 (by decide)).trans h2.2.2.2.1, fun p hp => ?_⟩, ⟨h3.1, fun k hk => (hR 64 k (Or.inl rfl)).trans (h3.2.1 k hk), fun k hk => (hM 11 k (by decide)).trans (h3.2.2.1 k hk), (hM 12 0 (by decide)).trans h3.2.2.2.1, (hM 12 1 (by decide)).trans h3.2.2.2.2.1, (hM 12 2 (by decide)).trans h3.2.2.2.2.2.1, (hM 12 3 (by decide)).trans h3.2.2.2.2.2.2⟩, ⟨h4.1, h4.2.1, (hF 72 1 (Or.inr ⟨rfl, rfl⟩)).trans h4.2.2.1, fun i hi => (hF 73 i (Or.inl rfl)).trans (h4.2.2.2.1 i hi), (hM 0 44 (by decide)).trans h4.2.2.2.2.1, fun i hi => (hM 28 i (by decide)).trans (h4.2.2.2.2.2 i hi)⟩, ⟨h5.1, h5.2.1, (hM 0 21 (by decide)).trans h5.2.2.1, h5.2.2.2.1, fun i hi => ?_⟩, ⟨h6.1, h6.2.1, (hB 76 5 (by decide)).trans h6.2.2.1, fun i hi => (hB 77 i (by decide)).trans (h6.2.2.2.1 i hi), (hM 0 47 (by decide)).trans h6.2.2.2.2.1, fun i hi => (hM 31 i (by decide)).trans (h6.2.2.2.2.2.1 i hi), fun k hk => ?_⟩, zImg_k h7 (fun k => hM 32 k (by decide)) (hM 0 49 (by decide)) (fun j k _ _ g => hB j k g)⟩
  · rw [hM 2 i (by decide), hM 3 i (by decide), hM 4 i (by decide)]
    exact h1.2.2.1.2 i hi
  · rw [hM 6 p (by decide), hM 7 p (by decide), hM 8 p (by decide), hM 9 p (by decide), hM 10 p (by decide)]
    exact h2.2.2.2.2 p hp
  · rw [hM 13 i (by decide)]
    exact h5.2.2.2.2 i hi
  · have h := h6.2.2.2.2.2.2
    rw [zsi_g, zsi_g]
    by_cases g : k = r
    · rw [if_pos ⟨rfl, g⟩, if_pos ⟨rfl, g⟩, h r hr]
    · rw [if_neg (fun z => g z.2), if_neg (fun z => g z.2)]
      exact h k hk
/-! refusals -/
theorem zx_ref1 : xX11_refuse B (-1) = some (-1, zsi B 78 1 (B.1 78 1 + 1)) := by
  unfold xX11_refuse
  simp only [zlet]
  rw [if_neg (by decide), if_neg (by decide), if_neg (by decide)]
  rfl
theorem zx_ref2 : xX11_refuse B (-2) = some (-2, zsi B 78 2 (B.1 78 2 + 1)) := by
  unfold xX11_refuse
  simp only [zlet]
  rw [if_neg (by decide), if_neg (by decide), if_neg (by decide)]
  rfl
theorem zx_ref3 : xX11_refuse B (-3) = some (-3, zsi B 78 3 (B.1 78 3 + 1)) := by
  unfold xX11_refuse
  simp only [zlet]
  rw [if_neg (by decide), if_neg (by decide), if_neg (by decide)]
  rfl
theorem zx_ref4 : xX11_refuse B (-4) = some (-4, zsi B 78 4 (B.1 78 4 + 1)) := by
  unfold xX11_refuse
  simp only [zlet]
  rw [if_neg (by decide), if_neg (by decide), if_neg (by decide)]
  rfl
theorem zx_ref6 : xX11_refuse B (-6) = some (-6, zsi B 78 6 (B.1 78 6 + 1)) := by
  unfold xX11_refuse
  simp only [zlet]
  rw [if_neg (by decide), if_neg (by decide), if_neg (by decide)]
  rfl
theorem zx_no1 : xX12_no M (-1) = some (-1, zsi M 1 1 (M.1 1 1 + 1)) := by
  unfold xX12_no
  simp only [zlet]
  rw [if_neg (by decide)]
  rfl
theorem zx_no2 : xX12_no M (-2) = some (-2, zsi M 1 2 (M.1 1 2 + 1)) := by
  unfold xX12_no
  simp only [zlet]
  rw [if_neg (by decide)]
  rfl
theorem zx_no3 : xX12_no M (-3) = some (-3, zsi M 1 3 (M.1 1 3 + 1)) := by
  unfold xX12_no
  simp only [zlet]
  rw [if_neg (by decide)]
  rfl
theorem zx_no4 : xX12_no M (-4) = some (-4, zsi M 1 4 (M.1 1 4 + 1)) := by
  unfold xX12_no
  simp only [zlet]
  rw [if_neg (by decide)]
  rfl
theorem zx_no6 : xX12_no M (-6) = some (-6, zsi M 1 6 (M.1 1 6 + 1)) := by
  unfold xX12_no
  simp only [zlet]
  rw [if_neg (by decide)]
  rfl
theorem zx_noL1 : xX12_noLong M (-1) = some (4000000000000000001, zsi M 1 1 (M.1 1 1 + 1)) := by
  unfold xX12_noLong
  simp only [zlet]
  rw [if_neg (by decide)]
  rfl
theorem zx_noL2 : xX12_noLong M (-2) = some (4000000000000000002, zsi M 1 2 (M.1 1 2 + 1)) := by
  unfold xX12_noLong
  simp only [zlet]
  rw [if_neg (by decide)]
  rfl
theorem zx_noL3 : xX12_noLong M (-3) = some (4000000000000000003, zsi M 1 3 (M.1 1 3 + 1)) := by
  unfold xX12_noLong
  simp only [zlet]
  rw [if_neg (by decide)]
  rfl
theorem zx_refL1 : xX11_refuseLong B (-1) = some (4000000000000000001, zsi B 78 1 (B.1 78 1 + 1)) := by
  have e : (4000000000000000000 : Int64) - ((-1 : Int32)).toInt64 = 4000000000000000001 := by decide
  unfold xX11_refuseLong
  rw [zx_ref1]
  simp only [Option.bind_some, e]
theorem zx_refL2 : xX11_refuseLong B (-2) = some (4000000000000000002, zsi B 78 2 (B.1 78 2 + 1)) := by
  have e : (4000000000000000000 : Int64) - ((-2 : Int32)).toInt64 = 4000000000000000002 := by decide
  unfold xX11_refuseLong
  rw [zx_ref2]
  simp only [Option.bind_some, e]
theorem zx_refL3 : xX11_refuseLong B (-3) = some (4000000000000000003, zsi B 78 3 (B.1 78 3 + 1)) := by
  have e : (4000000000000000000 : Int64) - ((-3 : Int32)).toInt64 = 4000000000000000003 := by decide
  unfold xX11_refuseLong
  rw [zx_ref3]
  simp only [Option.bind_some, e]
theorem zx_low1 : xX12_lower M (-1) = some (1000000001, zsi M 1 1 (M.1 1 1 + 1)) := by
  unfold xX12_lower
  simp only [zlet]
  rw [if_neg (by decide)]
  rfl
theorem zx_low3 : xX12_lower M (-3) = some (1000000003, zsi M 1 3 (M.1 1 3 + 1)) := by
  unfold xX12_lower
  simp only [zlet]
  rw [if_neg (by decide)]
  rfl
theorem zx_low4 : xX12_lower M (-4) = some (1000000004, zsi M 1 4 (M.1 1 4 + 1)) := by
  unfold xX12_lower
  simp only [zlet]
  rw [if_neg (by decide)]
  rfl
theorem zx_low6 : xX12_lower M (-6) = some (1000000006, zsi M 1 6 (M.1 1 6 + 1)) := by
  unfold xX12_lower
  simp only [zlet]
  rw [if_neg (by decide)]
  rfl
/-! what an argument is -/
theorem zarg_w (hT : zIT T M n par wt ans) (v : Int32) : (∃ w, w < n ∧ v = nI w ∧ xX10_has T v = some 1 ∧ xX12_isWord M v = some 1) ∨ ((v < 0 ∨ nI n ≤ v) ∧ xX10_has T v = some 0 ∧ xX12_isWord M v = some 0) := by
  have hn := hT.1.2.1
  rcases zvc v n (by omega) with ⟨w, hw, rfl⟩ | h
  · refine Or.inl ⟨w, hw, rfl, zx_has hn hT.2.1.1.1 hw, ?_⟩
    unfold xX12_isWord
    rw [if_neg (nI_pos (by omega)), hT.2.2.1.1, if_neg (by rw [nI_leI (by omega) (by omega)]; omega)]
  · refine Or.inr ⟨h, zx_hasnt hn hT.2.1.1.1 h, ?_⟩
    unfold xX12_isWord
    by_cases g : v < 0
    · rw [if_pos g]
    · rw [if_neg g, hT.2.2.1.1, if_pos (h.resolve_left g)]
theorem zarg_p (hP : zIP R P M np ad kd kn hd su td) (v : Int32) : (∃ p, p < np ∧ v = nI p ∧ xX6_playerAt R P v = some (some (ad p)) ∧ xX12_isPlayer M v = some 1) ∨ (xX6_playerAt R P v = some none ∧ xX12_isPlayer M v = some 0) := by
  have hnp := hP.1.1
  rcases zvc v np (by omega) with ⟨p, hp, rfl⟩ | h
  · refine Or.inl ⟨p, hp, rfl, ?_, ?_⟩
    · rw [zx_playerAt hnp hP.2.1 hp, (hP.2.2.1 p hp).1]
    · unfold xX12_isPlayer
      rw [if_neg (nI_pos (by omega)), hP.2.2.2.1, if_neg (by rw [nI_leI (by omega) (by omega)]; omega)]
  · refine Or.inr ⟨?_, ?_⟩
    · unfold xX6_playerAt
      by_cases g : v < 0
      · rw [if_pos g]
      · rw [if_neg g, hP.2.1]
        by_cases g2 : (4 : Int32) ≤ v
        · rw [if_pos g2]
        · rw [if_neg g2, if_pos (h.resolve_left g)]
    · unfold xX12_isPlayer
      by_cases g : v < 0
      · rw [if_pos g]
      · rw [if_neg g, hP.2.2.2.1, if_pos (h.resolve_left g)]
theorem zarg_W (hT : zIT T M n par wt ans) : (zWh n par ans ∧ xX10_isWhole T = some 1 ∧ xX12_isWhole M = some 1) ∨ (¬ zWh n par ans ∧ xX10_isWhole T = some 0 ∧ xX12_isWhole M = some 0) := by
  obtain ⟨h1, h2, h3, h4⟩ := hT
  obtain ⟨r, hr, hr2⟩ := zx_isWhole h1 h3
  rcases h2.2.2.2.2 with ⟨g1, g2⟩ | ⟨g1, g2⟩
  · refine Or.inl ⟨g2, ?_, ?_⟩
    · unfold xX10_isWhole
      rw [g1, if_neg (by decide)]
    · rcases hr2 with ⟨rfl, -⟩ | ⟨-, q⟩
      · exact hr
      · exact absurd g2 q
  · refine Or.inr ⟨g2, ?_, ?_⟩
    · unfold xX10_isWhole
      rw [g1, if_neg (by decide)]
    · rcases hr2 with ⟨-, q⟩ | ⟨rfl, -⟩
      · exact absurd q g2
      · exact hr
theorem zarg_part (v : Int32) : (∃ p, p ≤ 1 ∧ v = nI p ∧ xX11_isNoPart v = some 0 ∧ xX12_isIn v 0 1 = some 1) ∨ (xX11_isNoPart v = some 1 ∧ xX12_isIn v 0 1 = some 0) := by
  rcases zvc v 2 (by decide) with ⟨p, hp, rfl⟩ | h
  · have hc : p = 0 ∨ p = 1 := by omega
    rcases hc with rfl | rfl
    · exact Or.inl ⟨0, by decide, rfl, by decide, by decide⟩
    · exact Or.inl ⟨1, by decide, rfl, by decide, by decide⟩
  · refine Or.inr ⟨?_, ?_⟩
    · unfold xX11_isNoPart
      rw [if_neg, if_neg]
      · rintro rfl
        revert h
        decide
      · rintro rfl
        revert h
        decide
    · unfold xX12_isIn
      by_cases g : v < 0
      · rw [if_pos g]
      · have h2 := h.resolve_left g
        rw [if_neg g, if_pos]
        rw [Int32.lt_iff_toInt_lt]
        rw [Int32.le_iff_toInt_le, nI_toInt (by decide)] at h2
        have : ((1 : Int32)).toInt = 1 := by decide
        omega
/-- too small, a number, too great -/
theorem zarg_b (v : Int32) {lo hi : Nat} (h1 : lo ≤ hi) (h2 : hi < 1000) : (v < nI lo ∧ xX12_bound v (nI lo) (nI hi) = some (-4)) ∨ (∃ k, lo ≤ k ∧ k ≤ hi ∧ v = nI k ∧ xX12_bound v (nI lo) (nI hi) = some 0) ∨ (nI hi < v ∧ xX12_bound v (nI lo) (nI hi) = some (-6)) := by
  by_cases g1 : nI lo ≤ v
  · by_cases g2 : v ≤ nI hi
    · right; left
      have hv0 : ¬ v < 0 := by
        rw [Int32.le_iff_toInt_le, nI_toInt (by omega)] at g1
        rw [Int32.lt_iff_toInt_lt]
        have : ((0 : Int32)).toInt = 0 := by decide
        omega
      obtain ⟨k, hk, rfl⟩ := nI_of hv0
      have e1 := (nI_leI (a := lo) (b := k) (by omega) hk).mp g1
      have e2 := (nI_leI (a := k) (b := hi) hk (by omega)).mp g2
      refine ⟨k, e1, e2, rfl, ?_⟩
      unfold xX12_bound
      rw [if_pos g1, if_pos g2]
    · right; right
      refine ⟨?_, ?_⟩
      · rw [Int32.lt_iff_toInt_lt]
        rw [Int32.le_iff_toInt_le] at g2
        omega
      · unfold xX12_bound
        rw [if_pos g1, if_neg g2]
  · left
    refine ⟨?_, ?_⟩
    · rw [Int32.lt_iff_toInt_lt]
      rw [Int32.le_iff_toInt_le] at g1
      omega
    · unfold xX12_bound
      rw [if_neg g1]
theorem zilt {v w : Int32} : (v < w) = (v.toInt < w.toInt) := propext Int32.lt_iff_toInt_lt
theorem zile {v w : Int32} : (v ≤ w) = (v.toInt ≤ w.toInt) := propext Int32.le_iff_toInt_le
end
