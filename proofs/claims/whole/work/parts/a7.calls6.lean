/-! single calls: who had it, silence -/
section
variable {T T' R R' X X' F F' B B' : zM} {P P' : zP} {M M' : zM} {n np nf nt nr : Nat} {par wt ans ad kd kn hd su td pt fc tp rw : Nat → Nat}
def zod (c i : Nat) : Nat := c / 10 ^ i % 10
def zse (c : Nat) : Nat → Int32
  | 0 => 0
  | i + 1 => zse c i ||| ((1 : Int32) <<< (nI (zod c i) &&& 31))
def zOk (nf c i : Nat) : Prop := zod c i < nf ∧ ¬ ((zse c i >>> (nI (zod c i) &&& 31)) &&& (1 : Int32)) = (1 : Int32)
def zfil (A : zM) (r c : Nat) : Nat → zM
  | 0 => A
  | i + 1 => zsi (zfil A r c i) r i (nI (zod c i))
theorem zfil_get {A : zM} {r c : Nat} : ∀ i k, k < i → (zfil A r c i).1 r k = nI (zod c k)
  | i + 1, k, h => by
    show (zsi (zfil A r c i) r i (nI (zod c i))).1 r k = _
    by_cases g : k = i
    · rw [g, zsi_y ⟨rfl, rfl⟩]
    · rw [zsi_ne (fun z => g z.2)]
      exact zfil_get i k (by omega)
theorem zfil_ne {A : zM} {r c : Nat} {j k : Nat} (h : j ≠ r) : ∀ i, (zfil A r c i).1 j k = A.1 j k
  | 0 => rfl
  | i + 1 => by
    show (zsi (zfil A r c i) r i (nI (zod c i))).1 j k = _
    rw [zsi_ne (fun z => h z.1)]
    exact zfil_ne h i
theorem zfirst (Q : Nat → Prop) : ∀ k, ∃ i, i ≤ k ∧ (∀ j, j < i → Q j) ∧ (i = k ∨ ¬ Q i)
  | 0 => ⟨0, Nat.le_refl _, fun j h => absurd h (Nat.not_lt_zero j), Or.inl rfl⟩
  | k + 1 => by
    obtain ⟨i, h1, h2, h3⟩ := zfirst Q k
    rcases h3 with rfl | h3
    · by_cases g : Q i
      · refine ⟨i + 1, Nat.le_refl _, fun j h => ?_, Or.inl rfl⟩
        by_cases e : j = i
        · rw [e]; exact g
        · exact h2 j (by omega)
      · exact ⟨i, by omega, h2, Or.inr g⟩
    · exact ⟨i, by omega, h2, Or.inr h3⟩
theorem zdig {c i : Nat} (hc : c < 2 ^ 31) : nI (c / 10 ^ i) - nI (c / 10 ^ i) / (10 : Int32) * (10 : Int32) = nI (zod c i) := by
  have h1 : c / 10 ^ i ≤ c := Nat.div_le_self _ _
  rw [nI_10, nI_div (by omega) (by decide), nI_mul, nI_sub (Nat.div_mul_le_self _ 10)]
  unfold zod
  rw [Nat.mod_eq_sub_div_mul]
theorem zdig2 {c i : Nat} (hc : c < 2 ^ 31) : nI (c / 10 ^ i) / (10 : Int32) = nI (c / 10 ^ (i + 1)) := by
  have h1 : c / 10 ^ i ≤ c := Nat.div_le_self _ _
  rw [nI_10, nI_div (by omega) (by decide), Nat.div_div_eq_div_mul, Nat.pow_succ]
theorem zod_lt {c i : Nat} : zod c i < 10 := Nat.mod_lt _ (by decide)
theorem zc_had (h : zJA T R X F B P M n np nf nt nr par wt ans ad kd kn hd su td pt fc tp rw) (a1 a2 a3 : Int32) : zgo (xL_25 T R X F B P M a1 a2 a3) := by
  obtain ⟨f1, f2, f3, f4, f5, f6⟩ := h.2.2.2.1
  have hb := zarg_b a1 (lo := 0) (hi := 5) (by decide) (by decide)
  rw [nI_0, ← zl5] at hb
  unfold xL_25 xX11_had xX12_had
  rcases hb with ⟨g, b1⟩ | ⟨k, -, hk, rfl, b1⟩ | ⟨g, b1⟩
  · have g0 : ¬ 0 ≤ a1 := by rw [zile]; rw [zilt] at g; omega
    simp only [if_neg g0, b1, Option.bind_some, zx_ref4, if_neg (show ¬ (-4 : Int32) = 0 by decide), zx_no4, if_true]
    exact zgo_i rfl (zInv_ref h zbR_r zbF_r (by decide))
  · have g9 : nI k ≤ (5 : Int32) := by rw [zl5]; exact nI_le hk (by decide)
    simp only [if_pos (nI_pos' (show k < 2 ^ 31 by omega)), if_pos g9, b1, Option.bind_some, if_true]
    by_cases g : a2 < 0
    · have g0 : ¬ 0 ≤ a2 := by rw [zile]; rw [zilt] at g; omega
      simp only [if_pos g, if_neg g0, zx_ref1, zx_no1, Option.bind_some, if_true]
      exact zgo_i rfl (zInv_ref h zbR_r zbF_r (by decide))
    · obtain ⟨c, hc, rfl⟩ := nI_of g
      simp only [if_neg g, if_pos (nI_pos' hc)]
      obtain ⟨i, hi, hok, hend⟩ := zfirst (zOk nf c) k
      have stepF : ∀ j, 0 ≤ j → j < i → xX3_takeOrder_L8 (nI k) (zfil F 74 c j) (nI (c / 10 ^ j)) (zse c j) (nI j) = some (.inl (zfil F 74 c (j + 1), nI (c / 10 ^ (j + 1)), zse c (j + 1), nI (j + 1))) := by
        intro j _ hj
        obtain ⟨o1, o2⟩ := hok j hj
        have hd := zod_lt (c := c) (i := j)
        unfold xX3_takeOrder_L8
        simp only [zlet]
        rw [if_neg (by rw [nI_leI (by omega) (by omega)]; omega), if_neg (by rw [zl5, nI_leI (by decide) (by omega)]; omega), zdig hc, if_neg (nI_pos (by omega)), zfil_ne (by decide), f3, if_neg (by rw [nI_leI (by omega) (by omega)]; omega), if_neg o2, if_neg (nI_in (by omega) (by decide)), nI_clamp (by omega), zdig2 hc, nI_1]
        rfl
      have stepM : ∀ j, 0 ≤ j → j < i → xX12_had_L36 (nI k) (zfil M 29 c j) (nI (c / 10 ^ j)) (zse c j) (nI j) = some (.inl (zfil M 29 c (j + 1), nI (c / 10 ^ (j + 1)), zse c (j + 1), nI (j + 1))) := by
        intro j _ hj
        obtain ⟨o1, o2⟩ := hok j hj
        have hd := zod_lt (c := c) (i := j)
        unfold xX12_had_L36
        simp only [zlet]
        rw [if_neg (by rw [nI_leI (by omega) (by omega)]; omega), zdig hc, zfil_ne (by decide), f5, if_neg (by rw [nI_leI (by omega) (by omega)]; omega), if_neg o2, if_neg (nI_in (by omega) (by decide)), nI_clamp (by omega), zdig2 hc, nI_1]
        rfl
      have hd := zod_lt (c := c) (i := i)
      have kF : zbF F (zfil F 74 c i) := fun j k g => zfil_ne (by omega) i
      have kM : zbM M (zfil M 29 c i) := fun j k g => zfil_ne (by rintro rfl; exact absurd g (by simp [zba])) i
      rcases Nat.lt_or_ge i k with hik | hik
      · have hno := hend.resolve_left (by omega)
        have e5 : ¬ (5 : Int32) ≤ nI i := by rw [zl5, nI_leI (by decide) (by omega)]; omega
        have lastF : xX3_takeOrder_L8 (nI k) (zfil F 74 c i) (nI (c / 10 ^ i)) (zse c i) (nI i) = some (.inr (.inl (zfil F 74 c i))) := by
          unfold xX3_takeOrder_L8
          simp only [zlet]
          rw [if_neg (by rw [nI_leI (by omega) (by omega)]; omega), if_neg e5, zdig hc, if_neg (nI_pos (by omega)), zfil_ne (by decide), f3]
          by_cases y : zod c i < nf
          · rw [if_neg (by rw [nI_leI (by omega) (by omega)]; omega), if_pos (Classical.byContradiction fun z => hno ⟨y, z⟩)]
          · rw [if_pos (nI_le (by omega) (by omega))]
        have lastM : xX12_had_L36 (nI k) (zfil M 29 c i) (nI (c / 10 ^ i)) (zse c i) (nI i) = some (.inr (.inl (zfil M 29 c i))) := by
          unfold xX12_had_L36
          simp only [zlet]
          rw [if_neg (by rw [nI_leI (by omega) (by omega)]; omega), zdig hc, zfil_ne (by decide), f5]
          by_cases y : zod c i < nf
          · rw [if_neg (by rw [nI_leI (by omega) (by omega)]; omega), if_pos (Classical.byContradiction fun z => hno ⟨y, z⟩)]
          · rw [if_pos (nI_le (by omega) (by omega))]
        have rF : x_it (fun a9 => xX3_takeOrder_L8 (nI k) a9.1 a9.2.1 a9.2.2.1 a9.2.2.2) zFU (F, nI c, (0 : Int32), (0 : Int32)) = some (.inl (zfil F 74 c i)) :=
          zfor (fun j => (zfil F 74 c j, nI (c / 10 ^ j), zse c j, nI j)) 0 i (Nat.zero_le _) (by omega) (by simp [zfil, zse, nI_0]) stepF lastF
        have rM : x_it (fun a9 => xX12_had_L36 (nI k) a9.1 a9.2.1 a9.2.2.1 a9.2.2.2) zFU (M, nI c, (0 : Int32), (0 : Int32)) = some (.inl (zfil M 29 c i)) :=
          zfor (fun j => (zfil M 29 c j, nI (c / 10 ^ j), zse c j, nI j)) 0 i (Nat.zero_le _) (by omega) (by simp [zfil, zse, nI_0]) stepM lastM
        simp only [xX3_takeOrder, rF, rM, Option.bind_some, Sum.elim_inl, if_true, zx_ref1, zx_no1]
        exact zgo_i rfl (zInv_ref (zJA_k h zbR_r zbF_r kM) zbR_r kF (by decide))
      · have hik : i = k := by omega
        subst hik
        have lastF : xX3_takeOrder_L8 (nI i) (zfil F 74 c i) (nI (c / 10 ^ i)) (zse c i) (nI i) = some (.inr (.inr (zfil F 74 c i))) := by
          unfold xX3_takeOrder_L8
          rw [if_pos (nI_le (by omega) (by omega))]
        have lastM : xX12_had_L36 (nI i) (zfil M 29 c i) (nI (c / 10 ^ i)) (zse c i) (nI i) = some (.inr (.inr (zfil M 29 c i))) := by
          unfold xX12_had_L36
          rw [if_pos (nI_le (by omega) (by omega))]
        have rF : x_it (fun a9 => xX3_takeOrder_L8 (nI i) a9.1 a9.2.1 a9.2.2.1 a9.2.2.2) zFU (F, nI c, (0 : Int32), (0 : Int32)) = some (.inr (zfil F 74 c i)) :=
          zfor (fun j => (zfil F 74 c j, nI (c / 10 ^ j), zse c j, nI j)) 0 i (Nat.zero_le _) (by omega) (by simp [zfil, zse, nI_0]) stepF lastF
        have rM : x_it (fun a9 => xX12_had_L36 (nI i) a9.1 a9.2.1 a9.2.2.1 a9.2.2.2) zFU (M, nI c, (0 : Int32), (0 : Int32)) = some (.inr (zfil M 29 c i)) :=
          zfor (fun j => (zfil M 29 c j, nI (c / 10 ^ j), zse c j, nI j)) 0 i (Nat.zero_le _) (by omega) (by simp [zfil, zse, nI_0]) stepM lastM
        have hF := zx_hadBehind (F := zfil F 74 c i) (fc := fc) (od := zod c) hk (fun j hj => ⟨zfil_get i j hj, by have := (hok j hj).1; omega, by rw [zfil_ne (by decide)]; exact f4 _ (hok j hj).1⟩)
        have hM := zx_hadOf (M := zfil M 29 c i) (fc := fc) (od := zod c) hk (fun j hj => ⟨zfil_get i j hj, by have := (hok j hj).1; omega, by rw [zfil_ne (by decide)]; exact f6 _ (hok j hj).1⟩)
        simp only [xX3_takeOrder, rF, rM, Option.bind_some, Sum.elim_inr, z10, if_false, hF, hM, if_true]
        exact zgo_i rfl (zInv_k h zbR_r kF kM)
  · have g0 : 0 ≤ a1 := by
      rw [zile]
      rw [zilt] at g
      have h9 : ((5 : Int32)).toInt = 5 := by decide
      have h0 : ((0 : Int32)).toInt = 0 := by decide
      omega
    have g1 : ¬ a1 ≤ (5 : Int32) := by rw [zile]; rw [zilt] at g; omega
    simp only [if_pos g0, if_neg g1, b1, Option.bind_some, zx_ref6, if_neg (show ¬ (-6 : Int32) = 0 by decide), zx_no6, if_true]
    exact zgo_i rfl (zInv_ref h zbR_r zbF_r (by decide))
/-! silence -/
def zap (par : Nat → Nat) (S : Nat → Bool) (w : Nat) : Bool := zfd par (fun x u => x || S u) false w w
theorem zap_s (hV : zVT n par wt ans) {S : Nat → Bool} {w : Nat} (h0 : 0 < w) (hw : w < n) : zap par S w = (zap par S (par w) || S w) := zfd_s (fun i a b => (hV.2.2.1 i a b).1) h0 hw
theorem zap_c (hV : zVT n par wt ans) {S S' : Nat → Bool} (hS : ∀ u, 0 < u → u < n → S u = S' u) : ∀ (k w : Nat), w ≤ k → w < n → zap par S w = zap par S' w
  | 0, w, h1, h2 => by
    obtain rfl : w = 0 := by omega
    rfl
  | k + 1, w, h1, h2 => by
    rcases Nat.eq_zero_or_pos w with rfl | g
    · rfl
    · have hp := (hV.2.2.1 w g h2).1
      rw [zap_s hV g h2, zap_s hV g h2, hS w g h2, zap_c hV hS k (par w) (by omega) (by omega)]
theorem zap_wy (hV : zVT n par wt ans) {A : Nat} : ∀ (k w : Nat), w ≤ k → w < n → (A &&& zwy par w = 0 ↔ zap par (fun u => A.testBit u) w = false)
  | 0, w, h1, h2 => by
    obtain rfl : w = 0 := by omega
    exact ⟨fun _ => rfl, fun _ => Nat.and_zero A⟩
  | k + 1, w, h1, h2 => by
    rcases Nat.eq_zero_or_pos w with rfl | g
    · exact ⟨fun _ => rfl, fun _ => Nat.and_zero A⟩
    · have hp := (hV.2.2.1 w g h2).1
      rw [zap_s hV g h2, zwy_s hV g h2, Nat.and_or_distrib_left, Nat.or_eq_zero_iff, zap_wy hV k (par w) (by omega) (by omega), Bool.or_eq_false_iff, Nat.and_comm A (2 ^ w), zand_pow]
      refine and_congr_right fun _ => ?_
      by_cases q : A.testBit w = true
      · rw [if_pos q]
        constructor
        · intro z
          have := Nat.two_pow_pos w
          omega
        · intro z
          rw [q] at z
          exact absurd z (by decide)
      · rw [if_neg q]
        exact ⟨fun _ => by simpa using q, fun _ => rfl⟩
end
