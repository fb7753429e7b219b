/-! X12_player -/
theorem hyX12_player : yX12_player.cls = RX12 ∧ yX12_player.cls ≠ "java/lang/invoke/MethodHandle" ∧ yX12_player.cls ≠ "java/lang/invoke/VarHandle" ∧ (parseMethodDescriptor yX12_player.desc).map (fun d => d.parameters.length) = some 2 := by decide +kernel
theorem flX12_player_25 : Cond.fieldLink RX12 25 "BeforeTheEndModel" "kind" "[I" ∈ wsX12_player := by decide +kernel
theorem flX12_player_28 : Cond.fieldLink RX12 28 "BeforeTheEndModel" "knows" "[I" ∈ wsX12_player := by decide +kernel
theorem flX12_player_31 : Cond.fieldLink RX12 31 "BeforeTheEndModel" "hand" "[I" ∈ wsX12_player := by decide +kernel
theorem flX12_player_34 : Cond.fieldLink RX12 34 "BeforeTheEndModel" "sure" "[I" ∈ wsX12_player := by decide +kernel
theorem flX12_player_37 : Cond.fieldLink RX12 37 "BeforeTheEndModel" "told" "[I" ∈ wsX12_player := by decide +kernel
theorem hinX12_player_X12 : ∀ w ∈ wsX120, w ∈ wsX12_player := fun _ h => List.mem_cons_of_mem _ (List.mem_append_right _ h)
def xX12_player (M : zM) (v1 : Int32) (v2 : Int32) : Option (Int32 × zM) :=
  (xX12_isPlayer M v1).bind fun q1 =>
  if q1 = 0 then
  ((xX12_no M (-1 : Int32)).bind fun q15 =>
  some (q15.1, q15.2))
  else
  if v2 = (0 : Int32) then
  (if (v1 < 0 ∨ 4 ≤ v1.toNatClampNeg) then none else
  some ((M.1 6 v1.toNatClampNeg), M))
  else
  if v2 = (1 : Int32) then
  (if (v1 < 0 ∨ 4 ≤ v1.toNatClampNeg) then none else
  some ((M.1 8 v1.toNatClampNeg), M))
  else
  if v2 = (2 : Int32) then
  (if (v1 < 0 ∨ 4 ≤ v1.toNatClampNeg) then none else
  some ((M.1 9 v1.toNatClampNeg), M))
  else
  if v2 = (3 : Int32) then
  (if (v1 < 0 ∨ 4 ≤ v1.toNatClampNeg) then none else
  some ((M.1 7 v1.toNatClampNeg), M))
  else
  if v2 = (4 : Int32) then
  (if (v1 < 0 ∨ 4 ≤ v1.toNatClampNeg) then none else
  if (M.1 6 v1.toNatClampNeg) = (4 : Int32) then
  (some ((M.1 10 v1.toNatClampNeg), M))
  else
  some ((0 : Int32), M))
  else
  (xX12_no M (-2 : Int32)).bind fun q14 =>
  some (q14.1, q14.2)
set_option maxHeartbeats 4000000 in
set_option maxRecDepth 100000 in
theorem tX12_player {κ : Nat → ClassId} {E : zEn} {ad : Nat → Nat} (hEk : zEk E) {M : zM} {v1 : Int32} {v2 : Int32} {res : (Int32 × zM)} (h : xX12_player M v1 v2 = some res) (l : Launch) (D : va_G) : zCT E D vwCl (zty κ) l yX12_player wsX12_player ({ frames := 1, cells := 0, slots := 0, locals := 21 } : Room) 0 0 [.ref (ad 0), .int v1, .int v2] (zwM κ ad M) (zPd (some (.int res.1)) (zwM κ ad res.2)) := by
  refine zCT.of (cc := cX12_player) (maxL := 3) (ret := (some .int)) (by decide) rfl (Nat.le_of_ble_eq_true rfl) ?_
  intro X hC hR
  unfold xX12_player at h
  refine zV.sub (lv' := [(0, .ref (ad 0)), (1, .int v1), (2, .int v2)]) [0, 1, 2] rfl ?_
  refine zr_aload_n (pc := 0) hC 0 rfl rfl dX12_player_0 ?_
  refine zr_iload_n (pc := 1) hC 1 rfl rfl dX12_player_1 ?_
  obtain ⟨q1, hq1, h⟩ := zbd h
  refine zr_cVi (pc := 2) hC hEk [.int v1] [] 0 1 (fun l D => tX12_isPlayer hEk hq1 l D) gX12_player_X12_isPlayer rfl rfl rfl ⟨Nat.le_of_ble_eq_true rfl, Nat.le_of_ble_eq_true rfl⟩ hyX12_isPlayer (by decide) entM_0 rfl rfl rfl (Nat.le_of_ble_eq_true rfl) ⟨Nat.le_of_ble_eq_true rfl, Nat.le_of_ble_eq_true rfl⟩ dX12_player_2 ?_
  refine zr_if_ne (pc := 5) (tgt := 14) hC dX12_player_5 (by decide) (fun c2 => ?_) (fun c2 => ?_)
  · replace h := zin h c2
    refine zr_iload_n (pc := 14) hC 2 rfl rfl dX12_player_14 ?_
    by_cases c3 : v2 = (0 : Int32)
    · replace h := zip h c3
      refine zr_tabIn (pc := 15) (off := 33) (tgt := 48) hC dX12_player_15 (by rw [c3]; decide) (by rw [c3]; decide) (by rw [c3]; decide) (by decide) ?_
      refine zr_aload_n (pc := 48) hC 0 rfl rfl dX12_player_48 ?_
      refine zmg_5 (pc := 49) hC hinX12_player_X12 flX12_player_25 dX12_player_49 ?_
      refine zr_iload_n (pc := 52) hC 1 rfl rfl dX12_player_52 ?_
      obtain ⟨i4, h⟩ := zgd h
      refine zml_6 (pc := 53) hC i4 dX12_player_53 ?_
      obtain rfl := Option.some.inj h
      exact zr_iret hC hR ⟨rfl, rfl⟩ (Nat.le_refl _) (Nat.le_refl _) dX12_player_54
    · replace h := zin h c3
      by_cases c5 : v2 = (1 : Int32)
      · replace h := zip h c5
        refine zr_tabIn (pc := 15) (off := 40) (tgt := 55) hC dX12_player_15 (by rw [c5]; decide) (by rw [c5]; decide) (by rw [c5]; decide) (by decide) ?_
        refine zr_aload_n (pc := 55) hC 0 rfl rfl dX12_player_55 ?_
        refine zmg_7 (pc := 56) hC hinX12_player_X12 flX12_player_31 dX12_player_56 ?_
        refine zr_iload_n (pc := 59) hC 1 rfl rfl dX12_player_59 ?_
        obtain ⟨i6, h⟩ := zgd h
        refine zml_8 (pc := 60) hC i6 dX12_player_60 ?_
        obtain rfl := Option.some.inj h
        exact zr_iret hC hR ⟨rfl, rfl⟩ (Nat.le_refl _) (Nat.le_refl _) dX12_player_61
      · replace h := zin h c5
        by_cases c7 : v2 = (2 : Int32)
        · replace h := zip h c7
          refine zr_tabIn (pc := 15) (off := 47) (tgt := 62) hC dX12_player_15 (by rw [c7]; decide) (by rw [c7]; decide) (by rw [c7]; decide) (by decide) ?_
          refine zr_aload_n (pc := 62) hC 0 rfl rfl dX12_player_62 ?_
          refine zmg_8 (pc := 63) hC hinX12_player_X12 flX12_player_34 dX12_player_63 ?_
          refine zr_iload_n (pc := 66) hC 1 rfl rfl dX12_player_66 ?_
          obtain ⟨i8, h⟩ := zgd h
          refine zml_9 (pc := 67) hC i8 dX12_player_67 ?_
          obtain rfl := Option.some.inj h
          exact zr_iret hC hR ⟨rfl, rfl⟩ (Nat.le_refl _) (Nat.le_refl _) dX12_player_68
        · replace h := zin h c7
          by_cases c9 : v2 = (3 : Int32)
          · replace h := zip h c9
            refine zr_tabIn (pc := 15) (off := 54) (tgt := 69) hC dX12_player_15 (by rw [c9]; decide) (by rw [c9]; decide) (by rw [c9]; decide) (by decide) ?_
            refine zr_aload_n (pc := 69) hC 0 rfl rfl dX12_player_69 ?_
            refine zmg_6 (pc := 70) hC hinX12_player_X12 flX12_player_28 dX12_player_70 ?_
            refine zr_iload_n (pc := 73) hC 1 rfl rfl dX12_player_73 ?_
            obtain ⟨i10, h⟩ := zgd h
            refine zml_7 (pc := 74) hC i10 dX12_player_74 ?_
            obtain rfl := Option.some.inj h
            exact zr_iret hC hR ⟨rfl, rfl⟩ (Nat.le_refl _) (Nat.le_refl _) dX12_player_75
          · replace h := zin h c9
            by_cases c11 : v2 = (4 : Int32)
            · replace h := zip h c11
              refine zr_tabIn (pc := 15) (off := 61) (tgt := 76) hC dX12_player_15 (by rw [c11]; decide) (by rw [c11]; decide) (by rw [c11]; decide) (by decide) ?_
              refine zr_aload_n (pc := 76) hC 0 rfl rfl dX12_player_76 ?_
              refine zmg_5 (pc := 77) hC hinX12_player_X12 flX12_player_25 dX12_player_77 ?_
              refine zr_iload_n (pc := 80) hC 1 rfl rfl dX12_player_80 ?_
              obtain ⟨i12, h⟩ := zgd h
              refine zml_6 (pc := 81) hC i12 dX12_player_81 ?_
              refine zr_iconst (pc := 82) hC zki_4 dX12_player_82 ?_
              refine zr_icmp_ne (pc := 83) (tgt := 95) hC dX12_player_83 (by decide) (fun c13 => ?_) (fun c13 => ?_)
              · replace h := zin h c13
                refine zr_iconst (pc := 95) hC zki_0 dX12_player_95 ?_
                obtain rfl := Option.some.inj h
                exact zr_iret hC hR ⟨rfl, rfl⟩ (Nat.le_refl _) (Nat.le_refl _) dX12_player_96
              · replace h := zip h c13
                refine zr_aload_n (pc := 86) hC 0 rfl rfl dX12_player_86 ?_
                refine zmg_9 (pc := 87) hC hinX12_player_X12 flX12_player_37 dX12_player_87 ?_
                refine zr_iload_n (pc := 90) hC 1 rfl rfl dX12_player_90 ?_
                refine zml_10 (pc := 91) hC i12 dX12_player_91 ?_
                refine zr_goto (pc := 92) (tgt := 96) hC dX12_player_92 (by decide) ?_
                obtain rfl := Option.some.inj h
                exact zr_iret hC hR ⟨rfl, rfl⟩ (Nat.le_refl _) (Nat.le_refl _) dX12_player_96
            · replace h := zin h c11
              refine zr_tabOut (pc := 15) (tgt := 97) hC dX12_player_15 (zsw_out_0_5 c3 c5 c7 c9 c11) (by decide) ?_
              refine zr_aload_n (pc := 97) hC 0 rfl rfl dX12_player_97 ?_
              refine zr_bipush (pc := 98) hC zkb_m2 dX12_player_98 ?_
              obtain ⟨q14, hq14, h⟩ := zbd h
              refine zr_cVi (pc := 100) hC hEk [.int (-2 : Int32)] [] 0 1 (fun l D => tX12_no hEk hq14 l D) gX12_player_X12_no rfl rfl rfl ⟨Nat.le_of_ble_eq_true rfl, Nat.le_of_ble_eq_true rfl⟩ hyX12_no (by decide) entM_0 rfl rfl rfl (Nat.le_of_ble_eq_true rfl) ⟨Nat.le_of_ble_eq_true rfl, Nat.le_of_ble_eq_true rfl⟩ dX12_player_100 ?_
              obtain rfl := Option.some.inj h
              exact zr_iret hC hR ⟨rfl, rfl⟩ (Nat.le_refl _) (Nat.le_refl _) dX12_player_103
  · replace h := zip h c2
    refine zr_aload_n (pc := 8) hC 0 rfl rfl dX12_player_8 ?_
    refine zr_iconst (pc := 9) hC zki_m1 dX12_player_9 ?_
    obtain ⟨q15, hq15, h⟩ := zbd h
    refine zr_cVi (pc := 10) hC hEk [.int (-1 : Int32)] [] 0 1 (fun l D => tX12_no hEk hq15 l D) gX12_player_X12_no rfl rfl rfl ⟨Nat.le_of_ble_eq_true rfl, Nat.le_of_ble_eq_true rfl⟩ hyX12_no (by decide) entM_0 rfl rfl rfl (Nat.le_of_ble_eq_true rfl) ⟨Nat.le_of_ble_eq_true rfl, Nat.le_of_ble_eq_true rfl⟩ dX12_player_10 ?_
    obtain rfl := Option.some.inj h
    exact zr_iret hC hR ⟨rfl, rfl⟩ (Nat.le_refl _) (Nat.le_refl _) dX12_player_13
/-! X12_whole -/
theorem hyX12_whole : yX12_whole.cls = RX12 ∧ yX12_whole.cls ≠ "java/lang/invoke/MethodHandle" ∧ yX12_whole.cls ≠ "java/lang/invoke/VarHandle" ∧ (parseMethodDescriptor yX12_whole.desc).map (fun d => d.parameters.length) = some 0 := by decide +kernel
theorem hinX12_whole_X12 : ∀ w ∈ wsX120, w ∈ wsX12_whole := fun _ h => List.mem_cons_of_mem _ (List.mem_append_right _ h)
def xX12_whole (M : zM)  : Option Int32 :=
  (xX12_isWhole M).bind fun q1 =>
  if q1 = 0 then
  (some (0 : Int32))
  else
  some (1 : Int32)
set_option maxHeartbeats 4000000 in
set_option maxRecDepth 100000 in
theorem tX12_whole {κ : Nat → ClassId} {E : zEn} {ad : Nat → Nat} (hEk : zEk E) {M : zM}  {res : Int32} (h : xX12_whole M  = some res) (l : Launch) (D : va_G) : zCT E D vwCl (zty κ) l yX12_whole wsX12_whole ({ frames := 2, cells := 0, slots := 0, locals := 44 } : Room) 0 0 [.ref (ad 0)] (zwM κ ad M) (zPd (some (.int res)) (zwM κ ad M)) := by
  refine zCT.of (cc := cX12_whole) (maxL := 1) (ret := (some .int)) (by decide) rfl (Nat.le_of_ble_eq_true rfl) ?_
  intro X hC hR
  unfold xX12_whole at h
  refine zV.sub (lv' := [(0, .ref (ad 0))]) [0] rfl ?_
  refine zr_aload_n (pc := 0) hC 0 rfl rfl dX12_whole_0 ?_
  obtain ⟨q1, hq1, h⟩ := zbd h
  refine zr_cVi (pc := 1) hC hEk [] [] 0 0 (fun l D => tX12_isWhole hEk hq1 l D) gX12_whole_X12_isWhole rfl rfl rfl ⟨Nat.le_of_ble_eq_true rfl, Nat.le_of_ble_eq_true rfl⟩ hyX12_isWhole (by decide) entM_0 rfl rfl rfl (Nat.le_of_ble_eq_true rfl) ⟨Nat.le_of_ble_eq_true rfl, Nat.le_of_ble_eq_true rfl⟩ dX12_whole_1 ?_
  refine zr_if_eq (pc := 4) (tgt := 11) hC dX12_whole_4 (by decide) (fun c2 => ?_) (fun c2 => ?_)
  · replace h := zip h c2
    refine zr_iconst (pc := 11) hC zki_0 dX12_whole_11 ?_
    obtain rfl := Option.some.inj h
    exact zr_iret hC hR ⟨rfl, rfl⟩ (Nat.le_refl _) (Nat.le_refl _) dX12_whole_12
  · replace h := zin h c2
    refine zr_iconst (pc := 7) hC zki_1 dX12_whole_7 ?_
    refine zr_goto (pc := 8) (tgt := 12) hC dX12_whole_8 (by decide) ?_
    obtain rfl := Option.some.inj h
    exact zr_iret hC hR ⟨rfl, rfl⟩ (Nat.le_refl _) (Nat.le_refl _) dX12_whole_12
/-! X12_isBehind -/
theorem hyX12_isBehind : yX12_isBehind.cls = RX12 ∧ yX12_isBehind.cls ≠ "java/lang/invoke/MethodHandle" ∧ yX12_isBehind.cls ≠ "java/lang/invoke/VarHandle" ∧ (parseMethodDescriptor yX12_isBehind.desc).map (fun d => d.parameters.length) = some 2 := by decide +kernel
theorem flX12_isBehind_13 : Cond.fieldLink RX12 13 "BeforeTheEndModel" "parent" "[I" ∈ wsX12_isBehind := by decide +kernel
theorem hinX12_isBehind_X12 : ∀ w ∈ wsX120, w ∈ wsX12_isBehind := fun _ h => List.mem_cons_of_mem _ (List.mem_append_right _ h)
def xX12_isBehind_L2 (M : zM) (v2 : Int32) (w0 : Int32) : Option (Int32 ⊕ Int32) :=
  if w0 ≤ v2 then
  (some (.inr w0))
  else
  if (w0 < 0 ∨ 24 ≤ w0.toNatClampNeg) then none else
  zlet (M.1 2 w0.toNatClampNeg) fun z3 =>
  some (.inl z3)
set_option maxHeartbeats 4000000 in
set_option maxRecDepth 100000 in
theorem tX12_isBehind_L2 {κ : Nat → ClassId} {E : zEn} {ad : Nat → Nat} {X : zX} {M : zM} {v2 : Int32} {w0 : Int32} {r : (Int32 ⊕ Int32)} (hC : zC X cX12_isBehind RX12 wsX12_isBehind vwCl (zty κ) E 4 ({ frames := 0, cells := 0, slots := 0, locals := 0 } : Room)) (hEk : zEk E) (hin : ∀ (x0' : Int32), r = .inl x0' → zV X 0 0 (zwM κ ad M) [(0, .ref (ad 0)), (2, .int v2), (3, .int x0')] [] 2) (hout0 : ∀ (x0' : Int32), r = .inr x0' → zV X 0 0 (zwM κ ad M) [(2, .int v2), (3, .int x0')] [] 17) (h : xX12_isBehind_L2 M v2 w0 = some r) : zV X 0 0 (zwM κ ad M) [(0, .ref (ad 0)), (2, .int v2), (3, .int w0)] [] 2 := by
  unfold xX12_isBehind_L2 at h
  refine zr_iload_n (pc := 2) hC 2 rfl rfl dX12_isBehind_2 ?_
  refine zr_iload_n (pc := 3) hC 1 rfl rfl dX12_isBehind_3 ?_
  refine zr_icmp_le (pc := 4) (tgt := 17) hC dX12_isBehind_4 (by decide) (fun c1 => ?_) (fun c1 => ?_)
  · replace h := zip h c1
    obtain rfl := Option.some.inj h
    exact zV.sub (lv' := [(2, .int v2), (3, .int w0)]) [1, 2] rfl (hout0 w0 rfl)
  · replace h := zin h c1
    refine zr_aload_n (pc := 7) hC 0 rfl rfl dX12_isBehind_7 ?_
    refine zmg_1 (pc := 8) hC hinX12_isBehind_X12 flX12_isBehind_13 dX12_isBehind_8 ?_
    refine zr_iload_n (pc := 11) hC 2 rfl rfl dX12_isBehind_11 ?_
    obtain ⟨i2, h⟩ := zgd h
    refine zml_2 (pc := 12) hC i2 dX12_isBehind_12 ?_
    obtain ⟨z3, e4, h⟩ := zle h
    refine zr_topi e4 ?_
    refine zr_istore_n (pc := 13) (lv' := [(3, .int z3), (0, .ref (ad 0)), (2, .int v2)]) hC rfl (by decide) rfl dX12_isBehind_13 ?_
    refine zr_goto (pc := 14) (tgt := 2) hC dX12_isBehind_14 (by decide) ?_
    obtain rfl := Option.some.inj h
    exact zV.sub (lv' := [(0, .ref (ad 0)), (2, .int v2), (3, .int z3)]) [1, 2, 0] rfl (hin z3 rfl)
def xX12_isBehind (M : zM) (v1 : Int32) (v2 : Int32) : Option Int32 :=
  (x_it (fun a9 => xX12_isBehind_L2 M v2 a9) zFU v1).bind fun q1 =>
  if q1 = v2 then
  (some (1 : Int32))
  else
  some (0 : Int32)
set_option maxHeartbeats 4000000 in
set_option maxRecDepth 100000 in
theorem tX12_isBehind {κ : Nat → ClassId} {E : zEn} {ad : Nat → Nat} (hEk : zEk E) {M : zM} {v1 : Int32} {v2 : Int32} {res : Int32} (h : xX12_isBehind M v1 v2 = some res) (l : Launch) (D : va_G) : zCT E D vwCl (zty κ) l yX12_isBehind wsX12_isBehind ({ frames := 0, cells := 0, slots := 0, locals := 0 } : Room) 0 0 [.ref (ad 0), .int v1, .int v2] (zwM κ ad M) (zPd (some (.int res)) (zwM κ ad M)) := by
  refine zCT.of (cc := cX12_isBehind) (maxL := 4) (ret := (some .boolean)) (by decide) rfl (Nat.le_of_ble_eq_true rfl) ?_
  intro X hC hR
  unfold xX12_isBehind at h
  refine zV.sub (lv' := [(0, .ref (ad 0)), (1, .int v1), (2, .int v2)]) [0, 1, 2] rfl ?_
  refine zr_iload_n (pc := 0) hC 1 rfl rfl dX12_isBehind_0 ?_
  refine zr_istore_n (pc := 1) (lv' := [(3, .int v1), (0, .ref (ad 0)), (1, .int v1), (2, .int v2)]) hC rfl (by decide) rfl dX12_isBehind_1 ?_
  obtain ⟨q1, hq1, h⟩ := zbd h
  refine zV.sub (lv' := [(0, .ref (ad 0)), (2, .int v2), (3, .int v1)]) [1, 3, 0] rfl ?_
  refine zit1 (Wp := fun (y0 : Int32) => zV X 0 0 (zwM κ ad M) [(0, .ref (ad 0)), (2, .int v2), (3, .int y0)] [] 2) (Ex := fun (b9 : Int32) => zV X 0 0 (zwM κ ad M) [(2, .int v2), (3, .int b9)] [] 17) (fun y0 r9 hr hin hout => tX12_isBehind_L2 hC hEk hin (fun z0 e9 => hout z0 e9) hr) zFU v1 q1 hq1 ?_
  show zV X 0 0 (zwM κ ad M) [(2, .int v2), (3, .int q1)] [] 17
  refine zr_iload_n (pc := 17) hC 1 rfl rfl dX12_isBehind_17 ?_
  refine zr_iload_n (pc := 18) hC 0 rfl rfl dX12_isBehind_18 ?_
  refine zr_icmp_ne (pc := 19) (tgt := 26) hC dX12_isBehind_19 (by decide) (fun c2 => ?_) (fun c2 => ?_)
  · replace h := zin h c2
    refine zr_iconst (pc := 26) hC zki_0 dX12_isBehind_26 ?_
    obtain rfl := Option.some.inj h
    exact zr_zret hC hR (by decide) ⟨rfl, rfl⟩ (Nat.le_refl _) (Nat.le_refl _) dX12_isBehind_27
  · replace h := zip h c2
    refine zr_iconst (pc := 22) hC zki_1 dX12_isBehind_22 ?_
    refine zr_goto (pc := 23) (tgt := 27) hC dX12_isBehind_23 (by decide) ?_
    obtain rfl := Option.some.inj h
    exact zr_zret hC hR (by decide) ⟨rfl, rfl⟩ (Nat.le_refl _) (Nat.le_refl _) dX12_isBehind_27
/-! X12_left -/
theorem hyX12_left : yX12_left.cls = RX12 ∧ yX12_left.cls ≠ "java/lang/invoke/MethodHandle" ∧ yX12_left.cls ≠ "java/lang/invoke/VarHandle" ∧ (parseMethodDescriptor yX12_left.desc).map (fun d => d.parameters.length) = some 1 := by decide +kernel
theorem flX12_left_19 : Cond.fieldLink RX12 19 "BeforeTheEndModel" "answer" "[I" ∈ wsX12_left := by decide +kernel
theorem flX12_left_46 : Cond.fieldLink RX12 46 "BeforeTheEndModel" "words" "I" ∈ wsX12_left := by decide +kernel
theorem hinX12_left_X12 : ∀ w ∈ wsX120, w ∈ wsX12_left := fun _ h => List.mem_cons_of_mem _ (List.mem_append_right _ h)
def xX12_left_L18 (M : zM) (v1 : Int32) (w0 : Int32) (w1 : Int32) : Option ((Int32 × Int32) ⊕ Int32) :=
  if (M.1 0 12) ≤ w1 then
  (some (.inr w0))
  else
  if (w1 < 0 ∨ 24 ≤ w1.toNatClampNeg) then none else
  if (M.1 4 w1.toNatClampNeg) = 0 then
  (zlet (w0 ||| (0 : Int32)) fun z4 =>
  some (.inl (z4, (w1 + (1 : Int32)))))
  else
  (xX12_isBehind M w1 v1).bind fun q6 =>
  if q6 = 0 then
  (zlet (w0 ||| (0 : Int32)) fun z8 =>
  some (.inl (z8, (w1 + (1 : Int32)))))
  else
  zlet (w0 ||| ((1 : Int32) <<< ((M.1 4 w1.toNatClampNeg) &&& 31))) fun z10 =>
  some (.inl (z10, (w1 + (1 : Int32))))
set_option maxHeartbeats 4000000 in
set_option maxRecDepth 100000 in
theorem tX12_left_L18 {κ : Nat → ClassId} {E : zEn} {ad : Nat → Nat} {X : zX} {M : zM} {v1 : Int32} {w0 : Int32} {w1 : Int32} {r : ((Int32 × Int32) ⊕ Int32)} (hC : zC X cX12_left RX12 wsX12_left vwCl (zty κ) E 4 ({ frames := 1, cells := 0, slots := 0, locals := 23 } : Room)) (hEk : zEk E) (hin : ∀ (x0' : Int32) (x1' : Int32), r = .inl (x0', x1') → zV X 0 0 (zwM κ ad M) [(0, .ref (ad 0)), (1, .int v1), (2, .int x0'), (3, .int x1')] [] 18) (hout0 : ∀ (x0' : Int32), r = .inr x0' → zV X 0 0 (zwM κ ad M) [(2, .int x0')] [] 65) (h : xX12_left_L18 M v1 w0 w1 = some r) : zV X 0 0 (zwM κ ad M) [(0, .ref (ad 0)), (1, .int v1), (2, .int w0), (3, .int w1)] [] 18 := by
  unfold xX12_left_L18 at h
  refine zr_iload_n (pc := 18) hC 3 rfl rfl dX12_left_18 ?_
  refine zr_aload_n (pc := 19) hC 0 rfl rfl dX12_left_19 ?_
  refine zmg_12 (pc := 20) hC hinX12_left_X12 flX12_left_46 dX12_left_20 ?_
  refine zr_icmp_ge (pc := 23) (tgt := 65) hC dX12_left_23 (by decide) (fun c1 => ?_) (fun c1 => ?_)
  · replace h := zip h c1
    obtain rfl := Option.some.inj h
    exact zV.sub (lv' := [(2, .int w0)]) [2] rfl (hout0 w0 rfl)
  · replace h := zin h c1
    refine zr_iload_n (pc := 26) hC 2 rfl rfl dX12_left_26 ?_
    refine zr_aload_n (pc := 27) hC 0 rfl rfl dX12_left_27 ?_
    refine zmg_3 (pc := 28) hC hinX12_left_X12 flX12_left_19 dX12_left_28 ?_
    refine zr_iload_n (pc := 31) hC 3 rfl rfl dX12_left_31 ?_
    obtain ⟨i2, h⟩ := zgd h
    refine zml_4 (pc := 32) hC i2 dX12_left_32 ?_
    refine zr_if_eq (pc := 33) (tgt := 56) hC dX12_left_33 (by decide) (fun c3 => ?_) (fun c3 => ?_)
    · replace h := zip h c3
      refine zr_iconst (pc := 56) hC zki_0 dX12_left_56 ?_
      refine zr_ior (pc := 57) hC dX12_left_57 ?_
      obtain ⟨z4, e5, h⟩ := zle h
      refine zr_topi e5 ?_
      refine zr_istore_n (pc := 58) (lv' := [(2, .int z4), (0, .ref (ad 0)), (1, .int v1), (3, .int w1)]) hC rfl (by decide) rfl dX12_left_58 ?_
      refine zr_iinc (pc := 59) (k := 3) (lv' := [(3, .int (w1 + (1 : Int32))), (2, .int z4), (0, .ref (ad 0)), (1, .int v1)]) hC zki_1 (by decide) rfl rfl dX12_left_59 ?_
      refine zr_goto (pc := 62) (tgt := 18) hC dX12_left_62 (by decide) ?_
      obtain rfl := Option.some.inj h
      exact zV.sub (lv' := [(0, .ref (ad 0)), (1, .int v1), (2, .int z4), (3, .int (w1 + (1 : Int32)))]) [2, 3, 1, 0] rfl (hin z4 (w1 + (1 : Int32)) rfl)
    · replace h := zin h c3
      refine zr_aload_n (pc := 36) hC 0 rfl rfl dX12_left_36 ?_
      refine zr_iload_n (pc := 37) hC 3 rfl rfl dX12_left_37 ?_
      refine zr_iload_n (pc := 38) hC 1 rfl rfl dX12_left_38 ?_
      obtain ⟨q6, hq6, h⟩ := zbd h
      refine zr_cVi (pc := 39) hC hEk [.int w1, .int v1] [.int w0] 0 2 (fun l D => tX12_isBehind hEk hq6 l D) gX12_left_X12_isBehind rfl rfl rfl ⟨Nat.le_of_ble_eq_true rfl, Nat.le_of_ble_eq_true rfl⟩ hyX12_isBehind (by decide) entM_0 rfl rfl rfl (Nat.le_of_ble_eq_true rfl) ⟨Nat.le_of_ble_eq_true rfl, Nat.le_of_ble_eq_true rfl⟩ dX12_left_39 ?_
      refine zr_if_eq (pc := 42) (tgt := 56) hC dX12_left_42 (by decide) (fun c7 => ?_) (fun c7 => ?_)
      · replace h := zip h c7
        refine zr_iconst (pc := 56) hC zki_0 dX12_left_56 ?_
        refine zr_ior (pc := 57) hC dX12_left_57 ?_
        obtain ⟨z8, e9, h⟩ := zle h
        refine zr_topi e9 ?_
        refine zr_istore_n (pc := 58) (lv' := [(2, .int z8), (0, .ref (ad 0)), (1, .int v1), (3, .int w1)]) hC rfl (by decide) rfl dX12_left_58 ?_
        refine zr_iinc (pc := 59) (k := 3) (lv' := [(3, .int (w1 + (1 : Int32))), (2, .int z8), (0, .ref (ad 0)), (1, .int v1)]) hC zki_1 (by decide) rfl rfl dX12_left_59 ?_
        refine zr_goto (pc := 62) (tgt := 18) hC dX12_left_62 (by decide) ?_
        obtain rfl := Option.some.inj h
        exact zV.sub (lv' := [(0, .ref (ad 0)), (1, .int v1), (2, .int z8), (3, .int (w1 + (1 : Int32)))]) [2, 3, 1, 0] rfl (hin z8 (w1 + (1 : Int32)) rfl)
      · replace h := zin h c7
        refine zr_iconst (pc := 45) hC zki_1 dX12_left_45 ?_
        refine zr_aload_n (pc := 46) hC 0 rfl rfl dX12_left_46 ?_
        refine zmg_3 (pc := 47) hC hinX12_left_X12 flX12_left_19 dX12_left_47 ?_
        refine zr_iload_n (pc := 50) hC 3 rfl rfl dX12_left_50 ?_
        refine zml_4 (pc := 51) hC i2 dX12_left_51 ?_
        refine zr_ishl (pc := 52) hC dX12_left_52 ?_
        refine zr_goto (pc := 53) (tgt := 57) hC dX12_left_53 (by decide) ?_
        refine zr_ior (pc := 57) hC dX12_left_57 ?_
        obtain ⟨z10, e11, h⟩ := zle h
        refine zr_topi e11 ?_
        refine zr_istore_n (pc := 58) (lv' := [(2, .int z10), (0, .ref (ad 0)), (1, .int v1), (3, .int w1)]) hC rfl (by decide) rfl dX12_left_58 ?_
        refine zr_iinc (pc := 59) (k := 3) (lv' := [(3, .int (w1 + (1 : Int32))), (2, .int z10), (0, .ref (ad 0)), (1, .int v1)]) hC zki_1 (by decide) rfl rfl dX12_left_59 ?_
        refine zr_goto (pc := 62) (tgt := 18) hC dX12_left_62 (by decide) ?_
        obtain rfl := Option.some.inj h
        exact zV.sub (lv' := [(0, .ref (ad 0)), (1, .int v1), (2, .int z10), (3, .int (w1 + (1 : Int32)))]) [2, 3, 1, 0] rfl (hin z10 (w1 + (1 : Int32)) rfl)
def xX12_left (M : zM) (v1 : Int32) : Option (Int32 × zM) :=
  (xX12_isWord M v1).bind fun q1 =>
  if q1 = 0 then
  ((xX12_no M (-1 : Int32)).bind fun q4 =>
  some (q4.1, q4.2))
  else
  (x_it (fun a9 => xX12_left_L18 M v1 a9.1 a9.2) zFU ((0 : Int32), v1)).bind fun q3 =>
  some (q3, M)
set_option maxHeartbeats 4000000 in
set_option maxRecDepth 100000 in
theorem tX12_left {κ : Nat → ClassId} {E : zEn} {ad : Nat → Nat} (hEk : zEk E) {M : zM} {v1 : Int32} {res : (Int32 × zM)} (h : xX12_left M v1 = some res) (l : Launch) (D : va_G) : zCT E D vwCl (zty κ) l yX12_left wsX12_left ({ frames := 1, cells := 0, slots := 0, locals := 23 } : Room) 0 0 [.ref (ad 0), .int v1] (zwM κ ad M) (zPd (some (.int res.1)) (zwM κ ad res.2)) := by
  refine zCT.of (cc := cX12_left) (maxL := 4) (ret := (some .int)) (by decide) rfl (Nat.le_of_ble_eq_true rfl) ?_
  intro X hC hR
  unfold xX12_left at h
  refine zV.sub (lv' := [(0, .ref (ad 0)), (1, .int v1)]) [0, 1] rfl ?_
  refine zr_aload_n (pc := 0) hC 0 rfl rfl dX12_left_0 ?_
  refine zr_iload_n (pc := 1) hC 1 rfl rfl dX12_left_1 ?_
  obtain ⟨q1, hq1, h⟩ := zbd h
  refine zr_cVi (pc := 2) hC hEk [.int v1] [] 0 1 (fun l D => tX12_isWord hEk hq1 l D) gX12_left_X12_isWord rfl rfl rfl ⟨Nat.le_of_ble_eq_true rfl, Nat.le_of_ble_eq_true rfl⟩ hyX12_isWord (by decide) entM_0 rfl rfl rfl (Nat.le_of_ble_eq_true rfl) ⟨Nat.le_of_ble_eq_true rfl, Nat.le_of_ble_eq_true rfl⟩ dX12_left_2 ?_
  refine zr_if_ne (pc := 5) (tgt := 14) hC dX12_left_5 (by decide) (fun c2 => ?_) (fun c2 => ?_)
  · replace h := zin h c2
    refine zr_iconst (pc := 14) hC zki_0 dX12_left_14 ?_
    refine zr_istore_n (pc := 15) (lv' := [(2, .int (0 : Int32)), (0, .ref (ad 0)), (1, .int v1)]) hC rfl (by decide) rfl dX12_left_15 ?_
    refine zr_iload_n (pc := 16) hC 2 rfl rfl dX12_left_16 ?_
    refine zr_istore_n (pc := 17) (lv' := [(3, .int v1), (2, .int (0 : Int32)), (0, .ref (ad 0)), (1, .int v1)]) hC rfl (by decide) rfl dX12_left_17 ?_
    obtain ⟨q3, hq3, h⟩ := zbd h
    refine zV.sub (lv' := [(0, .ref (ad 0)), (1, .int v1), (2, .int (0 : Int32)), (3, .int v1)]) [2, 3, 1, 0] rfl ?_
    refine zit2 (Wp := fun (y0 : Int32) (y1 : Int32) => zV X 0 0 (zwM κ ad M) [(0, .ref (ad 0)), (1, .int v1), (2, .int y0), (3, .int y1)] [] 18) (Ex := fun (b9 : Int32) => zV X 0 0 (zwM κ ad M) [(2, .int b9)] [] 65) (fun y0 y1 r9 hr hin hout => tX12_left_L18 hC hEk hin (fun z0 e9 => hout z0 e9) hr) zFU (0 : Int32) v1 q3 hq3 ?_
    show zV X 0 0 (zwM κ ad M) [(2, .int q3)] [] 65
    refine zr_iload_n (pc := 65) hC 0 rfl rfl dX12_left_65 ?_
    obtain rfl := Option.some.inj h
    exact zr_iret hC hR ⟨rfl, rfl⟩ (Nat.le_refl _) (Nat.le_refl _) dX12_left_66
  · replace h := zip h c2
    refine zr_aload_n (pc := 8) hC 0 rfl rfl dX12_left_8 ?_
    refine zr_iconst (pc := 9) hC zki_m1 dX12_left_9 ?_
    obtain ⟨q4, hq4, h⟩ := zbd h
    refine zr_cVi (pc := 10) hC hEk [.int (-1 : Int32)] [] 0 1 (fun l D => tX12_no hEk hq4 l D) gX12_left_X12_no rfl rfl rfl ⟨Nat.le_of_ble_eq_true rfl, Nat.le_of_ble_eq_true rfl⟩ hyX12_no (by decide) entM_0 rfl rfl rfl (Nat.le_of_ble_eq_true rfl) ⟨Nat.le_of_ble_eq_true rfl, Nat.le_of_ble_eq_true rfl⟩ dX12_left_10 ?_
    obtain rfl := Option.some.inj h
    exact zr_iret hC hR ⟨rfl, rfl⟩ (Nat.le_refl _) (Nat.le_refl _) dX12_left_13
/-! X12_divisor -/
theorem hyX12_divisor : yX12_divisor.cls ≠ "java/lang/invoke/MethodHandle" ∧ yX12_divisor.cls ≠ "java/lang/invoke/VarHandle" ∧ (parseMethodDescriptor yX12_divisor.desc).map (fun d => d.parameters.length) = some 2 := by decide +kernel
def xX12_divisor_L6 (w0 : Int64) (w1 : Int64) : Option ((Int64 × Int64) ⊕ Int64) :=
  if (lg_cmp w1 (0 : Int64)) = 0 then
  (some (.inr w0))
  else
  if w1 = 0 then none else
  zlet (w0 - w0 / w1 * w1) fun z3 =>
  some (.inl (w1, z3))
set_option maxHeartbeats 4000000 in
set_option maxRecDepth 100000 in
theorem tX12_divisor_L6 {κ : Nat → ClassId} {E : zEn} {ws : va_W} {X : zX} {w0 : Int64} {w1 : Int64} {r : ((Int64 × Int64) ⊕ Int64)} (hC : zC X cX12_divisor RX12 wsX12_divisor vwCl (zty κ) E 10 ({ frames := 0, cells := 0, slots := 0, locals := 0 } : Room)) (hEk : zEk E) (hin : ∀ (x0' : Int64) (x1' : Int64), r = .inl (x0', x1') → zV X 0 0 ws [(4, .long x0'), (6, .long x1')] [] 6) (hout0 : ∀ (x0' : Int64), r = .inr x0' → zV X 0 0 ws [(4, .long x0')] [] 31) (h : xX12_divisor_L6   w0 w1 = some r) : zV X 0 0 ws [(4, .long w0), (6, .long w1)] [] 6 := by
  unfold xX12_divisor_L6 at h
  refine zr_lload (pc := 6) hC 1 rfl dX12_divisor_6 ?_
  refine zr_lconst (pc := 8) hC zkl_0 dX12_divisor_8 ?_
  refine zr_lcmp (pc := 9) hC dX12_divisor_9 ?_
  refine zr_if_eq (pc := 10) (tgt := 31) hC dX12_divisor_10 (by decide) (fun c1 => ?_) (fun c1 => ?_)
  · replace h := zip h c1
    obtain rfl := Option.some.inj h
    exact zV.sub (lv' := [(4, .long w0)]) [0] rfl (hout0 w0 rfl)
  · replace h := zin h c1
    refine zr_lload (pc := 13) hC 0 rfl dX12_divisor_13 ?_
    refine zr_lload (pc := 15) hC 1 rfl dX12_divisor_15 ?_
    obtain ⟨n2, h⟩ := zgd h
    refine zr_lrem (pc := 17) hC n2 dX12_divisor_17 ?_
    obtain ⟨z3, e4, h⟩ := zle h
    refine zr_topl e4 ?_
    refine zr_lstore (pc := 18) (lv' := [(8, .long z3), (4, .long w0), (6, .long w1)]) hC (by decide) rfl dX12_divisor_18 ?_
    refine zr_lload (pc := 20) hC 2 rfl dX12_divisor_20 ?_
    refine zr_lstore (pc := 22) (lv' := [(4, .long w1), (8, .long z3), (6, .long w1)]) hC (by decide) rfl dX12_divisor_22 ?_
    refine zr_lload (pc := 24) hC 1 rfl dX12_divisor_24 ?_
    refine zr_lstore (pc := 26) (lv' := [(6, .long z3), (4, .long w1), (8, .long z3)]) hC (by decide) rfl dX12_divisor_26 ?_
    refine zr_goto (pc := 28) (tgt := 6) hC dX12_divisor_28 (by decide) ?_
    obtain rfl := Option.some.inj h
    exact zV.sub (lv' := [(4, .long w1), (6, .long z3)]) [1, 0] rfl (hin w1 z3 rfl)
def xX12_divisor  (v0 : Int64) (v2 : Int64) : Option Int64 :=
  (x_it (fun a9 => xX12_divisor_L6 a9.1 a9.2) zFU (v0, v2)).bind fun q1 =>
  some q1
set_option maxHeartbeats 4000000 in
set_option maxRecDepth 100000 in
theorem tX12_divisor {κ : Nat → ClassId} {E : zEn} {ws : va_W} (hEk : zEk E)  {v0 : Int64} {v2 : Int64} {res : Int64} (h : xX12_divisor  v0 v2 = some res) (l : Launch) (D : va_G) : zCT E D vwCl (zty κ) l yX12_divisor wsX12_divisor ({ frames := 0, cells := 0, slots := 0, locals := 0 } : Room) 0 0 [.long v0, .long v2] ws (zPd (some (.long res)) ws) := by
  refine zCT.of (cc := cX12_divisor) (maxL := 10) (ret := (some .long)) (by decide) rfl (Nat.le_of_ble_eq_true rfl) ?_
  intro X hC hR
  unfold xX12_divisor at h
  refine zV.sub (lv' := [(0, .long v0), (2, .long v2)]) [0, 1] rfl ?_
  refine zr_lload_n (pc := 0) hC 0 rfl rfl dX12_divisor_0 ?_
  refine zr_lstore (pc := 1) (lv' := [(4, .long v0), (0, .long v0), (2, .long v2)]) hC (by decide) rfl dX12_divisor_1 ?_
  refine zr_lload_n (pc := 3) hC 2 rfl rfl dX12_divisor_3 ?_
  refine zr_lstore (pc := 4) (lv' := [(6, .long v2), (4, .long v0), (0, .long v0), (2, .long v2)]) hC (by decide) rfl dX12_divisor_4 ?_
  obtain ⟨q1, hq1, h⟩ := zbd h
  refine zV.sub (lv' := [(4, .long v0), (6, .long v2)]) [1, 0] rfl ?_
  refine zit2 (Wp := fun (y0 : Int64) (y1 : Int64) => zV X 0 0 ws [(4, .long y0), (6, .long y1)] [] 6) (Ex := fun (b9 : Int64) => zV X 0 0 ws [(4, .long b9)] [] 31) (fun y0 y1 r9 hr hin hout => tX12_divisor_L6 hC hEk hin (fun z0 e9 => hout z0 e9) hr) zFU v0 v2 q1 hq1 ?_
  show zV X 0 0 ws [(4, .long q1)] [] 31
  refine zr_lload (pc := 31) hC 0 rfl dX12_divisor_31 ?_
  obtain rfl := Option.some.inj h
  exact zr_lret hC hR ⟨rfl, rfl⟩ (Nat.le_refl _) (Nat.le_refl _) dX12_divisor_33
/-! X12_sumOf -/
theorem hyX12_sumOf : yX12_sumOf.cls = RX12 ∧ yX12_sumOf.cls ≠ "java/lang/invoke/MethodHandle" ∧ yX12_sumOf.cls ≠ "java/lang/invoke/VarHandle" ∧ (parseMethodDescriptor yX12_sumOf.desc).map (fun d => d.parameters.length) = some 1 := by decide +kernel
theorem flX12_sumOf_13 : Cond.fieldLink RX12 13 "BeforeTheEndModel" "parent" "[I" ∈ wsX12_sumOf := by decide +kernel
theorem flX12_sumOf_16 : Cond.fieldLink RX12 16 "BeforeTheEndModel" "weight" "[I" ∈ wsX12_sumOf := by decide +kernel
theorem flX12_sumOf_46 : Cond.fieldLink RX12 46 "BeforeTheEndModel" "words" "I" ∈ wsX12_sumOf := by decide +kernel
theorem hinX12_sumOf_X12 : ∀ w ∈ wsX120, w ∈ wsX12_sumOf := fun _ h => List.mem_cons_of_mem _ (List.mem_append_right _ h)
def xX12_sumOf_L6 (M : zM) (v1 : Int32) (w0 : Int32) (w1 : Int32) : Option ((Int32 × Int32) ⊕ Int32) :=
  if (M.1 0 12) ≤ w1 then
  (some (.inr w0))
  else
  if (w1 < 0 ∨ 24 ≤ w1.toNatClampNeg) then none else
  if (M.1 2 w1.toNatClampNeg) = v1 then
  (zlet (w0 + (M.1 3 w1.toNatClampNeg)) fun z6 =>
  some (.inl (z6, (w1 + (1 : Int32)))))
  else
  zlet (w0 + (0 : Int32)) fun z4 =>
  some (.inl (z4, (w1 + (1 : Int32))))
set_option maxHeartbeats 4000000 in
set_option maxRecDepth 100000 in
theorem tX12_sumOf_L6 {κ : Nat → ClassId} {E : zEn} {ad : Nat → Nat} {X : zX} {M : zM} {v1 : Int32} {w0 : Int32} {w1 : Int32} {r : ((Int32 × Int32) ⊕ Int32)} (hC : zC X cX12_sumOf RX12 wsX12_sumOf vwCl (zty κ) E 4 ({ frames := 0, cells := 0, slots := 0, locals := 0 } : Room)) (hEk : zEk E) (hin : ∀ (x0' : Int32) (x1' : Int32), r = .inl (x0', x1') → zV X 0 0 (zwM κ ad M) [(0, .ref (ad 0)), (1, .int v1), (2, .int x0'), (3, .int x1')] [] 6) (hout0 : ∀ (x0' : Int32), r = .inr x0' → zV X 0 0 (zwM κ ad M) [(2, .int x0')] [] 43) (h : xX12_sumOf_L6 M v1 w0 w1 = some r) : zV X 0 0 (zwM κ ad M) [(0, .ref (ad 0)), (1, .int v1), (2, .int w0), (3, .int w1)] [] 6 := by
  unfold xX12_sumOf_L6 at h
  refine zr_iload_n (pc := 6) hC 3 rfl rfl dX12_sumOf_6 ?_
  refine zr_aload_n (pc := 7) hC 0 rfl rfl dX12_sumOf_7 ?_
  refine zmg_12 (pc := 8) hC hinX12_sumOf_X12 flX12_sumOf_46 dX12_sumOf_8 ?_
  refine zr_icmp_ge (pc := 11) (tgt := 43) hC dX12_sumOf_11 (by decide) (fun c1 => ?_) (fun c1 => ?_)
  · replace h := zip h c1
    obtain rfl := Option.some.inj h
    exact zV.sub (lv' := [(2, .int w0)]) [2] rfl (hout0 w0 rfl)
  · replace h := zin h c1
    refine zr_iload_n (pc := 14) hC 2 rfl rfl dX12_sumOf_14 ?_
    refine zr_aload_n (pc := 15) hC 0 rfl rfl dX12_sumOf_15 ?_
    refine zmg_1 (pc := 16) hC hinX12_sumOf_X12 flX12_sumOf_13 dX12_sumOf_16 ?_
    refine zr_iload_n (pc := 19) hC 3 rfl rfl dX12_sumOf_19 ?_
    obtain ⟨i2, h⟩ := zgd h
    refine zml_2 (pc := 20) hC i2 dX12_sumOf_20 ?_
    refine zr_iload_n (pc := 21) hC 1 rfl rfl dX12_sumOf_21 ?_
    refine zr_icmp_ne (pc := 22) (tgt := 34) hC dX12_sumOf_22 (by decide) (fun c3 => ?_) (fun c3 => ?_)
    · replace h := zin h c3
      refine zr_iconst (pc := 34) hC zki_0 dX12_sumOf_34 ?_
      refine zr_iadd (pc := 35) hC dX12_sumOf_35 ?_
      obtain ⟨z4, e5, h⟩ := zle h
      refine zr_topi e5 ?_
      refine zr_istore_n (pc := 36) (lv' := [(2, .int z4), (0, .ref (ad 0)), (1, .int v1), (3, .int w1)]) hC rfl (by decide) rfl dX12_sumOf_36 ?_
      refine zr_iinc (pc := 37) (k := 3) (lv' := [(3, .int (w1 + (1 : Int32))), (2, .int z4), (0, .ref (ad 0)), (1, .int v1)]) hC zki_1 (by decide) rfl rfl dX12_sumOf_37 ?_
      refine zr_goto (pc := 40) (tgt := 6) hC dX12_sumOf_40 (by decide) ?_
      obtain rfl := Option.some.inj h
      exact zV.sub (lv' := [(0, .ref (ad 0)), (1, .int v1), (2, .int z4), (3, .int (w1 + (1 : Int32)))]) [2, 3, 1, 0] rfl (hin z4 (w1 + (1 : Int32)) rfl)
    · replace h := zip h c3
      refine zr_aload_n (pc := 25) hC 0 rfl rfl dX12_sumOf_25 ?_
      refine zmg_2 (pc := 26) hC hinX12_sumOf_X12 flX12_sumOf_16 dX12_sumOf_26 ?_
      refine zr_iload_n (pc := 29) hC 3 rfl rfl dX12_sumOf_29 ?_
      refine zml_3 (pc := 30) hC i2 dX12_sumOf_30 ?_
      refine zr_goto (pc := 31) (tgt := 35) hC dX12_sumOf_31 (by decide) ?_
      refine zr_iadd (pc := 35) hC dX12_sumOf_35 ?_
      obtain ⟨z6, e7, h⟩ := zle h
      refine zr_topi e7 ?_
      refine zr_istore_n (pc := 36) (lv' := [(2, .int z6), (0, .ref (ad 0)), (1, .int v1), (3, .int w1)]) hC rfl (by decide) rfl dX12_sumOf_36 ?_
      refine zr_iinc (pc := 37) (k := 3) (lv' := [(3, .int (w1 + (1 : Int32))), (2, .int z6), (0, .ref (ad 0)), (1, .int v1)]) hC zki_1 (by decide) rfl rfl dX12_sumOf_37 ?_
      refine zr_goto (pc := 40) (tgt := 6) hC dX12_sumOf_40 (by decide) ?_
      obtain rfl := Option.some.inj h
      exact zV.sub (lv' := [(0, .ref (ad 0)), (1, .int v1), (2, .int z6), (3, .int (w1 + (1 : Int32)))]) [2, 3, 1, 0] rfl (hin z6 (w1 + (1 : Int32)) rfl)
def xX12_sumOf (M : zM) (v1 : Int32) : Option Int32 :=
  zlet (v1 + (1 : Int32)) fun z1 =>
  (x_it (fun a9 => xX12_sumOf_L6 M v1 a9.1 a9.2) zFU ((0 : Int32), z1)).bind fun q3 =>
  some q3
set_option maxHeartbeats 4000000 in
set_option maxRecDepth 100000 in
theorem tX12_sumOf {κ : Nat → ClassId} {E : zEn} {ad : Nat → Nat} (hEk : zEk E) {M : zM} {v1 : Int32} {res : Int32} (h : xX12_sumOf M v1 = some res) (l : Launch) (D : va_G) : zCT E D vwCl (zty κ) l yX12_sumOf wsX12_sumOf ({ frames := 0, cells := 0, slots := 0, locals := 0 } : Room) 0 0 [.ref (ad 0), .int v1] (zwM κ ad M) (zPd (some (.int res)) (zwM κ ad M)) := by
  refine zCT.of (cc := cX12_sumOf) (maxL := 4) (ret := (some .int)) (by decide) rfl (Nat.le_of_ble_eq_true rfl) ?_
  intro X hC hR
  unfold xX12_sumOf at h
  refine zV.sub (lv' := [(0, .ref (ad 0)), (1, .int v1)]) [0, 1] rfl ?_
  refine zr_iconst (pc := 0) hC zki_0 dX12_sumOf_0 ?_
  refine zr_istore_n (pc := 1) (lv' := [(2, .int (0 : Int32)), (0, .ref (ad 0)), (1, .int v1)]) hC rfl (by decide) rfl dX12_sumOf_1 ?_
  refine zr_iload_n (pc := 2) hC 2 rfl rfl dX12_sumOf_2 ?_
  refine zr_iconst (pc := 3) hC zki_1 dX12_sumOf_3 ?_
  refine zr_iadd (pc := 4) hC dX12_sumOf_4 ?_
  obtain ⟨z1, e2, h⟩ := zle h
  refine zr_topi e2 ?_
  refine zr_istore_n (pc := 5) (lv' := [(3, .int z1), (2, .int (0 : Int32)), (0, .ref (ad 0)), (1, .int v1)]) hC rfl (by decide) rfl dX12_sumOf_5 ?_
  obtain ⟨q3, hq3, h⟩ := zbd h
  refine zV.sub (lv' := [(0, .ref (ad 0)), (1, .int v1), (2, .int (0 : Int32)), (3, .int z1)]) [2, 3, 1, 0] rfl ?_
  refine zit2 (Wp := fun (y0 : Int32) (y1 : Int32) => zV X 0 0 (zwM κ ad M) [(0, .ref (ad 0)), (1, .int v1), (2, .int y0), (3, .int y1)] [] 6) (Ex := fun (b9 : Int32) => zV X 0 0 (zwM κ ad M) [(2, .int b9)] [] 43) (fun y0 y1 r9 hr hin hout => tX12_sumOf_L6 hC hEk hin (fun z0 e9 => hout z0 e9) hr) zFU (0 : Int32) z1 q3 hq3 ?_
  show zV X 0 0 (zwM κ ad M) [(2, .int q3)] [] 43
  refine zr_iload_n (pc := 43) hC 0 rfl rfl dX12_sumOf_43 ?_
  obtain rfl := Option.some.inj h
  exact zr_iret hC hR ⟨rfl, rfl⟩ (Nat.le_refl _) (Nat.le_refl _) dX12_sumOf_44
/-! X12_commonOf -/
theorem hyX12_commonOf : yX12_commonOf.cls = RX12 ∧ yX12_commonOf.cls ≠ "java/lang/invoke/MethodHandle" ∧ yX12_commonOf.cls ≠ "java/lang/invoke/VarHandle" ∧ (parseMethodDescriptor yX12_commonOf.desc).map (fun d => d.parameters.length) = some 1 := by decide +kernel
theorem flX12_commonOf_13 : Cond.fieldLink RX12 13 "BeforeTheEndModel" "parent" "[I" ∈ wsX12_commonOf := by decide +kernel
theorem flX12_commonOf_16 : Cond.fieldLink RX12 16 "BeforeTheEndModel" "weight" "[I" ∈ wsX12_commonOf := by decide +kernel
theorem flX12_commonOf_46 : Cond.fieldLink RX12 46 "BeforeTheEndModel" "words" "I" ∈ wsX12_commonOf := by decide +kernel
theorem hinX12_commonOf_X12 : ∀ w ∈ wsX120, w ∈ wsX12_commonOf := fun _ h => List.mem_cons_of_mem _ (List.mem_append_right _ h)
def xX12_commonOf_L6 (M : zM) (v1 : Int32) (w0 : Int32) (w1 : Int32) : Option ((Int32 × Int32) ⊕ Int32) :=
  if (M.1 0 12) ≤ w1 then
  (some (.inr w0))
  else
  if (w1 < 0 ∨ 24 ≤ w1.toNatClampNeg) then none else
  if (M.1 2 w1.toNatClampNeg) = v1 then
  ((xX12_divisor (M.1 3 w1.toNatClampNeg).toInt64 w0.toInt64).bind fun q4 =>
  some (.inl (q4.toInt32, (w1 + (1 : Int32)))))
  else
  some (.inl (w0, (w1 + (1 : Int32))))
set_option maxHeartbeats 4000000 in
set_option maxRecDepth 100000 in
theorem tX12_commonOf_L6 {κ : Nat → ClassId} {E : zEn} {ad : Nat → Nat} {X : zX} {M : zM} {v1 : Int32} {w0 : Int32} {w1 : Int32} {r : ((Int32 × Int32) ⊕ Int32)} (hC : zC X cX12_commonOf RX12 wsX12_commonOf vwCl (zty κ) E 4 ({ frames := 1, cells := 0, slots := 0, locals := 29 } : Room)) (hEk : zEk E) (hin : ∀ (x0' : Int32) (x1' : Int32), r = .inl (x0', x1') → zV X 0 0 (zwM κ ad M) [(0, .ref (ad 0)), (1, .int v1), (2, .int x0'), (3, .int x1')] [] 6) (hout0 : ∀ (x0' : Int32), r = .inr x0' → zV X 0 0 (zwM κ ad M) [(2, .int x0')] [] 48) (h : xX12_commonOf_L6 M v1 w0 w1 = some r) : zV X 0 0 (zwM κ ad M) [(0, .ref (ad 0)), (1, .int v1), (2, .int w0), (3, .int w1)] [] 6 := by
  unfold xX12_commonOf_L6 at h
  refine zr_iload_n (pc := 6) hC 3 rfl rfl dX12_commonOf_6 ?_
  refine zr_aload_n (pc := 7) hC 0 rfl rfl dX12_commonOf_7 ?_
  refine zmg_12 (pc := 8) hC hinX12_commonOf_X12 flX12_commonOf_46 dX12_commonOf_8 ?_
  refine zr_icmp_ge (pc := 11) (tgt := 48) hC dX12_commonOf_11 (by decide) (fun c1 => ?_) (fun c1 => ?_)
  · replace h := zip h c1
    obtain rfl := Option.some.inj h
    exact zV.sub (lv' := [(2, .int w0)]) [2] rfl (hout0 w0 rfl)
  · replace h := zin h c1
    refine zr_aload_n (pc := 14) hC 0 rfl rfl dX12_commonOf_14 ?_
    refine zmg_1 (pc := 15) hC hinX12_commonOf_X12 flX12_commonOf_13 dX12_commonOf_15 ?_
    refine zr_iload_n (pc := 18) hC 3 rfl rfl dX12_commonOf_18 ?_
    obtain ⟨i2, h⟩ := zgd h
    refine zml_2 (pc := 19) hC i2 dX12_commonOf_19 ?_
    refine zr_iload_n (pc := 20) hC 1 rfl rfl dX12_commonOf_20 ?_
    refine zr_icmp_ne (pc := 21) (tgt := 40) hC dX12_commonOf_21 (by decide) (fun c3 => ?_) (fun c3 => ?_)
    · replace h := zin h c3
      refine zr_iload_n (pc := 40) hC 2 rfl rfl dX12_commonOf_40 ?_
      refine zr_istore_n (pc := 41) (lv' := [(2, .int w0), (0, .ref (ad 0)), (1, .int v1), (3, .int w1)]) hC rfl (by decide) rfl dX12_commonOf_41 ?_
      refine zr_iinc (pc := 42) (k := 3) (lv' := [(3, .int (w1 + (1 : Int32))), (2, .int w0), (0, .ref (ad 0)), (1, .int v1)]) hC zki_1 (by decide) rfl rfl dX12_commonOf_42 ?_
      refine zr_goto (pc := 45) (tgt := 6) hC dX12_commonOf_45 (by decide) ?_
      obtain rfl := Option.some.inj h
      exact zV.sub (lv' := [(0, .ref (ad 0)), (1, .int v1), (2, .int w0), (3, .int (w1 + (1 : Int32)))]) [2, 3, 1, 0] rfl (hin w0 (w1 + (1 : Int32)) rfl)
    · replace h := zip h c3
      refine zr_aload_n (pc := 24) hC 0 rfl rfl dX12_commonOf_24 ?_
      refine zmg_2 (pc := 25) hC hinX12_commonOf_X12 flX12_commonOf_16 dX12_commonOf_25 ?_
      refine zr_iload_n (pc := 28) hC 3 rfl rfl dX12_commonOf_28 ?_
      refine zml_3 (pc := 29) hC i2 dX12_commonOf_29 ?_
      refine zr_i2l (pc := 30) hC dX12_commonOf_30 ?_
      refine zr_iload_n (pc := 31) hC 2 rfl rfl dX12_commonOf_31 ?_
      refine zr_i2l (pc := 32) hC dX12_commonOf_32 ?_
      obtain ⟨q4, hq4, h⟩ := zbd h
      refine zr_cSl (pc := 33) hC hEk [.long (M.1 3 w1.toNatClampNeg).toInt64, .long w0.toInt64] [] 2 (fun l D => tX12_divisor hEk hq4 l D) gX12_commonOf_X12_divisor rfl rfl rfl ⟨Nat.le_of_ble_eq_true rfl, Nat.le_of_ble_eq_true rfl⟩ hyX12_divisor rfl rfl (Nat.le_of_ble_eq_true rfl) ⟨Nat.le_of_ble_eq_true rfl, Nat.le_of_ble_eq_true rfl⟩ dX12_commonOf_33 ?_
      refine zr_l2i (pc := 36) hC dX12_commonOf_36 ?_
      refine zr_goto (pc := 37) (tgt := 41) hC dX12_commonOf_37 (by decide) ?_
      refine zr_istore_n (pc := 41) (lv' := [(2, .int q4.toInt32), (0, .ref (ad 0)), (1, .int v1), (3, .int w1)]) hC rfl (by decide) rfl dX12_commonOf_41 ?_
      refine zr_iinc (pc := 42) (k := 3) (lv' := [(3, .int (w1 + (1 : Int32))), (2, .int q4.toInt32), (0, .ref (ad 0)), (1, .int v1)]) hC zki_1 (by decide) rfl rfl dX12_commonOf_42 ?_
      refine zr_goto (pc := 45) (tgt := 6) hC dX12_commonOf_45 (by decide) ?_
      obtain rfl := Option.some.inj h
      exact zV.sub (lv' := [(0, .ref (ad 0)), (1, .int v1), (2, .int q4.toInt32), (3, .int (w1 + (1 : Int32)))]) [2, 3, 1, 0] rfl (hin q4.toInt32 (w1 + (1 : Int32)) rfl)
def xX12_commonOf (M : zM) (v1 : Int32) : Option Int32 :=
  zlet (v1 + (1 : Int32)) fun z1 =>
  (x_it (fun a9 => xX12_commonOf_L6 M v1 a9.1 a9.2) zFU ((0 : Int32), z1)).bind fun q3 =>
  some q3
set_option maxHeartbeats 4000000 in
set_option maxRecDepth 100000 in
theorem tX12_commonOf {κ : Nat → ClassId} {E : zEn} {ad : Nat → Nat} (hEk : zEk E) {M : zM} {v1 : Int32} {res : Int32} (h : xX12_commonOf M v1 = some res) (l : Launch) (D : va_G) : zCT E D vwCl (zty κ) l yX12_commonOf wsX12_commonOf ({ frames := 1, cells := 0, slots := 0, locals := 29 } : Room) 0 0 [.ref (ad 0), .int v1] (zwM κ ad M) (zPd (some (.int res)) (zwM κ ad M)) := by
  refine zCT.of (cc := cX12_commonOf) (maxL := 4) (ret := (some .int)) (by decide) rfl (Nat.le_of_ble_eq_true rfl) ?_
  intro X hC hR
  unfold xX12_commonOf at h
  refine zV.sub (lv' := [(0, .ref (ad 0)), (1, .int v1)]) [0, 1] rfl ?_
  refine zr_iconst (pc := 0) hC zki_0 dX12_commonOf_0 ?_
  refine zr_istore_n (pc := 1) (lv' := [(2, .int (0 : Int32)), (0, .ref (ad 0)), (1, .int v1)]) hC rfl (by decide) rfl dX12_commonOf_1 ?_
  refine zr_iload_n (pc := 2) hC 2 rfl rfl dX12_commonOf_2 ?_
  refine zr_iconst (pc := 3) hC zki_1 dX12_commonOf_3 ?_
  refine zr_iadd (pc := 4) hC dX12_commonOf_4 ?_
  obtain ⟨z1, e2, h⟩ := zle h
  refine zr_topi e2 ?_
  refine zr_istore_n (pc := 5) (lv' := [(3, .int z1), (2, .int (0 : Int32)), (0, .ref (ad 0)), (1, .int v1)]) hC rfl (by decide) rfl dX12_commonOf_5 ?_
  obtain ⟨q3, hq3, h⟩ := zbd h
  refine zV.sub (lv' := [(0, .ref (ad 0)), (1, .int v1), (2, .int (0 : Int32)), (3, .int z1)]) [2, 3, 1, 0] rfl ?_
  refine zit2 (Wp := fun (y0 : Int32) (y1 : Int32) => zV X 0 0 (zwM κ ad M) [(0, .ref (ad 0)), (1, .int v1), (2, .int y0), (3, .int y1)] [] 6) (Ex := fun (b9 : Int32) => zV X 0 0 (zwM κ ad M) [(2, .int b9)] [] 48) (fun y0 y1 r9 hr hin hout => tX12_commonOf_L6 hC hEk hin (fun z0 e9 => hout z0 e9) hr) zFU (0 : Int32) z1 q3 hq3 ?_
  show zV X 0 0 (zwM κ ad M) [(2, .int q3)] [] 48
  refine zr_iload_n (pc := 48) hC 0 rfl rfl dX12_commonOf_48 ?_
  obtain rfl := Option.some.inj h
  exact zr_iret hC hR ⟨rfl, rfl⟩ (Nat.le_refl _) (Nat.le_refl _) dX12_commonOf_49
/-! X12_findShares -/
theorem hyX12_findShares : yX12_findShares.cls = RX12 ∧ yX12_findShares.cls ≠ "java/lang/invoke/MethodHandle" ∧ yX12_findShares.cls ≠ "java/lang/invoke/VarHandle" ∧ (parseMethodDescriptor yX12_findShares.desc).map (fun d => d.parameters.length) = some 0 := by decide +kernel
theorem flX12_findShares_13 : Cond.fieldLink RX12 13 "BeforeTheEndModel" "parent" "[I" ∈ wsX12_findShares := by decide +kernel
theorem flX12_findShares_16 : Cond.fieldLink RX12 16 "BeforeTheEndModel" "weight" "[I" ∈ wsX12_findShares := by decide +kernel
theorem flX12_findShares_19 : Cond.fieldLink RX12 19 "BeforeTheEndModel" "answer" "[I" ∈ wsX12_findShares := by decide +kernel
theorem flX12_findShares_194 : Cond.fieldLink RX12 194 "BeforeTheEndModel" "unit" "J" ∈ wsX12_findShares := by decide +kernel
theorem flX12_findShares_46 : Cond.fieldLink RX12 46 "BeforeTheEndModel" "words" "I" ∈ wsX12_findShares := by decide +kernel
theorem flX12_findShares_71 : Cond.fieldLink RX12 71 "BeforeTheEndModel" "share" "[J" ∈ wsX12_findShares := by decide +kernel
theorem flX12_findShares_75 : Cond.fieldLink RX12 75 "BeforeTheEndModel" "ofAnswer" "[J" ∈ wsX12_findShares := by decide +kernel
theorem hinX12_findShares_X12 : ∀ w ∈ wsX120, w ∈ wsX12_findShares := fun _ h => List.mem_cons_of_mem _ (List.mem_append_right _ h)
def xX12_findShares_L7 (w0 : zM) (w1 : Int32) : Option ((zM × Int32) ⊕ zM) :=
  if (w0.1 0 12) ≤ w1 then
  (some (.inr w0))
  else
  if (w1 < 0 ∨ 24 ≤ w1.toNatClampNeg) then none else
  if (w0.1 4 w1.toNatClampNeg) = 0 then
  ((xX12_sumOf w0 w1).bind fun q6 =>
  (xX12_commonOf w0 w1).bind fun q7 =>
  if q7 = 0 then none else
  zlet (zsj w0 0 29 ((w0.2 0 29) * (q6 / q7).toInt64)) fun M9 =>
  some (.inl (M9, (w1 + (1 : Int32)))))
  else
  zlet (zsj w0 0 29 ((w0.2 0 29) * (1 : Int64))) fun M4 =>
  some (.inl (M4, (w1 + (1 : Int32))))
set_option maxHeartbeats 4000000 in
set_option maxRecDepth 100000 in
theorem tX12_findShares_L7 {κ : Nat → ClassId} {E : zEn} {ad : Nat → Nat} {X : zX} {w0 : zM} {w1 : Int32} {r : ((zM × Int32) ⊕ zM)} (hC : zC X cX12_findShares RX12 wsX12_findShares vwCl (zty κ) E 3 ({ frames := 2, cells := 0, slots := 0, locals := 52 } : Room)) (hEk : zEk E) (hin : ∀ (x0' : zM) (x1' : Int32), r = .inl (x0', x1') → zV X 0 0 (zwM κ ad x0') [(0, .ref (ad 0)), (1, .int x1')] [] 7) (hout0 : ∀ (x0' : zM), r = .inr x0' → zV X 0 0 (zwM κ ad x0') [(0, .ref (ad 0))] [] 55) (h : xX12_findShares_L7   w0 w1 = some r) : zV X 0 0 (zwM κ ad w0) [(0, .ref (ad 0)), (1, .int w1)] [] 7 := by
  unfold xX12_findShares_L7 at h
  refine zr_iload_n (pc := 7) hC 1 rfl rfl dX12_findShares_7 ?_
  refine zr_aload_n (pc := 8) hC 0 rfl rfl dX12_findShares_8 ?_
  refine zmg_12 (pc := 9) hC hinX12_findShares_X12 flX12_findShares_46 dX12_findShares_9 ?_
  refine zr_icmp_ge (pc := 12) (tgt := 55) hC dX12_findShares_12 (by decide) (fun c1 => ?_) (fun c1 => ?_)
  · replace h := zip h c1
    obtain rfl := Option.some.inj h
    exact zV.sub (lv' := [(0, .ref (ad 0))]) [0] rfl (hout0 w0 rfl)
  · replace h := zin h c1
    refine zr_aload_n (pc := 15) hC 0 rfl rfl dX12_findShares_15 ?_
    refine zr_dup (pc := 16) hC rfl dX12_findShares_16 ?_
    refine zmg_29 (pc := 17) hC hinX12_findShares_X12 flX12_findShares_194 dX12_findShares_17 ?_
    refine zr_aload_n (pc := 20) hC 0 rfl rfl dX12_findShares_20 ?_
    refine zmg_3 (pc := 21) hC hinX12_findShares_X12 flX12_findShares_19 dX12_findShares_21 ?_
    refine zr_iload_n (pc := 24) hC 1 rfl rfl dX12_findShares_24 ?_
    obtain ⟨i2, h⟩ := zgd h
    refine zml_4 (pc := 25) hC i2 dX12_findShares_25 ?_
    refine zr_if_ne (pc := 26) (tgt := 44) hC dX12_findShares_26 (by decide) (fun c3 => ?_) (fun c3 => ?_)
    · replace h := zin h c3
      refine zr_lconst (pc := 44) hC zkl_1 dX12_findShares_44 ?_
      refine zr_lmul (pc := 45) hC dX12_findShares_45 ?_
      obtain ⟨M4, e5, h⟩ := zle h
      refine zmp_29 (pc := 46) hC hinX12_findShares_X12 flX12_findShares_194 e5 dX12_findShares_46 ?_
      refine zr_iinc (pc := 49) (k := 1) (lv' := [(1, .int (w1 + (1 : Int32))), (0, .ref (ad 0))]) hC zki_1 (by decide) rfl rfl dX12_findShares_49 ?_
      refine zr_goto (pc := 52) (tgt := 7) hC dX12_findShares_52 (by decide) ?_
      obtain rfl := Option.some.inj h
      exact zV.sub (lv' := [(0, .ref (ad 0)), (1, .int (w1 + (1 : Int32)))]) [1, 0] rfl (hin M4 (w1 + (1 : Int32)) rfl)
    · replace h := zip h c3
      refine zr_aload_n (pc := 29) hC 0 rfl rfl dX12_findShares_29 ?_
      refine zr_iload_n (pc := 30) hC 1 rfl rfl dX12_findShares_30 ?_
      obtain ⟨q6, hq6, h⟩ := zbd h
      refine zr_cVi (pc := 31) hC hEk [.int w1] [.long (w0.2 0 29), .ref (ad 0)] 0 1 (fun l D => tX12_sumOf hEk hq6 l D) gX12_findShares_X12_sumOf rfl rfl rfl ⟨Nat.le_of_ble_eq_true rfl, Nat.le_of_ble_eq_true rfl⟩ hyX12_sumOf (by decide) entM_0 rfl rfl rfl (Nat.le_of_ble_eq_true rfl) ⟨Nat.le_of_ble_eq_true rfl, Nat.le_of_ble_eq_true rfl⟩ dX12_findShares_31 ?_
      refine zr_aload_n (pc := 34) hC 0 rfl rfl dX12_findShares_34 ?_
      refine zr_iload_n (pc := 35) hC 1 rfl rfl dX12_findShares_35 ?_
      obtain ⟨q7, hq7, h⟩ := zbd h
      refine zr_cVi (pc := 36) hC hEk [.int w1] [.int q6, .long (w0.2 0 29), .ref (ad 0)] 0 1 (fun l D => tX12_commonOf hEk hq7 l D) gX12_findShares_X12_commonOf rfl rfl rfl ⟨Nat.le_of_ble_eq_true rfl, Nat.le_of_ble_eq_true rfl⟩ hyX12_commonOf (by decide) entM_0 rfl rfl rfl (Nat.le_of_ble_eq_true rfl) ⟨Nat.le_of_ble_eq_true rfl, Nat.le_of_ble_eq_true rfl⟩ dX12_findShares_36 ?_
      obtain ⟨n8, h⟩ := zgd h
      refine zr_idiv (pc := 39) hC n8 dX12_findShares_39 ?_
      refine zr_i2l (pc := 40) hC dX12_findShares_40 ?_
      refine zr_goto (pc := 41) (tgt := 45) hC dX12_findShares_41 (by decide) ?_
      refine zr_lmul (pc := 45) hC dX12_findShares_45 ?_
      obtain ⟨M9, e10, h⟩ := zle h
      refine zmp_29 (pc := 46) hC hinX12_findShares_X12 flX12_findShares_194 e10 dX12_findShares_46 ?_
      refine zr_iinc (pc := 49) (k := 1) (lv' := [(1, .int (w1 + (1 : Int32))), (0, .ref (ad 0))]) hC zki_1 (by decide) rfl rfl dX12_findShares_49 ?_
      refine zr_goto (pc := 52) (tgt := 7) hC dX12_findShares_52 (by decide) ?_
      obtain rfl := Option.some.inj h
      exact zV.sub (lv' := [(0, .ref (ad 0)), (1, .int (w1 + (1 : Int32)))]) [1, 0] rfl (hin M9 (w1 + (1 : Int32)) rfl)
def xX12_findShares_L67 (w0 : zM) (w1 : Int32) : Option ((zM × Int32) ⊕ zM) :=
  if (w0.1 0 12) ≤ w1 then
  (some (.inr w0))
  else
  if (w1 < 0 ∨ 24 ≤ w1.toNatClampNeg) then none else
  (xX12_commonOf w0 (w0.1 2 w1.toNatClampNeg)).bind fun q3 =>
  if ((w0.1 2 w1.toNatClampNeg) < 0 ∨ 24 ≤ (w0.1 2 w1.toNatClampNeg).toNatClampNeg) then none else
  (xX12_sumOf w0 (w0.1 2 w1.toNatClampNeg)).bind fun q5 =>
  if q3 = 0 then none else
  if (q5 / q3).toInt64 = 0 then none else
  zlet (zsj w0 20 w1.toNatClampNeg (((w0.2 20 (w0.1 2 w1.toNatClampNeg).toNatClampNeg) / (q5 / q3).toInt64) * ((w0.1 3 w1.toNatClampNeg) / q3).toInt64)) fun M8 =>
  some (.inl (M8, (w1 + (1 : Int32))))
set_option maxHeartbeats 4000000 in
set_option maxRecDepth 100000 in
theorem tX12_findShares_L67 {κ : Nat → ClassId} {E : zEn} {ad : Nat → Nat} {X : zX} {w0 : zM} {w1 : Int32} {r : ((zM × Int32) ⊕ zM)} (hC : zC X cX12_findShares RX12 wsX12_findShares vwCl (zty κ) E 3 ({ frames := 2, cells := 0, slots := 0, locals := 52 } : Room)) (hEk : zEk E) (hin : ∀ (x0' : zM) (x1' : Int32), r = .inl (x0', x1') → zV X 0 0 (zwM κ ad x0') [(0, .ref (ad 0)), (1, .int x1')] [] 67) (hout0 : ∀ (x0' : zM), r = .inr x0' → zV X 0 0 (zwM κ ad x0') [(0, .ref (ad 0))] [] 133) (h : xX12_findShares_L67   w0 w1 = some r) : zV X 0 0 (zwM κ ad w0) [(0, .ref (ad 0)), (1, .int w1)] [] 67 := by
  unfold xX12_findShares_L67 at h
  refine zr_iload_n (pc := 67) hC 1 rfl rfl dX12_findShares_67 ?_
  refine zr_aload_n (pc := 68) hC 0 rfl rfl dX12_findShares_68 ?_
  refine zmg_12 (pc := 69) hC hinX12_findShares_X12 flX12_findShares_46 dX12_findShares_69 ?_
  refine zr_icmp_ge (pc := 72) (tgt := 133) hC dX12_findShares_72 (by decide) (fun c1 => ?_) (fun c1 => ?_)
  · replace h := zip h c1
    obtain rfl := Option.some.inj h
    exact zV.sub (lv' := [(0, .ref (ad 0))]) [0] rfl (hout0 w0 rfl)
  · replace h := zin h c1
    refine zr_aload_n (pc := 75) hC 0 rfl rfl dX12_findShares_75 ?_
    refine zr_aload_n (pc := 76) hC 0 rfl rfl dX12_findShares_76 ?_
    refine zmg_1 (pc := 77) hC hinX12_findShares_X12 flX12_findShares_13 dX12_findShares_77 ?_
    refine zr_iload_n (pc := 80) hC 1 rfl rfl dX12_findShares_80 ?_
    obtain ⟨i2, h⟩ := zgd h
    refine zml_2 (pc := 81) hC i2 dX12_findShares_81 ?_
    obtain ⟨q3, hq3, h⟩ := zbd h
    refine zr_cVi (pc := 82) hC hEk [.int (w0.1 2 w1.toNatClampNeg)] [] 0 1 (fun l D => tX12_commonOf hEk hq3 l D) gX12_findShares_X12_commonOf rfl rfl rfl ⟨Nat.le_of_ble_eq_true rfl, Nat.le_of_ble_eq_true rfl⟩ hyX12_commonOf (by decide) entM_0 rfl rfl rfl (Nat.le_of_ble_eq_true rfl) ⟨Nat.le_of_ble_eq_true rfl, Nat.le_of_ble_eq_true rfl⟩ dX12_findShares_82 ?_
    refine zr_istore_n (pc := 85) (lv' := [(2, .int q3), (0, .ref (ad 0)), (1, .int w1)]) hC rfl (by decide) rfl dX12_findShares_85 ?_
    refine zr_aload_n (pc := 86) hC 1 rfl rfl dX12_findShares_86 ?_
    refine zmg_24 (pc := 87) hC hinX12_findShares_X12 flX12_findShares_71 dX12_findShares_87 ?_
    refine zr_iload_n (pc := 90) hC 2 rfl rfl dX12_findShares_90 ?_
    refine zr_aload_n (pc := 91) hC 1 rfl rfl dX12_findShares_91 ?_
    refine zmg_24 (pc := 92) hC hinX12_findShares_X12 flX12_findShares_71 dX12_findShares_92 ?_
    refine zr_aload_n (pc := 95) hC 1 rfl rfl dX12_findShares_95 ?_
    refine zmg_1 (pc := 96) hC hinX12_findShares_X12 flX12_findShares_13 dX12_findShares_96 ?_
    refine zr_iload_n (pc := 99) hC 2 rfl rfl dX12_findShares_99 ?_
    refine zml_2 (pc := 100) hC i2 dX12_findShares_100 ?_
    obtain ⟨i4, h⟩ := zgd h
    refine zml_20 (pc := 101) hC i4 dX12_findShares_101 ?_
    refine zr_aload_n (pc := 102) hC 1 rfl rfl dX12_findShares_102 ?_
    refine zr_aload_n (pc := 103) hC 1 rfl rfl dX12_findShares_103 ?_
    refine zmg_1 (pc := 104) hC hinX12_findShares_X12 flX12_findShares_13 dX12_findShares_104 ?_
    refine zr_iload_n (pc := 107) hC 2 rfl rfl dX12_findShares_107 ?_
    refine zml_2 (pc := 108) hC i2 dX12_findShares_108 ?_
    obtain ⟨q5, hq5, h⟩ := zbd h
    refine zr_cVi (pc := 109) hC hEk [.int (w0.1 2 w1.toNatClampNeg)] [.long (w0.2 20 (w0.1 2 w1.toNatClampNeg).toNatClampNeg), .int w1, .ref (ad 20)] 0 1 (fun l D => tX12_sumOf hEk hq5 l D) gX12_findShares_X12_sumOf rfl rfl rfl ⟨Nat.le_of_ble_eq_true rfl, Nat.le_of_ble_eq_true rfl⟩ hyX12_sumOf (by decide) entM_0 rfl rfl rfl (Nat.le_of_ble_eq_true rfl) ⟨Nat.le_of_ble_eq_true rfl, Nat.le_of_ble_eq_true rfl⟩ dX12_findShares_109 ?_
    refine zr_iload_n (pc := 112) hC 0 rfl rfl dX12_findShares_112 ?_
    obtain ⟨n6, h⟩ := zgd h
    refine zr_idiv (pc := 113) hC n6 dX12_findShares_113 ?_
    refine zr_i2l (pc := 114) hC dX12_findShares_114 ?_
    obtain ⟨n7, h⟩ := zgd h
    refine zr_ldiv (pc := 115) hC n7 dX12_findShares_115 ?_
    refine zr_aload_n (pc := 116) hC 1 rfl rfl dX12_findShares_116 ?_
    refine zmg_2 (pc := 117) hC hinX12_findShares_X12 flX12_findShares_16 dX12_findShares_117 ?_
    refine zr_iload_n (pc := 120) hC 2 rfl rfl dX12_findShares_120 ?_
    refine zml_3 (pc := 121) hC i2 dX12_findShares_121 ?_
    refine zr_iload_n (pc := 122) hC 0 rfl rfl dX12_findShares_122 ?_
    refine zr_idiv (pc := 123) hC n6 dX12_findShares_123 ?_
    refine zr_i2l (pc := 124) hC dX12_findShares_124 ?_
    refine zr_lmul (pc := 125) hC dX12_findShares_125 ?_
    obtain ⟨M8, e9, h⟩ := zle h
    refine zms_20 (pc := 126) hC i2 e9 dX12_findShares_126 ?_
    refine zr_iinc (pc := 127) (k := 2) (lv' := [(1, .int (w1 + (1 : Int32))), (2, .int q3), (0, .ref (ad 0))]) hC zki_1 (by decide) rfl rfl dX12_findShares_127 ?_
    refine zr_goto (pc := 130) (tgt := 67) hC dX12_findShares_130 (by decide) ?_
    obtain rfl := Option.some.inj h
    exact zV.sub (lv' := [(0, .ref (ad 0)), (1, .int (w1 + (1 : Int32)))]) [2, 0] rfl (hin M8 (w1 + (1 : Int32)) rfl)
def xX12_findShares_L135 (w0 : zM) (w1 : Int32) : Option ((zM × Int32) ⊕ zM) :=
  if ((10 : Int32) * (w0.1 0 12)) ≤ w1 then
  (some (.inr w0))
  else
  if (w1 < 0 ∨ 240 ≤ w1.toNatClampNeg) then none else
  zlet (zsj w0 21 w1.toNatClampNeg (0 : Int64)) fun M3 =>
  some (.inl (M3, (w1 + (1 : Int32))))
set_option maxHeartbeats 4000000 in
set_option maxRecDepth 100000 in
theorem tX12_findShares_L135 {κ : Nat → ClassId} {E : zEn} {ad : Nat → Nat} {X : zX} {w0 : zM} {w1 : Int32} {r : ((zM × Int32) ⊕ zM)} (hC : zC X cX12_findShares RX12 wsX12_findShares vwCl (zty κ) E 3 ({ frames := 2, cells := 0, slots := 0, locals := 52 } : Room)) (hEk : zEk E) (hin : ∀ (x0' : zM) (x1' : Int32), r = .inl (x0', x1') → zV X 0 0 (zwM κ ad x0') [(0, .ref (ad 0)), (1, .int x1')] [] 135) (hout0 : ∀ (x0' : zM), r = .inr x0' → zV X 0 0 (zwM κ ad x0') [(0, .ref (ad 0))] [] 159) (h : xX12_findShares_L135   w0 w1 = some r) : zV X 0 0 (zwM κ ad w0) [(0, .ref (ad 0)), (1, .int w1)] [] 135 := by
  unfold xX12_findShares_L135 at h
  refine zr_iload_n (pc := 135) hC 1 rfl rfl dX12_findShares_135 ?_
  refine zr_bipush (pc := 136) hC zkb_10 dX12_findShares_136 ?_
  refine zr_aload_n (pc := 138) hC 0 rfl rfl dX12_findShares_138 ?_
  refine zmg_12 (pc := 139) hC hinX12_findShares_X12 flX12_findShares_46 dX12_findShares_139 ?_
  refine zr_imul (pc := 142) hC dX12_findShares_142 ?_
  refine zr_icmp_ge (pc := 143) (tgt := 159) hC dX12_findShares_143 (by decide) (fun c1 => ?_) (fun c1 => ?_)
  · replace h := zip h c1
    obtain rfl := Option.some.inj h
    exact zV.sub (lv' := [(0, .ref (ad 0))]) [0] rfl (hout0 w0 rfl)
  · replace h := zin h c1
    refine zr_aload_n (pc := 146) hC 0 rfl rfl dX12_findShares_146 ?_
    refine zmg_25 (pc := 147) hC hinX12_findShares_X12 flX12_findShares_75 dX12_findShares_147 ?_
    refine zr_iload_n (pc := 150) hC 1 rfl rfl dX12_findShares_150 ?_
    refine zr_lconst (pc := 151) hC zkl_0 dX12_findShares_151 ?_
    obtain ⟨i2, h⟩ := zgd h
    obtain ⟨M3, e4, h⟩ := zle h
    refine zms_21 (pc := 152) hC i2 e4 dX12_findShares_152 ?_
    refine zr_iinc (pc := 153) (k := 1) (lv' := [(1, .int (w1 + (1 : Int32))), (0, .ref (ad 0))]) hC zki_1 (by decide) rfl rfl dX12_findShares_153 ?_
    refine zr_goto (pc := 156) (tgt := 135) hC dX12_findShares_156 (by decide) ?_
    obtain rfl := Option.some.inj h
    exact zV.sub (lv' := [(0, .ref (ad 0)), (1, .int (w1 + (1 : Int32)))]) [1, 0] rfl (hin M3 (w1 + (1 : Int32)) rfl)
def xX12_findShares_L183_L161 (v1 : Int32) (w0 : zM) (w1 : Int32) : Option ((zM × Int32) ⊕ zM) :=
  if w1 ≤ 0 then
  (some (.inr w0))
  else
  if (v1 < 0 ∨ 24 ≤ v1.toNatClampNeg) then none else
  if ((((10 : Int32) * w1) + (w0.1 4 v1.toNatClampNeg)) < 0 ∨ 240 ≤ (((10 : Int32) * w1) + (w0.1 4 v1.toNatClampNeg)).toNatClampNeg) then none else
  zlet (zsj w0 21 (((10 : Int32) * w1) + (w0.1 4 v1.toNatClampNeg)).toNatClampNeg ((w0.2 21 (((10 : Int32) * w1) + (w0.1 4 v1.toNatClampNeg)).toNatClampNeg) + (w0.2 20 v1.toNatClampNeg))) fun M4 =>
  if (w1 < 0 ∨ 24 ≤ w1.toNatClampNeg) then none else
  zlet (M4.1 2 w1.toNatClampNeg) fun z7 =>
  some (.inl (M4, z7))
set_option maxHeartbeats 4000000 in
set_option maxRecDepth 100000 in
theorem tX12_findShares_L183_L161 {κ : Nat → ClassId} {E : zEn} {ad : Nat → Nat} {X : zX} {v1 : Int32} {w0 : zM} {w1 : Int32} {r : ((zM × Int32) ⊕ zM)} (hC : zC X cX12_findShares RX12 wsX12_findShares vwCl (zty κ) E 3 ({ frames := 2, cells := 0, slots := 0, locals := 52 } : Room)) (hEk : zEk E) (hin : ∀ (x0' : zM) (x1' : Int32), r = .inl (x0', x1') → zV X 0 0 (zwM κ ad x0') [(0, .ref (ad 0)), (1, .int v1), (2, .int x1')] [] 183) (hout0 : ∀ (x0' : zM), r = .inr x0' → zV X 0 0 (zwM κ ad x0') [(0, .ref (ad 0)), (1, .int v1)] [] 222) (h : xX12_findShares_L183_L161  v1 w0 w1 = some r) : zV X 0 0 (zwM κ ad w0) [(0, .ref (ad 0)), (1, .int v1), (2, .int w1)] [] 183 := by
  unfold xX12_findShares_L183_L161 at h
  refine zr_iload_n (pc := 183) hC 2 rfl rfl dX12_findShares_183 ?_
  refine zr_if_le (pc := 184) (tgt := 222) hC dX12_findShares_184 (by decide) (fun c1 => ?_) (fun c1 => ?_)
  · replace h := zip h c1
    obtain rfl := Option.some.inj h
    exact zV.sub (lv' := [(0, .ref (ad 0)), (1, .int v1)]) [0, 1] rfl (hout0 w0 rfl)
  · replace h := zin h c1
    refine zr_aload_n (pc := 187) hC 0 rfl rfl dX12_findShares_187 ?_
    refine zmg_25 (pc := 188) hC hinX12_findShares_X12 flX12_findShares_75 dX12_findShares_188 ?_
    refine zr_bipush (pc := 191) hC zkb_10 dX12_findShares_191 ?_
    refine zr_iload_n (pc := 193) hC 2 rfl rfl dX12_findShares_193 ?_
    refine zr_imul (pc := 194) hC dX12_findShares_194 ?_
    refine zr_aload_n (pc := 195) hC 0 rfl rfl dX12_findShares_195 ?_
    refine zmg_3 (pc := 196) hC hinX12_findShares_X12 flX12_findShares_19 dX12_findShares_196 ?_
    refine zr_iload_n (pc := 199) hC 1 rfl rfl dX12_findShares_199 ?_
    obtain ⟨i2, h⟩ := zgd h
    refine zml_4 (pc := 200) hC i2 dX12_findShares_200 ?_
    refine zr_iadd (pc := 201) hC dX12_findShares_201 ?_
    refine zr_dup2 (pc := 202) hC rfl rfl dX12_findShares_202 ?_
    obtain ⟨i3, h⟩ := zgd h
    refine zml_21 (pc := 203) hC i3 dX12_findShares_203 ?_
    refine zr_aload_n (pc := 204) hC 0 rfl rfl dX12_findShares_204 ?_
    refine zmg_24 (pc := 205) hC hinX12_findShares_X12 flX12_findShares_71 dX12_findShares_205 ?_
    refine zr_iload_n (pc := 208) hC 1 rfl rfl dX12_findShares_208 ?_
    refine zml_20 (pc := 209) hC i2 dX12_findShares_209 ?_
    refine zr_ladd (pc := 210) hC dX12_findShares_210 ?_
    obtain ⟨M4, e5, h⟩ := zle h
    refine zms_21 (pc := 211) hC i3 e5 dX12_findShares_211 ?_
    refine zr_aload_n (pc := 212) hC 0 rfl rfl dX12_findShares_212 ?_
    refine zmg_1 (pc := 213) hC hinX12_findShares_X12 flX12_findShares_13 dX12_findShares_213 ?_
    refine zr_iload_n (pc := 216) hC 2 rfl rfl dX12_findShares_216 ?_
    obtain ⟨i6, h⟩ := zgd h
    refine zml_2 (pc := 217) hC i6 dX12_findShares_217 ?_
    obtain ⟨z7, e8, h⟩ := zle h
    refine zr_topi e8 ?_
    refine zr_istore_n (pc := 218) (lv' := [(2, .int z7), (0, .ref (ad 0)), (1, .int v1)]) hC rfl (by decide) rfl dX12_findShares_218 ?_
    refine zr_goto (pc := 219) (tgt := 183) hC dX12_findShares_219 (by decide) ?_
    obtain rfl := Option.some.inj h
    exact zV.sub (lv' := [(0, .ref (ad 0)), (1, .int v1), (2, .int z7)]) [1, 2, 0] rfl (hin M4 z7 rfl)
def xX12_findShares_L161 (w0 : zM) (w1 : Int32) : Option ((zM × Int32) ⊕ zM) :=
  if (w0.1 0 12) ≤ w1 then
  (some (.inr w0))
  else
  if (w1 < 0 ∨ 24 ≤ w1.toNatClampNeg) then none else
  if (w0.1 4 w1.toNatClampNeg) = 0 then
  (some (.inl (w0, (w1 + (1 : Int32)))))
  else
  (x_it (fun a9 => xX12_findShares_L183_L161 w1 a9.1 a9.2) zFU (w0, w1)).bind fun q4 =>
  if (w1 < 0 ∨ 24 ≤ w1.toNatClampNeg) then none else
  if ((q4.1 4 w1.toNatClampNeg) < 0 ∨ 240 ≤ (q4.1 4 w1.toNatClampNeg).toNatClampNeg) then none else
  zlet (zsj q4 21 (q4.1 4 w1.toNatClampNeg).toNatClampNeg ((q4.2 21 (q4.1 4 w1.toNatClampNeg).toNatClampNeg) + (q4.2 20 w1.toNatClampNeg))) fun M7 =>
  some (.inl (M7, (w1 + (1 : Int32))))
set_option maxHeartbeats 4000000 in
set_option maxRecDepth 100000 in
theorem tX12_findShares_L161 {κ : Nat → ClassId} {E : zEn} {ad : Nat → Nat} {X : zX} {w0 : zM} {w1 : Int32} {r : ((zM × Int32) ⊕ zM)} (hC : zC X cX12_findShares RX12 wsX12_findShares vwCl (zty κ) E 3 ({ frames := 2, cells := 0, slots := 0, locals := 52 } : Room)) (hEk : zEk E) (hin : ∀ (x0' : zM) (x1' : Int32), r = .inl (x0', x1') → zV X 0 0 (zwM κ ad x0') [(0, .ref (ad 0)), (1, .int x1')] [] 161) (hout0 : ∀ (x0' : zM), r = .inr x0' → zV X 0 0 (zwM κ ad x0') [] [] 248) (h : xX12_findShares_L161   w0 w1 = some r) : zV X 0 0 (zwM κ ad w0) [(0, .ref (ad 0)), (1, .int w1)] [] 161 := by
  unfold xX12_findShares_L161 at h
  refine zr_iload_n (pc := 161) hC 1 rfl rfl dX12_findShares_161 ?_
  refine zr_aload_n (pc := 162) hC 0 rfl rfl dX12_findShares_162 ?_
  refine zmg_12 (pc := 163) hC hinX12_findShares_X12 flX12_findShares_46 dX12_findShares_163 ?_
  refine zr_icmp_ge (pc := 166) (tgt := 248) hC dX12_findShares_166 (by decide) (fun c1 => ?_) (fun c1 => ?_)
  · replace h := zip h c1
    obtain rfl := Option.some.inj h
    exact zV.sub (lv' := []) [] rfl (hout0 w0 rfl)
  · replace h := zin h c1
    refine zr_aload_n (pc := 169) hC 0 rfl rfl dX12_findShares_169 ?_
    refine zmg_3 (pc := 170) hC hinX12_findShares_X12 flX12_findShares_19 dX12_findShares_170 ?_
    refine zr_iload_n (pc := 173) hC 1 rfl rfl dX12_findShares_173 ?_
    obtain ⟨i2, h⟩ := zgd h
    refine zml_4 (pc := 174) hC i2 dX12_findShares_174 ?_
    refine zr_if_ne (pc := 175) (tgt := 181) hC dX12_findShares_175 (by decide) (fun c3 => ?_) (fun c3 => ?_)
    · replace h := zin h c3
      refine zr_iload_n (pc := 181) hC 1 rfl rfl dX12_findShares_181 ?_
      refine zr_istore_n (pc := 182) (lv' := [(2, .int w1), (0, .ref (ad 0)), (1, .int w1)]) hC rfl (by decide) rfl dX12_findShares_182 ?_
      obtain ⟨q4, hq4, h⟩ := zbd h
      refine zV.sub (lv' := [(0, .ref (ad 0)), (1, .int w1), (2, .int w1)]) [1, 2, 0] rfl ?_
      refine zit2 (Wp := fun (y0 : zM) (y1 : Int32) => zV X 0 0 (zwM κ ad y0) [(0, .ref (ad 0)), (1, .int w1), (2, .int y1)] [] 183) (Ex := fun (b9 : zM) => zV X 0 0 (zwM κ ad b9) [(0, .ref (ad 0)), (1, .int w1)] [] 222) (fun y0 y1 r9 hr hin hout => tX12_findShares_L183_L161 hC hEk hin (fun z0 e9 => hout z0 e9) hr) zFU w0 w1 q4 hq4 ?_
      show zV X 0 0 (zwM κ ad q4) [(0, .ref (ad 0)), (1, .int w1)] [] 222
      refine zr_aload_n (pc := 222) hC 0 rfl rfl dX12_findShares_222 ?_
      refine zmg_25 (pc := 223) hC hinX12_findShares_X12 flX12_findShares_75 dX12_findShares_223 ?_
      refine zr_aload_n (pc := 226) hC 0 rfl rfl dX12_findShares_226 ?_
      refine zmg_3 (pc := 227) hC hinX12_findShares_X12 flX12_findShares_19 dX12_findShares_227 ?_
      refine zr_iload_n (pc := 230) hC 1 rfl rfl dX12_findShares_230 ?_
      obtain ⟨i5, h⟩ := zgd h
      refine zml_4 (pc := 231) hC i5 dX12_findShares_231 ?_
      refine zr_dup2 (pc := 232) hC rfl rfl dX12_findShares_232 ?_
      obtain ⟨i6, h⟩ := zgd h
      refine zml_21 (pc := 233) hC i6 dX12_findShares_233 ?_
      refine zr_aload_n (pc := 234) hC 0 rfl rfl dX12_findShares_234 ?_
      refine zmg_24 (pc := 235) hC hinX12_findShares_X12 flX12_findShares_71 dX12_findShares_235 ?_
      refine zr_iload_n (pc := 238) hC 1 rfl rfl dX12_findShares_238 ?_
      refine zml_20 (pc := 239) hC i5 dX12_findShares_239 ?_
      refine zr_ladd (pc := 240) hC dX12_findShares_240 ?_
      obtain ⟨M7, e8, h⟩ := zle h
      refine zms_21 (pc := 241) hC i6 e8 dX12_findShares_241 ?_
      refine zr_iinc (pc := 242) (k := 1) (lv' := [(1, .int (w1 + (1 : Int32))), (0, .ref (ad 0))]) hC zki_1 (by decide) rfl rfl dX12_findShares_242 ?_
      refine zr_goto (pc := 245) (tgt := 161) hC dX12_findShares_245 (by decide) ?_
      obtain rfl := Option.some.inj h
      exact zV.sub (lv' := [(0, .ref (ad 0)), (1, .int (w1 + (1 : Int32)))]) [1, 0] rfl (hin M7 (w1 + (1 : Int32)) rfl)
    · replace h := zip h c3
      refine zr_goto (pc := 178) (tgt := 242) hC dX12_findShares_178 (by decide) ?_
      refine zr_iinc (pc := 242) (k := 1) (lv' := [(1, .int (w1 + (1 : Int32))), (0, .ref (ad 0))]) hC zki_1 (by decide) rfl rfl dX12_findShares_242 ?_
      refine zr_goto (pc := 245) (tgt := 161) hC dX12_findShares_245 (by decide) ?_
      obtain rfl := Option.some.inj h
      exact zV.sub (lv' := [(0, .ref (ad 0)), (1, .int (w1 + (1 : Int32)))]) [1, 0] rfl (hin w0 (w1 + (1 : Int32)) rfl)
def xX12_findShares (M : zM)  : Option zM :=
  zlet (zsj M 0 29 (1 : Int64)) fun M1 =>
  (x_it (fun a9 => xX12_findShares_L7 a9.1 a9.2) zFU (M1, (0 : Int32))).bind fun q3 =>
  zlet (zsj q3 20 (0 : Int32).toNatClampNeg (q3.2 0 29)) fun M4 =>
  (x_it (fun a9 => xX12_findShares_L67 a9.1 a9.2) zFU (M4, (1 : Int32))).bind fun q6 =>
  (x_it (fun a9 => xX12_findShares_L135 a9.1 a9.2) zFU (q6, (0 : Int32))).bind fun q7 =>
  (x_it (fun a9 => xX12_findShares_L161 a9.1 a9.2) zFU (q7, (1 : Int32))).bind fun q8 =>
  some q8
set_option maxHeartbeats 4000000 in
set_option maxRecDepth 100000 in
theorem tX12_findShares {κ : Nat → ClassId} {E : zEn} {ad : Nat → Nat} (hEk : zEk E) {M : zM}  {res : zM} (h : xX12_findShares M  = some res) (l : Launch) (D : va_G) : zCT E D vwCl (zty κ) l yX12_findShares wsX12_findShares ({ frames := 2, cells := 0, slots := 0, locals := 52 } : Room) 0 0 [.ref (ad 0)] (zwM κ ad M) (zPd none (zwM κ ad res)) := by
  refine zCT.of (cc := cX12_findShares) (maxL := 3) (ret := none) (by decide) rfl (Nat.le_of_ble_eq_true rfl) ?_
  intro X hC hR
  unfold xX12_findShares at h
  refine zV.sub (lv' := [(0, .ref (ad 0))]) [0] rfl ?_
  refine zr_aload_n (pc := 0) hC 0 rfl rfl dX12_findShares_0 ?_
  refine zr_lconst (pc := 1) hC zkl_1 dX12_findShares_1 ?_
  obtain ⟨M1, e2, h⟩ := zle h
  refine zmp_29 (pc := 2) hC hinX12_findShares_X12 flX12_findShares_194 e2 dX12_findShares_2 ?_
  refine zr_iconst (pc := 5) hC zki_0 dX12_findShares_5 ?_
  refine zr_istore_n (pc := 6) (lv' := [(1, .int (0 : Int32)), (0, .ref (ad 0))]) hC rfl (by decide) rfl dX12_findShares_6 ?_
  obtain ⟨q3, hq3, h⟩ := zbd h
  refine zV.sub (lv' := [(0, .ref (ad 0)), (1, .int (0 : Int32))]) [1, 0] rfl ?_
  refine zit2 (Wp := fun (y0 : zM) (y1 : Int32) => zV X 0 0 (zwM κ ad y0) [(0, .ref (ad 0)), (1, .int y1)] [] 7) (Ex := fun (b9 : zM) => zV X 0 0 (zwM κ ad b9) [(0, .ref (ad 0))] [] 55) (fun y0 y1 r9 hr hin hout => tX12_findShares_L7 hC hEk hin (fun z0 e9 => hout z0 e9) hr) zFU M1 (0 : Int32) q3 hq3 ?_
  show zV X 0 0 (zwM κ ad q3) [(0, .ref (ad 0))] [] 55
  refine zr_aload_n (pc := 55) hC 0 rfl rfl dX12_findShares_55 ?_
  refine zmg_24 (pc := 56) hC hinX12_findShares_X12 flX12_findShares_71 dX12_findShares_56 ?_
  refine zr_iconst (pc := 59) hC zki_0 dX12_findShares_59 ?_
  refine zr_aload_n (pc := 60) hC 0 rfl rfl dX12_findShares_60 ?_
  refine zmg_29 (pc := 61) hC hinX12_findShares_X12 flX12_findShares_194 dX12_findShares_61 ?_
  obtain ⟨M4, e5, h⟩ := zle h
  refine zms_20 (pc := 64) hC (by decide) e5 dX12_findShares_64 ?_
  refine zr_iconst (pc := 65) hC zki_1 dX12_findShares_65 ?_
  refine zr_istore_n (pc := 66) (lv' := [(1, .int (1 : Int32)), (0, .ref (ad 0))]) hC rfl (by decide) rfl dX12_findShares_66 ?_
  obtain ⟨q6, hq6, h⟩ := zbd h
  refine zV.sub (lv' := [(0, .ref (ad 0)), (1, .int (1 : Int32))]) [1, 0] rfl ?_
  refine zit2 (Wp := fun (y0 : zM) (y1 : Int32) => zV X 0 0 (zwM κ ad y0) [(0, .ref (ad 0)), (1, .int y1)] [] 67) (Ex := fun (b9 : zM) => zV X 0 0 (zwM κ ad b9) [(0, .ref (ad 0))] [] 133) (fun y0 y1 r9 hr hin hout => tX12_findShares_L67 hC hEk hin (fun z0 e9 => hout z0 e9) hr) zFU M4 (1 : Int32) q6 hq6 ?_
  show zV X 0 0 (zwM κ ad q6) [(0, .ref (ad 0))] [] 133
  refine zr_iconst (pc := 133) hC zki_0 dX12_findShares_133 ?_
  refine zr_istore_n (pc := 134) (lv' := [(1, .int (0 : Int32)), (0, .ref (ad 0))]) hC rfl (by decide) rfl dX12_findShares_134 ?_
  obtain ⟨q7, hq7, h⟩ := zbd h
  refine zV.sub (lv' := [(0, .ref (ad 0)), (1, .int (0 : Int32))]) [1, 0] rfl ?_
  refine zit2 (Wp := fun (y0 : zM) (y1 : Int32) => zV X 0 0 (zwM κ ad y0) [(0, .ref (ad 0)), (1, .int y1)] [] 135) (Ex := fun (b9 : zM) => zV X 0 0 (zwM κ ad b9) [(0, .ref (ad 0))] [] 159) (fun y0 y1 r9 hr hin hout => tX12_findShares_L135 hC hEk hin (fun z0 e9 => hout z0 e9) hr) zFU q6 (0 : Int32) q7 hq7 ?_
  show zV X 0 0 (zwM κ ad q7) [(0, .ref (ad 0))] [] 159
  refine zr_iconst (pc := 159) hC zki_1 dX12_findShares_159 ?_
  refine zr_istore_n (pc := 160) (lv' := [(1, .int (1 : Int32)), (0, .ref (ad 0))]) hC rfl (by decide) rfl dX12_findShares_160 ?_
  obtain ⟨q8, hq8, h⟩ := zbd h
  refine zV.sub (lv' := [(0, .ref (ad 0)), (1, .int (1 : Int32))]) [1, 0] rfl ?_
  refine zit2 (Wp := fun (y0 : zM) (y1 : Int32) => zV X 0 0 (zwM κ ad y0) [(0, .ref (ad 0)), (1, .int y1)] [] 161) (Ex := fun (b9 : zM) => zV X 0 0 (zwM κ ad b9) [] [] 248) (fun y0 y1 r9 hr hin hout => tX12_findShares_L161 hC hEk hin (fun z0 e9 => hout z0 e9) hr) zFU q7 (1 : Int32) q8 hq8 ?_
  show zV X 0 0 (zwM κ ad q8) [] [] 248
  obtain rfl := Option.some.inj h
  exact zr_vret hC hR ⟨rfl, rfl⟩ (Nat.le_refl _) (Nat.le_refl _) dX12_findShares_248
/-! X12_guessOf -/
theorem hyX12_guessOf : yX12_guessOf.cls = RX12 ∧ yX12_guessOf.cls ≠ "java/lang/invoke/MethodHandle" ∧ yX12_guessOf.cls ≠ "java/lang/invoke/VarHandle" ∧ (parseMethodDescriptor yX12_guessOf.desc).map (fun d => d.parameters.length) = some 2 := by decide +kernel
theorem flX12_guessOf_75 : Cond.fieldLink RX12 75 "BeforeTheEndModel" "ofAnswer" "[J" ∈ wsX12_guessOf := by decide +kernel
theorem hinX12_guessOf_X12 : ∀ w ∈ wsX120, w ∈ wsX12_guessOf := fun _ h => List.mem_cons_of_mem _ (List.mem_append_right _ h)
def xX12_guessOf_L5 (M : zM) (v1 : Int32) (v2 : Int32) (w0 : Int32) (w1 : Int32) : Option ((Int32 × Int32) ⊕ Int32) :=
  if (10 : Int32) ≤ w1 then
  (some (.inr w0))
  else
  if ((v1 >>> (w1 &&& 31)) &&& (1 : Int32)) = (1 : Int32) then
  (if ((((10 : Int32) * v2) + w1) < 0 ∨ 240 ≤ (((10 : Int32) * v2) + w1).toNatClampNeg) then none else
  if w0 = 0 then
  (if (lg_cmp (M.2 21 (((10 : Int32) * v2) + w1).toNatClampNeg) (0 : Int64)) ≤ 0 then
  (some (.inl (w0, (w1 + (1 : Int32)))))
  else
  some (.inl (w1, (w1 + (1 : Int32)))))
  else
  if ((((10 : Int32) * v2) + w0) < 0 ∨ 240 ≤ (((10 : Int32) * v2) + w0).toNatClampNeg) then none else
  if (lg_cmp (M.2 21 (((10 : Int32) * v2) + w1).toNatClampNeg) (M.2 21 (((10 : Int32) * v2) + w0).toNatClampNeg)) ≤ 0 then
  (some (.inl (w0, (w1 + (1 : Int32)))))
  else
  some (.inl (w1, (w1 + (1 : Int32)))))
  else
  some (.inl (w0, (w1 + (1 : Int32))))
set_option maxHeartbeats 4000000 in
set_option maxRecDepth 100000 in
theorem tX12_guessOf_L5 {κ : Nat → ClassId} {E : zEn} {ad : Nat → Nat} {X : zX} {M : zM} {v1 : Int32} {v2 : Int32} {w0 : Int32} {w1 : Int32} {r : ((Int32 × Int32) ⊕ Int32)} (hC : zC X cX12_guessOf RX12 wsX12_guessOf vwCl (zty κ) E 5 ({ frames := 0, cells := 0, slots := 0, locals := 0 } : Room)) (hEk : zEk E) (hin : ∀ (x0' : Int32) (x1' : Int32), r = .inl (x0', x1') → zV X 0 0 (zwM κ ad M) [(0, .ref (ad 0)), (1, .int v1), (2, .int v2), (3, .int x0'), (4, .int x1')] [] 5) (hout0 : ∀ (x0' : Int32), r = .inr x0' → zV X 0 0 (zwM κ ad M) [(3, .int x0')] [] 66) (h : xX12_guessOf_L5 M v1 v2 w0 w1 = some r) : zV X 0 0 (zwM κ ad M) [(0, .ref (ad 0)), (1, .int v1), (2, .int v2), (3, .int w0), (4, .int w1)] [] 5 := by
  unfold xX12_guessOf_L5 at h
  refine zr_iload (pc := 5) hC 4 rfl dX12_guessOf_5 ?_
  refine zr_bipush (pc := 7) hC zkb_10 dX12_guessOf_7 ?_
  refine zr_icmp_ge (pc := 9) (tgt := 66) hC dX12_guessOf_9 (by decide) (fun c1 => ?_) (fun c1 => ?_)
  · replace h := zip h c1
    obtain rfl := Option.some.inj h
    exact zV.sub (lv' := [(3, .int w0)]) [3] rfl (hout0 w0 rfl)
  · replace h := zin h c1
    refine zr_iload_n (pc := 12) hC 1 rfl rfl dX12_guessOf_12 ?_
    refine zr_iload (pc := 13) hC 4 rfl dX12_guessOf_13 ?_
    refine zr_ishr (pc := 15) hC dX12_guessOf_15 ?_
    refine zr_iconst (pc := 16) hC zki_1 dX12_guessOf_16 ?_
    refine zr_iand (pc := 17) hC dX12_guessOf_17 ?_
    refine zr_iconst (pc := 18) hC zki_1 dX12_guessOf_18 ?_
    refine zr_icmp_ne (pc := 19) (tgt := 60) hC dX12_guessOf_19 (by decide) (fun c2 => ?_) (fun c2 => ?_)
    · replace h := zin h c2
      refine zr_iinc (pc := 60) (k := 4) (lv' := [(4, .int (w1 + (1 : Int32))), (0, .ref (ad 0)), (1, .int v1), (2, .int v2), (3, .int w0)]) hC zki_1 (by decide) rfl rfl dX12_guessOf_60 ?_
      refine zr_goto (pc := 63) (tgt := 5) hC dX12_guessOf_63 (by decide) ?_
      obtain rfl := Option.some.inj h
      exact zV.sub (lv' := [(0, .ref (ad 0)), (1, .int v1), (2, .int v2), (3, .int w0), (4, .int (w1 + (1 : Int32)))]) [1, 2, 3, 4, 0] rfl (hin w0 (w1 + (1 : Int32)) rfl)
    · replace h := zip h c2
      refine zr_aload_n (pc := 22) hC 0 rfl rfl dX12_guessOf_22 ?_
      refine zmg_25 (pc := 23) hC hinX12_guessOf_X12 flX12_guessOf_75 dX12_guessOf_23 ?_
      refine zr_bipush (pc := 26) hC zkb_10 dX12_guessOf_26 ?_
      refine zr_iload_n (pc := 28) hC 2 rfl rfl dX12_guessOf_28 ?_
      refine zr_imul (pc := 29) hC dX12_guessOf_29 ?_
      refine zr_iload (pc := 30) hC 4 rfl dX12_guessOf_30 ?_
      refine zr_iadd (pc := 32) hC dX12_guessOf_32 ?_
      obtain ⟨i3, h⟩ := zgd h
      refine zml_21 (pc := 33) hC i3 dX12_guessOf_33 ?_
      refine zr_iload_n (pc := 34) hC 3 rfl rfl dX12_guessOf_34 ?_
      refine zr_if_ne (pc := 35) (tgt := 42) hC dX12_guessOf_35 (by decide) (fun c4 => ?_) (fun c4 => ?_)
      · replace h := zin h c4
        refine zr_aload_n (pc := 42) hC 0 rfl rfl dX12_guessOf_42 ?_
        refine zmg_25 (pc := 43) hC hinX12_guessOf_X12 flX12_guessOf_75 dX12_guessOf_43 ?_
        refine zr_bipush (pc := 46) hC zkb_10 dX12_guessOf_46 ?_
        refine zr_iload_n (pc := 48) hC 2 rfl rfl dX12_guessOf_48 ?_
        refine zr_imul (pc := 49) hC dX12_guessOf_49 ?_
        refine zr_iload_n (pc := 50) hC 3 rfl rfl dX12_guessOf_50 ?_
        refine zr_iadd (pc := 51) hC dX12_guessOf_51 ?_
        obtain ⟨i5, h⟩ := zgd h
        refine zml_21 (pc := 52) hC i5 dX12_guessOf_52 ?_
        refine zr_lcmp (pc := 53) hC dX12_guessOf_53 ?_
        refine zr_if_le (pc := 54) (tgt := 60) hC dX12_guessOf_54 (by decide) (fun c6 => ?_) (fun c6 => ?_)
        · replace h := zip h c6
          refine zr_iinc (pc := 60) (k := 4) (lv' := [(4, .int (w1 + (1 : Int32))), (0, .ref (ad 0)), (1, .int v1), (2, .int v2), (3, .int w0)]) hC zki_1 (by decide) rfl rfl dX12_guessOf_60 ?_
          refine zr_goto (pc := 63) (tgt := 5) hC dX12_guessOf_63 (by decide) ?_
          obtain rfl := Option.some.inj h
          exact zV.sub (lv' := [(0, .ref (ad 0)), (1, .int v1), (2, .int v2), (3, .int w0), (4, .int (w1 + (1 : Int32)))]) [1, 2, 3, 4, 0] rfl (hin w0 (w1 + (1 : Int32)) rfl)
        · replace h := zin h c6
          refine zr_iload (pc := 57) hC 4 rfl dX12_guessOf_57 ?_
          refine zr_istore_n (pc := 59) (lv' := [(3, .int w1), (0, .ref (ad 0)), (1, .int v1), (2, .int v2), (4, .int w1)]) hC rfl (by decide) rfl dX12_guessOf_59 ?_
          refine zr_iinc (pc := 60) (k := 4) (lv' := [(4, .int (w1 + (1 : Int32))), (3, .int w1), (0, .ref (ad 0)), (1, .int v1), (2, .int v2)]) hC zki_1 (by decide) rfl rfl dX12_guessOf_60 ?_
          refine zr_goto (pc := 63) (tgt := 5) hC dX12_guessOf_63 (by decide) ?_
          obtain rfl := Option.some.inj h
          exact zV.sub (lv' := [(0, .ref (ad 0)), (1, .int v1), (2, .int v2), (3, .int w1), (4, .int (w1 + (1 : Int32)))]) [2, 3, 4, 1, 0] rfl (hin w1 (w1 + (1 : Int32)) rfl)
      · replace h := zip h c4
        refine zr_lconst (pc := 38) hC zkl_0 dX12_guessOf_38 ?_
        refine zr_goto (pc := 39) (tgt := 53) hC dX12_guessOf_39 (by decide) ?_
        refine zr_lcmp (pc := 53) hC dX12_guessOf_53 ?_
        refine zr_if_le (pc := 54) (tgt := 60) hC dX12_guessOf_54 (by decide) (fun c7 => ?_) (fun c7 => ?_)
        · replace h := zip h c7
          refine zr_iinc (pc := 60) (k := 4) (lv' := [(4, .int (w1 + (1 : Int32))), (0, .ref (ad 0)), (1, .int v1), (2, .int v2), (3, .int w0)]) hC zki_1 (by decide) rfl rfl dX12_guessOf_60 ?_
          refine zr_goto (pc := 63) (tgt := 5) hC dX12_guessOf_63 (by decide) ?_
          obtain rfl := Option.some.inj h
          exact zV.sub (lv' := [(0, .ref (ad 0)), (1, .int v1), (2, .int v2), (3, .int w0), (4, .int (w1 + (1 : Int32)))]) [1, 2, 3, 4, 0] rfl (hin w0 (w1 + (1 : Int32)) rfl)
        · replace h := zin h c7
          refine zr_iload (pc := 57) hC 4 rfl dX12_guessOf_57 ?_
          refine zr_istore_n (pc := 59) (lv' := [(3, .int w1), (0, .ref (ad 0)), (1, .int v1), (2, .int v2), (4, .int w1)]) hC rfl (by decide) rfl dX12_guessOf_59 ?_
          refine zr_iinc (pc := 60) (k := 4) (lv' := [(4, .int (w1 + (1 : Int32))), (3, .int w1), (0, .ref (ad 0)), (1, .int v1), (2, .int v2)]) hC zki_1 (by decide) rfl rfl dX12_guessOf_60 ?_
          refine zr_goto (pc := 63) (tgt := 5) hC dX12_guessOf_63 (by decide) ?_
          obtain rfl := Option.some.inj h
          exact zV.sub (lv' := [(0, .ref (ad 0)), (1, .int v1), (2, .int v2), (3, .int w1), (4, .int (w1 + (1 : Int32)))]) [2, 3, 4, 1, 0] rfl (hin w1 (w1 + (1 : Int32)) rfl)
def xX12_guessOf (M : zM) (v1 : Int32) (v2 : Int32) : Option Int32 :=
  (x_it (fun a9 => xX12_guessOf_L5 M v1 v2 a9.1 a9.2) zFU ((0 : Int32), (1 : Int32))).bind fun q1 =>
  some q1
set_option maxHeartbeats 4000000 in
set_option maxRecDepth 100000 in
theorem tX12_guessOf {κ : Nat → ClassId} {E : zEn} {ad : Nat → Nat} (hEk : zEk E) {M : zM} {v1 : Int32} {v2 : Int32} {res : Int32} (h : xX12_guessOf M v1 v2 = some res) (l : Launch) (D : va_G) : zCT E D vwCl (zty κ) l yX12_guessOf wsX12_guessOf ({ frames := 0, cells := 0, slots := 0, locals := 0 } : Room) 0 0 [.ref (ad 0), .int v1, .int v2] (zwM κ ad M) (zPd (some (.int res)) (zwM κ ad M)) := by
  refine zCT.of (cc := cX12_guessOf) (maxL := 5) (ret := (some .int)) (by decide) rfl (Nat.le_of_ble_eq_true rfl) ?_
  intro X hC hR
  unfold xX12_guessOf at h
  refine zV.sub (lv' := [(0, .ref (ad 0)), (1, .int v1), (2, .int v2)]) [0, 1, 2] rfl ?_
  refine zr_iconst (pc := 0) hC zki_0 dX12_guessOf_0 ?_
  refine zr_istore_n (pc := 1) (lv' := [(3, .int (0 : Int32)), (0, .ref (ad 0)), (1, .int v1), (2, .int v2)]) hC rfl (by decide) rfl dX12_guessOf_1 ?_
  refine zr_iconst (pc := 2) hC zki_1 dX12_guessOf_2 ?_
  refine zr_istore (pc := 3) (lv' := [(4, .int (1 : Int32)), (3, .int (0 : Int32)), (0, .ref (ad 0)), (1, .int v1), (2, .int v2)]) hC (by decide) rfl dX12_guessOf_3 ?_
  obtain ⟨q1, hq1, h⟩ := zbd h
  refine zV.sub (lv' := [(0, .ref (ad 0)), (1, .int v1), (2, .int v2), (3, .int (0 : Int32)), (4, .int (1 : Int32))]) [2, 3, 4, 1, 0] rfl ?_
  refine zit2 (Wp := fun (y0 : Int32) (y1 : Int32) => zV X 0 0 (zwM κ ad M) [(0, .ref (ad 0)), (1, .int v1), (2, .int v2), (3, .int y0), (4, .int y1)] [] 5) (Ex := fun (b9 : Int32) => zV X 0 0 (zwM κ ad M) [(3, .int b9)] [] 66) (fun y0 y1 r9 hr hin hout => tX12_guessOf_L5 hC hEk hin (fun z0 e9 => hout z0 e9) hr) zFU (0 : Int32) (1 : Int32) q1 hq1 ?_
  show zV X 0 0 (zwM κ ad M) [(3, .int q1)] [] 66
  refine zr_iload_n (pc := 66) hC 0 rfl rfl dX12_guessOf_66 ?_
  obtain rfl := Option.some.inj h
  exact zr_iret hC hR ⟨rfl, rfl⟩ (Nat.le_refl _) (Nat.le_refl _) dX12_guessOf_67
/-! X12_isSure -/
theorem hyX12_isSure : yX12_isSure.cls = RX12 ∧ yX12_isSure.cls ≠ "java/lang/invoke/MethodHandle" ∧ yX12_isSure.cls ≠ "java/lang/invoke/VarHandle" ∧ (parseMethodDescriptor yX12_isSure.desc).map (fun d => d.parameters.length) = some 3 := by decide +kernel
theorem flX12_isSure_19 : Cond.fieldLink RX12 19 "BeforeTheEndModel" "answer" "[I" ∈ wsX12_isSure := by decide +kernel
theorem flX12_isSure_204 : Jvm.Cond.constantLong RX12 204 (100) ∈ wsX12_isSure := by decide +kernel
theorem flX12_isSure_71 : Cond.fieldLink RX12 71 "BeforeTheEndModel" "share" "[J" ∈ wsX12_isSure := by decide +kernel
theorem flX12_isSure_75 : Cond.fieldLink RX12 75 "BeforeTheEndModel" "ofAnswer" "[J" ∈ wsX12_isSure := by decide +kernel
theorem hinX12_isSure_X12 : ∀ w ∈ wsX120, w ∈ wsX12_isSure := fun _ h => List.mem_cons_of_mem _ (List.mem_append_right _ h)
def xX12_isSure (M : zM) (v1 : Int32) (v2 : Int32) (v3 : Int32) : Option Int32 :=
  if (v1 < 0 ∨ 24 ≤ v1.toNatClampNeg) then none else
  if (M.1 4 v1.toNatClampNeg) = 0 then
  (if ((((10 : Int32) * v1) + v2) < 0 ∨ 240 ≤ (((10 : Int32) * v1) + v2).toNatClampNeg) then none else
  if (lg_cmp ((100 : Int64) * (M.2 21 (((10 : Int32) * v1) + v2).toNatClampNeg)) (v3.toInt64 * (M.2 20 v1.toNatClampNeg))) < 0 then
  (some (0 : Int32))
  else
  some (1 : Int32))
  else
  some (1 : Int32)
set_option maxHeartbeats 4000000 in
set_option maxRecDepth 100000 in
theorem tX12_isSure {κ : Nat → ClassId} {E : zEn} {ad : Nat → Nat} (hEk : zEk E) {M : zM} {v1 : Int32} {v2 : Int32} {v3 : Int32} {res : Int32} (h : xX12_isSure M v1 v2 v3 = some res) (l : Launch) (D : va_G) : zCT E D vwCl (zty κ) l yX12_isSure wsX12_isSure ({ frames := 0, cells := 0, slots := 0, locals := 0 } : Room) 0 0 [.ref (ad 0), .int v1, .int v2, .int v3] (zwM κ ad M) (zPd (some (.int res)) (zwM κ ad M)) := by
  refine zCT.of (cc := cX12_isSure) (maxL := 4) (ret := (some .boolean)) (by decide) rfl (Nat.le_of_ble_eq_true rfl) ?_
  intro X hC hR
  unfold xX12_isSure at h
  refine zV.sub (lv' := [(0, .ref (ad 0)), (1, .int v1), (2, .int v2), (3, .int v3)]) [0, 1, 2, 3] rfl ?_
  refine zr_aload_n (pc := 0) hC 0 rfl rfl dX12_isSure_0 ?_
  refine zmg_3 (pc := 1) hC hinX12_isSure_X12 flX12_isSure_19 dX12_isSure_1 ?_
  refine zr_iload_n (pc := 4) hC 1 rfl rfl dX12_isSure_4 ?_
  obtain ⟨i1, h⟩ := zgd h
  refine zml_4 (pc := 5) hC i1 dX12_isSure_5 ?_
  refine zr_if_ne (pc := 6) (tgt := 37) hC dX12_isSure_6 (by decide) (fun c2 => ?_) (fun c2 => ?_)
  · replace h := zin h c2
    refine zr_iconst (pc := 37) hC zki_1 dX12_isSure_37 ?_
    refine zr_goto (pc := 38) (tgt := 42) hC dX12_isSure_38 (by decide) ?_
    obtain rfl := Option.some.inj h
    exact zr_zret hC hR (by decide) ⟨rfl, rfl⟩ (Nat.le_refl _) (Nat.le_refl _) dX12_isSure_42
  · replace h := zip h c2
    refine zr_ldc2 (pc := 9) hC flX12_isSure_204 dX12_isSure_9 ?_
    refine zr_aload_n (pc := 12) hC 0 rfl rfl dX12_isSure_12 ?_
    refine zmg_25 (pc := 13) hC hinX12_isSure_X12 flX12_isSure_75 dX12_isSure_13 ?_
    refine zr_bipush (pc := 16) hC zkb_10 dX12_isSure_16 ?_
    refine zr_iload_n (pc := 18) hC 1 rfl rfl dX12_isSure_18 ?_
    refine zr_imul (pc := 19) hC dX12_isSure_19 ?_
    refine zr_iload_n (pc := 20) hC 2 rfl rfl dX12_isSure_20 ?_
    refine zr_iadd (pc := 21) hC dX12_isSure_21 ?_
    obtain ⟨i3, h⟩ := zgd h
    refine zml_21 (pc := 22) hC i3 dX12_isSure_22 ?_
    refine zr_lmul (pc := 23) hC dX12_isSure_23 ?_
    refine zr_iload_n (pc := 24) hC 3 rfl rfl dX12_isSure_24 ?_
    refine zr_i2l (pc := 25) hC dX12_isSure_25 ?_
    refine zr_aload_n (pc := 26) hC 0 rfl rfl dX12_isSure_26 ?_
    refine zmg_24 (pc := 27) hC hinX12_isSure_X12 flX12_isSure_71 dX12_isSure_27 ?_
    refine zr_iload_n (pc := 30) hC 1 rfl rfl dX12_isSure_30 ?_
    refine zml_20 (pc := 31) hC i1 dX12_isSure_31 ?_
    refine zr_lmul (pc := 32) hC dX12_isSure_32 ?_
    refine zr_lcmp (pc := 33) hC dX12_isSure_33 ?_
    refine zr_if_lt (pc := 34) (tgt := 41) hC dX12_isSure_34 (by decide) (fun c4 => ?_) (fun c4 => ?_)
    · replace h := zip h c4
      refine zr_iconst (pc := 41) hC zki_0 dX12_isSure_41 ?_
      obtain rfl := Option.some.inj h
      exact zr_zret hC hR (by decide) ⟨rfl, rfl⟩ (Nat.le_refl _) (Nat.le_refl _) dX12_isSure_42
    · replace h := zin h c4
      refine zr_iconst (pc := 37) hC zki_1 dX12_isSure_37 ?_
      refine zr_goto (pc := 38) (tgt := 42) hC dX12_isSure_38 (by decide) ?_
      obtain rfl := Option.some.inj h
      exact zr_zret hC hR (by decide) ⟨rfl, rfl⟩ (Nat.le_refl _) (Nat.le_refl _) dX12_isSure_42
/-! X12_mayPress -/
theorem hyX12_mayPress : yX12_mayPress.cls = RX12 ∧ yX12_mayPress.cls ≠ "java/lang/invoke/MethodHandle" ∧ yX12_mayPress.cls ≠ "java/lang/invoke/VarHandle" ∧ (parseMethodDescriptor yX12_mayPress.desc).map (fun d => d.parameters.length) = some 3 := by decide +kernel
theorem zlk_out_X12_mayPress {x : Int32} (h0 : ¬ x = (0 : Int32)) (h1 : ¬ x = (4 : Int32)) : Op.lookupswitch.offset (#[(0, 26), (4, 41)] : Array (Int × Int)).toList (61) x.toInt = 61 := by
  have g0 : ¬ x.toInt = 0 := fun q => h0 (Int32.toInt.inj (q.trans (by decide)))
  have f0 : ¬ (0 : Int) = x.toInt := fun q => g0 q.symm
  have g1 : ¬ x.toInt = 4 := fun q => h1 (Int32.toInt.inj (q.trans (by decide)))
  have f1 : ¬ (4 : Int) = x.toInt := fun q => g1 q.symm
  simp [Op.lookupswitch.offset, g0, f0, g1, f1]
theorem flX12_mayPress_19 : Cond.fieldLink RX12 19 "BeforeTheEndModel" "answer" "[I" ∈ wsX12_mayPress := by decide +kernel
theorem flX12_mayPress_25 : Cond.fieldLink RX12 25 "BeforeTheEndModel" "kind" "[I" ∈ wsX12_mayPress := by decide +kernel
theorem flX12_mayPress_37 : Cond.fieldLink RX12 37 "BeforeTheEndModel" "told" "[I" ∈ wsX12_mayPress := by decide +kernel
theorem flX12_mayPress_78 : Cond.fieldLink RX12 78 "BeforeTheEndModel" "guessAt" "[I" ∈ wsX12_mayPress := by decide +kernel
theorem hinX12_mayPress_X12 : ∀ w ∈ wsX120, w ∈ wsX12_mayPress := fun _ h => List.mem_cons_of_mem _ (List.mem_append_right _ h)
def xX12_mayPress (M : zM) (v1 : Int32) (v2 : Int32) (v3 : Int32) : Option Int32 :=
  if (v1 < 0 ∨ 4 ≤ v1.toNatClampNeg) then none else
  if (M.1 6 v1.toNatClampNeg) = (0 : Int32) then
  (if (v2 < 0 ∨ 24 ≤ v2.toNatClampNeg) then none else
  if (M.1 4 v2.toNatClampNeg) = 0 then
  (some (0 : Int32))
  else
  some (1 : Int32))
  else
  if (M.1 6 v1.toNatClampNeg) = (4 : Int32) then
  (if (((M.1 10 v1.toNatClampNeg) >>> (v2 &&& 31)) &&& (1 : Int32)) = (1 : Int32) then
  (some (1 : Int32))
  else
  some (0 : Int32))
  else
  if ((((24 : Int32) * v1) + v2) < 0 ∨ 96 ≤ (((24 : Int32) * v1) + v2).toNatClampNeg) then none else
  (xX12_isSure M v2 (M.1 22 (((24 : Int32) * v1) + v2).toNatClampNeg) v3).bind fun q8 =>
  if ¬ (q8 = 0 ∨ q8 = 1) then none else
  some q8
set_option maxHeartbeats 4000000 in
set_option maxRecDepth 100000 in
theorem tX12_mayPress {κ : Nat → ClassId} {E : zEn} {ad : Nat → Nat} (hEk : zEk E) {M : zM} {v1 : Int32} {v2 : Int32} {v3 : Int32} {res : Int32} (h : xX12_mayPress M v1 v2 v3 = some res) (l : Launch) (D : va_G) : zCT E D vwCl (zty κ) l yX12_mayPress wsX12_mayPress ({ frames := 1, cells := 0, slots := 0, locals := 23 } : Room) 0 0 [.ref (ad 0), .int v1, .int v2, .int v3] (zwM κ ad M) (zPd (some (.int res)) (zwM κ ad M)) := by
  refine zCT.of (cc := cX12_mayPress) (maxL := 4) (ret := (some .boolean)) (by decide) rfl (Nat.le_of_ble_eq_true rfl) ?_
  intro X hC hR
  unfold xX12_mayPress at h
  refine zV.sub (lv' := [(0, .ref (ad 0)), (1, .int v1), (2, .int v2), (3, .int v3)]) [0, 1, 2, 3] rfl ?_
  refine zr_aload_n (pc := 0) hC 0 rfl rfl dX12_mayPress_0 ?_
  refine zmg_5 (pc := 1) hC hinX12_mayPress_X12 flX12_mayPress_25 dX12_mayPress_1 ?_
  refine zr_iload_n (pc := 4) hC 1 rfl rfl dX12_mayPress_4 ?_
  obtain ⟨i1, h⟩ := zgd h
  refine zml_6 (pc := 5) hC i1 dX12_mayPress_5 ?_
  by_cases c2 : (M.1 6 v1.toNatClampNeg) = (0 : Int32)
  · replace h := zip h c2
    refine zr_lookup (pc := 6) (off := 26) (tgt := 32) hC dX12_mayPress_6 (by decide) (by rw [c2]; decide) (by decide) ?_
    refine zr_aload_n (pc := 32) hC 0 rfl rfl dX12_mayPress_32 ?_
    refine zmg_3 (pc := 33) hC hinX12_mayPress_X12 flX12_mayPress_19 dX12_mayPress_33 ?_
    refine zr_iload_n (pc := 36) hC 2 rfl rfl dX12_mayPress_36 ?_
    obtain ⟨i3, h⟩ := zgd h
    refine zml_4 (pc := 37) hC i3 dX12_mayPress_37 ?_
    refine zr_if_eq (pc := 38) (tgt := 45) hC dX12_mayPress_38 (by decide) (fun c4 => ?_) (fun c4 => ?_)
    · replace h := zip h c4
      refine zr_iconst (pc := 45) hC zki_0 dX12_mayPress_45 ?_
      obtain rfl := Option.some.inj h
      exact zr_zret hC hR (by decide) ⟨rfl, rfl⟩ (Nat.le_refl _) (Nat.le_refl _) dX12_mayPress_46
    · replace h := zin h c4
      refine zr_iconst (pc := 41) hC zki_1 dX12_mayPress_41 ?_
      refine zr_goto (pc := 42) (tgt := 46) hC dX12_mayPress_42 (by decide) ?_
      obtain rfl := Option.some.inj h
      exact zr_zret hC hR (by decide) ⟨rfl, rfl⟩ (Nat.le_refl _) (Nat.le_refl _) dX12_mayPress_46
  · replace h := zin h c2
    by_cases c5 : (M.1 6 v1.toNatClampNeg) = (4 : Int32)
    · replace h := zip h c5
      refine zr_lookup (pc := 6) (off := 41) (tgt := 47) hC dX12_mayPress_6 (by decide) (by rw [c5]; decide) (by decide) ?_
      refine zr_aload_n (pc := 47) hC 0 rfl rfl dX12_mayPress_47 ?_
      refine zmg_9 (pc := 48) hC hinX12_mayPress_X12 flX12_mayPress_37 dX12_mayPress_48 ?_
      refine zr_iload_n (pc := 51) hC 1 rfl rfl dX12_mayPress_51 ?_
      refine zml_10 (pc := 52) hC i1 dX12_mayPress_52 ?_
      refine zr_iload_n (pc := 53) hC 2 rfl rfl dX12_mayPress_53 ?_
      refine zr_ishr (pc := 54) hC dX12_mayPress_54 ?_
      refine zr_iconst (pc := 55) hC zki_1 dX12_mayPress_55 ?_
      refine zr_iand (pc := 56) hC dX12_mayPress_56 ?_
      refine zr_iconst (pc := 57) hC zki_1 dX12_mayPress_57 ?_
      refine zr_icmp_ne (pc := 58) (tgt := 65) hC dX12_mayPress_58 (by decide) (fun c6 => ?_) (fun c6 => ?_)
      · replace h := zin h c6
        refine zr_iconst (pc := 65) hC zki_0 dX12_mayPress_65 ?_
        obtain rfl := Option.some.inj h
        exact zr_zret hC hR (by decide) ⟨rfl, rfl⟩ (Nat.le_refl _) (Nat.le_refl _) dX12_mayPress_66
      · replace h := zip h c6
        refine zr_iconst (pc := 61) hC zki_1 dX12_mayPress_61 ?_
        refine zr_goto (pc := 62) (tgt := 66) hC dX12_mayPress_62 (by decide) ?_
        obtain rfl := Option.some.inj h
        exact zr_zret hC hR (by decide) ⟨rfl, rfl⟩ (Nat.le_refl _) (Nat.le_refl _) dX12_mayPress_66
    · replace h := zin h c5
      refine zr_lookup (pc := 6) (off := 61) (tgt := 67) hC dX12_mayPress_6 (by decide) (zlk_out_X12_mayPress c2 c5) (by decide) ?_
      refine zr_aload_n (pc := 67) hC 0 rfl rfl dX12_mayPress_67 ?_
      refine zr_iload_n (pc := 68) hC 2 rfl rfl dX12_mayPress_68 ?_
      refine zr_aload_n (pc := 69) hC 0 rfl rfl dX12_mayPress_69 ?_
      refine zmg_26 (pc := 70) hC hinX12_mayPress_X12 flX12_mayPress_78 dX12_mayPress_70 ?_
      refine zr_bipush (pc := 73) hC zkb_24 dX12_mayPress_73 ?_
      refine zr_iload_n (pc := 75) hC 1 rfl rfl dX12_mayPress_75 ?_
      refine zr_imul (pc := 76) hC dX12_mayPress_76 ?_
      refine zr_iload_n (pc := 77) hC 2 rfl rfl dX12_mayPress_77 ?_
      refine zr_iadd (pc := 78) hC dX12_mayPress_78 ?_
      obtain ⟨i7, h⟩ := zgd h
      refine zml_22 (pc := 79) hC i7 dX12_mayPress_79 ?_
      refine zr_iload_n (pc := 80) hC 3 rfl rfl dX12_mayPress_80 ?_
      obtain ⟨q8, hq8, h⟩ := zbd h
      refine zr_cVi (pc := 81) hC hEk [.int v2, .int (M.1 22 (((24 : Int32) * v1) + v2).toNatClampNeg), .int v3] [] 0 3 (fun l D => tX12_isSure hEk hq8 l D) gX12_mayPress_X12_isSure rfl rfl rfl ⟨Nat.le_of_ble_eq_true rfl, Nat.le_of_ble_eq_true rfl⟩ hyX12_isSure (by decide) entM_0 rfl rfl rfl (Nat.le_of_ble_eq_true rfl) ⟨Nat.le_of_ble_eq_true rfl, Nat.le_of_ble_eq_true rfl⟩ dX12_mayPress_81 ?_
      obtain ⟨n9, h⟩ := zgd h
      obtain rfl := Option.some.inj h
      exact zr_zret hC hR (Decidable.not_not.mp n9) ⟨rfl, rfl⟩ (Nat.le_refl _) (Nat.le_refl _) dX12_mayPress_84
/-! X12_sureOf -/
theorem hyX12_sureOf : yX12_sureOf.cls = RX12 ∧ yX12_sureOf.cls ≠ "java/lang/invoke/MethodHandle" ∧ yX12_sureOf.cls ≠ "java/lang/invoke/VarHandle" ∧ (parseMethodDescriptor yX12_sureOf.desc).map (fun d => d.parameters.length) = some 1 := by decide +kernel
theorem flX12_sureOf_25 : Cond.fieldLink RX12 25 "BeforeTheEndModel" "kind" "[I" ∈ wsX12_sureOf := by decide +kernel
theorem flX12_sureOf_34 : Cond.fieldLink RX12 34 "BeforeTheEndModel" "sure" "[I" ∈ wsX12_sureOf := by decide +kernel
theorem hinX12_sureOf_X12 : ∀ w ∈ wsX120, w ∈ wsX12_sureOf := fun _ h => List.mem_cons_of_mem _ (List.mem_append_right _ h)
def xX12_sureOf (M : zM) (v1 : Int32) : Option Int32 :=
  if (v1 < 0 ∨ 4 ≤ v1.toNatClampNeg) then none else
  if (M.1 6 v1.toNatClampNeg) = (2 : Int32) then
  (if (20 : Int32) ≤ (M.1 9 v1.toNatClampNeg) then
  (some ((M.1 9 v1.toNatClampNeg) - (20 : Int32)))
  else
  some (0 : Int32))
  else
  some (M.1 9 v1.toNatClampNeg)
set_option maxHeartbeats 4000000 in
set_option maxRecDepth 100000 in
theorem tX12_sureOf {κ : Nat → ClassId} {E : zEn} {ad : Nat → Nat} (hEk : zEk E) {M : zM} {v1 : Int32} {res : Int32} (h : xX12_sureOf M v1 = some res) (l : Launch) (D : va_G) : zCT E D vwCl (zty κ) l yX12_sureOf wsX12_sureOf ({ frames := 0, cells := 0, slots := 0, locals := 0 } : Room) 0 0 [.ref (ad 0), .int v1] (zwM κ ad M) (zPd (some (.int res)) (zwM κ ad M)) := by
  refine zCT.of (cc := cX12_sureOf) (maxL := 2) (ret := (some .int)) (by decide) rfl (Nat.le_of_ble_eq_true rfl) ?_
  intro X hC hR
  unfold xX12_sureOf at h
  refine zV.sub (lv' := [(0, .ref (ad 0)), (1, .int v1)]) [0, 1] rfl ?_
  refine zr_aload_n (pc := 0) hC 0 rfl rfl dX12_sureOf_0 ?_
  refine zmg_5 (pc := 1) hC hinX12_sureOf_X12 flX12_sureOf_25 dX12_sureOf_1 ?_
  refine zr_iload_n (pc := 4) hC 1 rfl rfl dX12_sureOf_4 ?_
  obtain ⟨i1, h⟩ := zgd h
  refine zml_6 (pc := 5) hC i1 dX12_sureOf_5 ?_
  refine zr_iconst (pc := 6) hC zki_2 dX12_sureOf_6 ?_
  refine zr_icmp_eq (pc := 7) (tgt := 19) hC dX12_sureOf_7 (by decide) (fun c2 => ?_) (fun c2 => ?_)
  · replace h := zip h c2
    refine zr_aload_n (pc := 19) hC 0 rfl rfl dX12_sureOf_19 ?_
    refine zmg_8 (pc := 20) hC hinX12_sureOf_X12 flX12_sureOf_34 dX12_sureOf_20 ?_
    refine zr_iload_n (pc := 23) hC 1 rfl rfl dX12_sureOf_23 ?_
    refine zml_9 (pc := 24) hC i1 dX12_sureOf_24 ?_
    refine zr_bipush (pc := 25) hC zkb_20 dX12_sureOf_25 ?_
    refine zr_icmp_ge (pc := 27) (tgt := 34) hC dX12_sureOf_27 (by decide) (fun c3 => ?_) (fun c3 => ?_)
    · replace h := zip h c3
      refine zr_aload_n (pc := 34) hC 0 rfl rfl dX12_sureOf_34 ?_
      refine zmg_8 (pc := 35) hC hinX12_sureOf_X12 flX12_sureOf_34 dX12_sureOf_35 ?_
      refine zr_iload_n (pc := 38) hC 1 rfl rfl dX12_sureOf_38 ?_
      refine zml_9 (pc := 39) hC i1 dX12_sureOf_39 ?_
      refine zr_bipush (pc := 40) hC zkb_20 dX12_sureOf_40 ?_
      refine zr_isub (pc := 42) hC dX12_sureOf_42 ?_
      obtain rfl := Option.some.inj h
      exact zr_iret hC hR ⟨rfl, rfl⟩ (Nat.le_refl _) (Nat.le_refl _) dX12_sureOf_43
    · replace h := zin h c3
      refine zr_iconst (pc := 30) hC zki_0 dX12_sureOf_30 ?_
      refine zr_goto (pc := 31) (tgt := 43) hC dX12_sureOf_31 (by decide) ?_
      obtain rfl := Option.some.inj h
      exact zr_iret hC hR ⟨rfl, rfl⟩ (Nat.le_refl _) (Nat.le_refl _) dX12_sureOf_43
  · replace h := zin h c2
    refine zr_aload_n (pc := 10) hC 0 rfl rfl dX12_sureOf_10 ?_
    refine zmg_8 (pc := 11) hC hinX12_sureOf_X12 flX12_sureOf_34 dX12_sureOf_11 ?_
    refine zr_iload_n (pc := 14) hC 1 rfl rfl dX12_sureOf_14 ?_
    refine zml_9 (pc := 15) hC i1 dX12_sureOf_15 ?_
    refine zr_goto (pc := 16) (tgt := 43) hC dX12_sureOf_16 (by decide) ?_
    obtain rfl := Option.some.inj h
    exact zr_iret hC hR ⟨rfl, rfl⟩ (Nat.le_refl _) (Nat.le_refl _) dX12_sureOf_43
/-! X12_pressing -/
theorem hyX12_pressing : yX12_pressing.cls = RX12 ∧ yX12_pressing.cls ≠ "java/lang/invoke/MethodHandle" ∧ yX12_pressing.cls ≠ "java/lang/invoke/VarHandle" ∧ (parseMethodDescriptor yX12_pressing.desc).map (fun d => d.parameters.length) = some 2 := by decide +kernel
theorem flX12_pressing_46 : Cond.fieldLink RX12 46 "BeforeTheEndModel" "words" "I" ∈ wsX12_pressing := by decide +kernel
theorem flX12_pressing_78 : Cond.fieldLink RX12 78 "BeforeTheEndModel" "guessAt" "[I" ∈ wsX12_pressing := by decide +kernel
theorem hinX12_pressing_X12 : ∀ w ∈ wsX120, w ∈ wsX12_pressing := fun _ h => List.mem_cons_of_mem _ (List.mem_append_right _ h)
def xX12_pressing_L5 (M : zM) (v1 : Int32) (v2 : Int32) (w0 : Int32) (w1 : Int32) : Option ((Int32 × Int32) ⊕ Int32) :=
  if (M.1 0 12) ≤ w1 then
  (some (.inr w0))
  else
  if ((((24 : Int32) * v1) + w1) < 0 ∨ 96 ≤ (((24 : Int32) * v1) + w1).toNatClampNeg) then none else
  if (M.1 22 (((24 : Int32) * v1) + w1).toNatClampNeg) = 0 then
  (zlet (w0 ||| (0 : Int32)) fun z4 =>
  some (.inl (z4, (w1 + (1 : Int32)))))
  else
  (xX12_mayPress M v1 w1 v2).bind fun q6 =>
  if q6 = 0 then
  (zlet (w0 ||| (0 : Int32)) fun z8 =>
  some (.inl (z8, (w1 + (1 : Int32)))))
  else
  zlet (w0 ||| ((1 : Int32) <<< (w1 &&& 31))) fun z10 =>
  some (.inl (z10, (w1 + (1 : Int32))))
set_option maxHeartbeats 4000000 in
set_option maxRecDepth 100000 in
theorem tX12_pressing_L5 {κ : Nat → ClassId} {E : zEn} {ad : Nat → Nat} {X : zX} {M : zM} {v1 : Int32} {v2 : Int32} {w0 : Int32} {w1 : Int32} {r : ((Int32 × Int32) ⊕ Int32)} (hC : zC X cX12_pressing RX12 wsX12_pressing vwCl (zty κ) E 5 ({ frames := 2, cells := 0, slots := 0, locals := 46 } : Room)) (hEk : zEk E) (hin : ∀ (x0' : Int32) (x1' : Int32), r = .inl (x0', x1') → zV X 0 0 (zwM κ ad M) [(0, .ref (ad 0)), (1, .int v1), (2, .int v2), (3, .int x0'), (4, .int x1')] [] 5) (hout0 : ∀ (x0' : Int32), r = .inr x0' → zV X 0 0 (zwM κ ad M) [(3, .int x0')] [] 57) (h : xX12_pressing_L5 M v1 v2 w0 w1 = some r) : zV X 0 0 (zwM κ ad M) [(0, .ref (ad 0)), (1, .int v1), (2, .int v2), (3, .int w0), (4, .int w1)] [] 5 := by
  unfold xX12_pressing_L5 at h
  refine zr_iload (pc := 5) hC 4 rfl dX12_pressing_5 ?_
  refine zr_aload_n (pc := 7) hC 0 rfl rfl dX12_pressing_7 ?_
  refine zmg_12 (pc := 8) hC hinX12_pressing_X12 flX12_pressing_46 dX12_pressing_8 ?_
  refine zr_icmp_ge (pc := 11) (tgt := 57) hC dX12_pressing_11 (by decide) (fun c1 => ?_) (fun c1 => ?_)
  · replace h := zip h c1
    obtain rfl := Option.some.inj h
    exact zV.sub (lv' := [(3, .int w0)]) [3] rfl (hout0 w0 rfl)
  · replace h := zin h c1
    refine zr_iload_n (pc := 14) hC 3 rfl rfl dX12_pressing_14 ?_
    refine zr_aload_n (pc := 15) hC 0 rfl rfl dX12_pressing_15 ?_
    refine zmg_26 (pc := 16) hC hinX12_pressing_X12 flX12_pressing_78 dX12_pressing_16 ?_
    refine zr_bipush (pc := 19) hC zkb_24 dX12_pressing_19 ?_
    refine zr_iload_n (pc := 21) hC 1 rfl rfl dX12_pressing_21 ?_
    refine zr_imul (pc := 22) hC dX12_pressing_22 ?_
    refine zr_iload (pc := 23) hC 4 rfl dX12_pressing_23 ?_
    refine zr_iadd (pc := 25) hC dX12_pressing_25 ?_
    obtain ⟨i2, h⟩ := zgd h
    refine zml_22 (pc := 26) hC i2 dX12_pressing_26 ?_
    refine zr_if_eq (pc := 27) (tgt := 48) hC dX12_pressing_27 (by decide) (fun c3 => ?_) (fun c3 => ?_)
    · replace h := zip h c3
      refine zr_iconst (pc := 48) hC zki_0 dX12_pressing_48 ?_
      refine zr_ior (pc := 49) hC dX12_pressing_49 ?_
      obtain ⟨z4, e5, h⟩ := zle h
      refine zr_topi e5 ?_
      refine zr_istore_n (pc := 50) (lv' := [(3, .int z4), (0, .ref (ad 0)), (1, .int v1), (2, .int v2), (4, .int w1)]) hC rfl (by decide) rfl dX12_pressing_50 ?_
      refine zr_iinc (pc := 51) (k := 4) (lv' := [(4, .int (w1 + (1 : Int32))), (3, .int z4), (0, .ref (ad 0)), (1, .int v1), (2, .int v2)]) hC zki_1 (by decide) rfl rfl dX12_pressing_51 ?_
      refine zr_goto (pc := 54) (tgt := 5) hC dX12_pressing_54 (by decide) ?_
      obtain rfl := Option.some.inj h
      exact zV.sub (lv' := [(0, .ref (ad 0)), (1, .int v1), (2, .int v2), (3, .int z4), (4, .int (w1 + (1 : Int32)))]) [2, 3, 4, 1, 0] rfl (hin z4 (w1 + (1 : Int32)) rfl)
    · replace h := zin h c3
      refine zr_aload_n (pc := 30) hC 0 rfl rfl dX12_pressing_30 ?_
      refine zr_iload_n (pc := 31) hC 1 rfl rfl dX12_pressing_31 ?_
      refine zr_iload (pc := 32) hC 4 rfl dX12_pressing_32 ?_
      refine zr_iload_n (pc := 34) hC 2 rfl rfl dX12_pressing_34 ?_
      obtain ⟨q6, hq6, h⟩ := zbd h
      refine zr_cVi (pc := 35) hC hEk [.int v1, .int w1, .int v2] [.int w0] 0 3 (fun l D => tX12_mayPress hEk hq6 l D) gX12_pressing_X12_mayPress rfl rfl rfl ⟨Nat.le_of_ble_eq_true rfl, Nat.le_of_ble_eq_true rfl⟩ hyX12_mayPress (by decide) entM_0 rfl rfl rfl (Nat.le_of_ble_eq_true rfl) ⟨Nat.le_of_ble_eq_true rfl, Nat.le_of_ble_eq_true rfl⟩ dX12_pressing_35 ?_
      refine zr_if_eq (pc := 38) (tgt := 48) hC dX12_pressing_38 (by decide) (fun c7 => ?_) (fun c7 => ?_)
      · replace h := zip h c7
        refine zr_iconst (pc := 48) hC zki_0 dX12_pressing_48 ?_
        refine zr_ior (pc := 49) hC dX12_pressing_49 ?_
        obtain ⟨z8, e9, h⟩ := zle h
        refine zr_topi e9 ?_
        refine zr_istore_n (pc := 50) (lv' := [(3, .int z8), (0, .ref (ad 0)), (1, .int v1), (2, .int v2), (4, .int w1)]) hC rfl (by decide) rfl dX12_pressing_50 ?_
        refine zr_iinc (pc := 51) (k := 4) (lv' := [(4, .int (w1 + (1 : Int32))), (3, .int z8), (0, .ref (ad 0)), (1, .int v1), (2, .int v2)]) hC zki_1 (by decide) rfl rfl dX12_pressing_51 ?_
        refine zr_goto (pc := 54) (tgt := 5) hC dX12_pressing_54 (by decide) ?_
        obtain rfl := Option.some.inj h
        exact zV.sub (lv' := [(0, .ref (ad 0)), (1, .int v1), (2, .int v2), (3, .int z8), (4, .int (w1 + (1 : Int32)))]) [2, 3, 4, 1, 0] rfl (hin z8 (w1 + (1 : Int32)) rfl)
      · replace h := zin h c7
        refine zr_iconst (pc := 41) hC zki_1 dX12_pressing_41 ?_
        refine zr_iload (pc := 42) hC 4 rfl dX12_pressing_42 ?_
        refine zr_ishl (pc := 44) hC dX12_pressing_44 ?_
        refine zr_goto (pc := 45) (tgt := 49) hC dX12_pressing_45 (by decide) ?_
        refine zr_ior (pc := 49) hC dX12_pressing_49 ?_
        obtain ⟨z10, e11, h⟩ := zle h
        refine zr_topi e11 ?_
        refine zr_istore_n (pc := 50) (lv' := [(3, .int z10), (0, .ref (ad 0)), (1, .int v1), (2, .int v2), (4, .int w1)]) hC rfl (by decide) rfl dX12_pressing_50 ?_
        refine zr_iinc (pc := 51) (k := 4) (lv' := [(4, .int (w1 + (1 : Int32))), (3, .int z10), (0, .ref (ad 0)), (1, .int v1), (2, .int v2)]) hC zki_1 (by decide) rfl rfl dX12_pressing_51 ?_
        refine zr_goto (pc := 54) (tgt := 5) hC dX12_pressing_54 (by decide) ?_
        obtain rfl := Option.some.inj h
        exact zV.sub (lv' := [(0, .ref (ad 0)), (1, .int v1), (2, .int v2), (3, .int z10), (4, .int (w1 + (1 : Int32)))]) [2, 3, 4, 1, 0] rfl (hin z10 (w1 + (1 : Int32)) rfl)
def xX12_pressing (M : zM) (v1 : Int32) (v2 : Int32) : Option Int32 :=
  (x_it (fun a9 => xX12_pressing_L5 M v1 v2 a9.1 a9.2) zFU ((0 : Int32), (1 : Int32))).bind fun q1 =>
  some q1
set_option maxHeartbeats 4000000 in
set_option maxRecDepth 100000 in
theorem tX12_pressing {κ : Nat → ClassId} {E : zEn} {ad : Nat → Nat} (hEk : zEk E) {M : zM} {v1 : Int32} {v2 : Int32} {res : Int32} (h : xX12_pressing M v1 v2 = some res) (l : Launch) (D : va_G) : zCT E D vwCl (zty κ) l yX12_pressing wsX12_pressing ({ frames := 2, cells := 0, slots := 0, locals := 46 } : Room) 0 0 [.ref (ad 0), .int v1, .int v2] (zwM κ ad M) (zPd (some (.int res)) (zwM κ ad M)) := by
  refine zCT.of (cc := cX12_pressing) (maxL := 5) (ret := (some .int)) (by decide) rfl (Nat.le_of_ble_eq_true rfl) ?_
  intro X hC hR
  unfold xX12_pressing at h
  refine zV.sub (lv' := [(0, .ref (ad 0)), (1, .int v1), (2, .int v2)]) [0, 1, 2] rfl ?_
  refine zr_iconst (pc := 0) hC zki_0 dX12_pressing_0 ?_
  refine zr_istore_n (pc := 1) (lv' := [(3, .int (0 : Int32)), (0, .ref (ad 0)), (1, .int v1), (2, .int v2)]) hC rfl (by decide) rfl dX12_pressing_1 ?_
  refine zr_iconst (pc := 2) hC zki_1 dX12_pressing_2 ?_
  refine zr_istore (pc := 3) (lv' := [(4, .int (1 : Int32)), (3, .int (0 : Int32)), (0, .ref (ad 0)), (1, .int v1), (2, .int v2)]) hC (by decide) rfl dX12_pressing_3 ?_
  obtain ⟨q1, hq1, h⟩ := zbd h
  refine zV.sub (lv' := [(0, .ref (ad 0)), (1, .int v1), (2, .int v2), (3, .int (0 : Int32)), (4, .int (1 : Int32))]) [2, 3, 4, 1, 0] rfl ?_
  refine zit2 (Wp := fun (y0 : Int32) (y1 : Int32) => zV X 0 0 (zwM κ ad M) [(0, .ref (ad 0)), (1, .int v1), (2, .int v2), (3, .int y0), (4, .int y1)] [] 5) (Ex := fun (b9 : Int32) => zV X 0 0 (zwM κ ad M) [(3, .int b9)] [] 57) (fun y0 y1 r9 hr hin hout => tX12_pressing_L5 hC hEk hin (fun z0 e9 => hout z0 e9) hr) zFU (0 : Int32) (1 : Int32) q1 hq1 ?_
  show zV X 0 0 (zwM κ ad M) [(3, .int q1)] [] 57
  refine zr_iload_n (pc := 57) hC 0 rfl rfl dX12_pressing_57 ?_
  obtain rfl := Option.some.inj h
  exact zr_iret hC hR ⟨rfl, rfl⟩ (Nat.le_refl _) (Nat.le_refl _) dX12_pressing_58
/-! X12_pressWorth -/
theorem hyX12_pressWorth : yX12_pressWorth.cls = RX12 ∧ yX12_pressWorth.cls ≠ "java/lang/invoke/MethodHandle" ∧ yX12_pressWorth.cls ≠ "java/lang/invoke/VarHandle" ∧ (parseMethodDescriptor yX12_pressWorth.desc).map (fun d => d.parameters.length) = some 2 := by decide +kernel
theorem flX12_pressWorth_19 : Cond.fieldLink RX12 19 "BeforeTheEndModel" "answer" "[I" ∈ wsX12_pressWorth := by decide +kernel
theorem flX12_pressWorth_22 : Cond.fieldLink RX12 22 "BeforeTheEndModel" "length" "[I" ∈ wsX12_pressWorth := by decide +kernel
theorem flX12_pressWorth_40 : Cond.fieldLink RX12 40 "BeforeTheEndModel" "points" "[I" ∈ wsX12_pressWorth := by decide +kernel
theorem flX12_pressWorth_46 : Cond.fieldLink RX12 46 "BeforeTheEndModel" "words" "I" ∈ wsX12_pressWorth := by decide +kernel
theorem flX12_pressWorth_71 : Cond.fieldLink RX12 71 "BeforeTheEndModel" "share" "[J" ∈ wsX12_pressWorth := by decide +kernel
theorem flX12_pressWorth_78 : Cond.fieldLink RX12 78 "BeforeTheEndModel" "guessAt" "[I" ∈ wsX12_pressWorth := by decide +kernel
theorem hinX12_pressWorth_X12 : ∀ w ∈ wsX120, w ∈ wsX12_pressWorth := fun _ h => List.mem_cons_of_mem _ (List.mem_append_right _ h)
def xX12_pressWorth_L18 (M : zM) (v2 : Int32) (v3 : Int32) (w0 : Int64) (w1 : Int32) : Option ((Int64 × Int32) ⊕ Int64) :=
  if (M.1 0 12) ≤ w1 then
  (some (.inr w0))
  else
  if (w1 < 0 ∨ 24 ≤ w1.toNatClampNeg) then none else
  if (M.1 4 w1.toNatClampNeg) = 0 then
  (some (.inl (w0, (w1 + (1 : Int32)))))
  else
  (xX12_isBehind M w1 v2).bind fun q4 =>
  if q4 = 0 then
  (some (.inl (w0, (w1 + (1 : Int32)))))
  else
  if (M.1 4 w1.toNatClampNeg) = v3 then
  (if (v2 < 0 ∨ 24 ≤ v2.toNatClampNeg) then none else
  zlet (w0 + ((M.2 20 w1.toNatClampNeg) * ((M.1 11 (0 : Int32).toNatClampNeg) + ((M.1 11 (2 : Int32).toNatClampNeg) * ((M.1 5 w1.toNatClampNeg) - (M.1 5 v2.toNatClampNeg)))).toInt64)) fun z10 =>
  some (.inl (z10, (w1 + (1 : Int32)))))
  else
  zlet (w0 + ((M.2 20 w1.toNatClampNeg) * (-(M.1 11 (1 : Int32).toNatClampNeg)).toInt64)) fun z7 =>
  some (.inl (z7, (w1 + (1 : Int32))))
set_option maxHeartbeats 4000000 in
set_option maxRecDepth 100000 in
theorem tX12_pressWorth_L18 {κ : Nat → ClassId} {E : zEn} {ad : Nat → Nat} {X : zX} {M : zM} {v2 : Int32} {v3 : Int32} {w0 : Int64} {w1 : Int32} {r : ((Int64 × Int32) ⊕ Int64)} (hC : zC X cX12_pressWorth RX12 wsX12_pressWorth vwCl (zty κ) E 7 ({ frames := 1, cells := 0, slots := 0, locals := 23 } : Room)) (hEk : zEk E) (hin : ∀ (x0' : Int64) (x1' : Int32), r = .inl (x0', x1') → zV X 0 0 (zwM κ ad M) [(0, .ref (ad 0)), (2, .int v2), (3, .int v3), (4, .long x0'), (6, .int x1')] [] 18) (hout0 : ∀ (x0' : Int64), r = .inr x0' → zV X 0 0 (zwM κ ad M) [(4, .long x0')] [] 119) (h : xX12_pressWorth_L18 M v2 v3 w0 w1 = some r) : zV X 0 0 (zwM κ ad M) [(0, .ref (ad 0)), (2, .int v2), (3, .int v3), (4, .long w0), (6, .int w1)] [] 18 := by
  unfold xX12_pressWorth_L18 at h
  refine zr_iload (pc := 18) hC 4 rfl dX12_pressWorth_18 ?_
  refine zr_aload_n (pc := 20) hC 0 rfl rfl dX12_pressWorth_20 ?_
  refine zmg_12 (pc := 21) hC hinX12_pressWorth_X12 flX12_pressWorth_46 dX12_pressWorth_21 ?_
  refine zr_icmp_ge (pc := 24) (tgt := 119) hC dX12_pressWorth_24 (by decide) (fun c1 => ?_) (fun c1 => ?_)
  · replace h := zip h c1
    obtain rfl := Option.some.inj h
    exact zV.sub (lv' := [(4, .long w0)]) [3] rfl (hout0 w0 rfl)
  · replace h := zin h c1
    refine zr_aload_n (pc := 27) hC 0 rfl rfl dX12_pressWorth_27 ?_
    refine zmg_3 (pc := 28) hC hinX12_pressWorth_X12 flX12_pressWorth_19 dX12_pressWorth_28 ?_
    refine zr_iload (pc := 31) hC 4 rfl dX12_pressWorth_31 ?_
    obtain ⟨i2, h⟩ := zgd h
    refine zml_4 (pc := 33) hC i2 dX12_pressWorth_33 ?_
    refine zr_if_eq (pc := 34) (tgt := 113) hC dX12_pressWorth_34 (by decide) (fun c3 => ?_) (fun c3 => ?_)
    · replace h := zip h c3
      refine zr_iinc (pc := 113) (k := 4) (lv' := [(6, .int (w1 + (1 : Int32))), (0, .ref (ad 0)), (2, .int v2), (3, .int v3), (4, .long w0)]) hC zki_1 (by decide) rfl rfl dX12_pressWorth_113 ?_
      refine zr_goto (pc := 116) (tgt := 18) hC dX12_pressWorth_116 (by decide) ?_
      obtain rfl := Option.some.inj h
      exact zV.sub (lv' := [(0, .ref (ad 0)), (2, .int v2), (3, .int v3), (4, .long w0), (6, .int (w1 + (1 : Int32)))]) [1, 2, 3, 4, 0] rfl (hin w0 (w1 + (1 : Int32)) rfl)
    · replace h := zin h c3
      refine zr_aload_n (pc := 37) hC 0 rfl rfl dX12_pressWorth_37 ?_
      refine zr_iload (pc := 38) hC 4 rfl dX12_pressWorth_38 ?_
      refine zr_iload_n (pc := 40) hC 1 rfl rfl dX12_pressWorth_40 ?_
      obtain ⟨q4, hq4, h⟩ := zbd h
      refine zr_cVi (pc := 41) hC hEk [.int w1, .int v2] [] 0 2 (fun l D => tX12_isBehind hEk hq4 l D) gX12_pressWorth_X12_isBehind rfl rfl rfl ⟨Nat.le_of_ble_eq_true rfl, Nat.le_of_ble_eq_true rfl⟩ hyX12_isBehind (by decide) entM_0 rfl rfl rfl (Nat.le_of_ble_eq_true rfl) ⟨Nat.le_of_ble_eq_true rfl, Nat.le_of_ble_eq_true rfl⟩ dX12_pressWorth_41 ?_
      refine zr_if_ne (pc := 44) (tgt := 50) hC dX12_pressWorth_44 (by decide) (fun c5 => ?_) (fun c5 => ?_)
      · replace h := zin h c5
        refine zr_lload (pc := 50) hC 3 rfl dX12_pressWorth_50 ?_
        refine zr_aload_n (pc := 52) hC 0 rfl rfl dX12_pressWorth_52 ?_
        refine zmg_24 (pc := 53) hC hinX12_pressWorth_X12 flX12_pressWorth_71 dX12_pressWorth_53 ?_
        refine zr_iload (pc := 56) hC 4 rfl dX12_pressWorth_56 ?_
        refine zml_20 (pc := 58) hC i2 dX12_pressWorth_58 ?_
        refine zr_aload_n (pc := 59) hC 0 rfl rfl dX12_pressWorth_59 ?_
        refine zmg_3 (pc := 60) hC hinX12_pressWorth_X12 flX12_pressWorth_19 dX12_pressWorth_60 ?_
        refine zr_iload (pc := 63) hC 4 rfl dX12_pressWorth_63 ?_
        refine zml_4 (pc := 65) hC i2 dX12_pressWorth_65 ?_
        refine zr_iload_n (pc := 66) hC 2 rfl rfl dX12_pressWorth_66 ?_
        refine zr_icmp_ne (pc := 67) (tgt := 101) hC dX12_pressWorth_67 (by decide) (fun c6 => ?_) (fun c6 => ?_)
        · replace h := zin h c6
          refine zr_aload_n (pc := 101) hC 0 rfl rfl dX12_pressWorth_101 ?_
          refine zmg_10 (pc := 102) hC hinX12_pressWorth_X12 flX12_pressWorth_40 dX12_pressWorth_102 ?_
          refine zr_iconst (pc := 105) hC zki_1 dX12_pressWorth_105 ?_
          refine zml_11 (pc := 106) hC (by decide) dX12_pressWorth_106 ?_
          refine zr_ineg (pc := 107) hC dX12_pressWorth_107 ?_
          refine zr_i2l (pc := 108) hC dX12_pressWorth_108 ?_
          refine zr_lmul (pc := 109) hC dX12_pressWorth_109 ?_
          refine zr_ladd (pc := 110) hC dX12_pressWorth_110 ?_
          obtain ⟨z7, e8, h⟩ := zle h
          refine zr_topl e8 ?_
          refine zr_lstore (pc := 111) (lv' := [(4, .long z7), (0, .ref (ad 0)), (2, .int v2), (3, .int v3), (6, .int w1)]) hC (by decide) rfl dX12_pressWorth_111 ?_
          refine zr_iinc (pc := 113) (k := 4) (lv' := [(6, .int (w1 + (1 : Int32))), (4, .long z7), (0, .ref (ad 0)), (2, .int v2), (3, .int v3)]) hC zki_1 (by decide) rfl rfl dX12_pressWorth_113 ?_
          refine zr_goto (pc := 116) (tgt := 18) hC dX12_pressWorth_116 (by decide) ?_
          obtain rfl := Option.some.inj h
          exact zV.sub (lv' := [(0, .ref (ad 0)), (2, .int v2), (3, .int v3), (4, .long z7), (6, .int (w1 + (1 : Int32)))]) [2, 3, 4, 1, 0] rfl (hin z7 (w1 + (1 : Int32)) rfl)
        · replace h := zip h c6
          refine zr_aload_n (pc := 70) hC 0 rfl rfl dX12_pressWorth_70 ?_
          refine zmg_10 (pc := 71) hC hinX12_pressWorth_X12 flX12_pressWorth_40 dX12_pressWorth_71 ?_
          refine zr_iconst (pc := 74) hC zki_0 dX12_pressWorth_74 ?_
          refine zml_11 (pc := 75) hC (by decide) dX12_pressWorth_75 ?_
          refine zr_aload_n (pc := 76) hC 0 rfl rfl dX12_pressWorth_76 ?_
          refine zmg_10 (pc := 77) hC hinX12_pressWorth_X12 flX12_pressWorth_40 dX12_pressWorth_77 ?_
          refine zr_iconst (pc := 80) hC zki_2 dX12_pressWorth_80 ?_
          refine zml_11 (pc := 81) hC (by decide) dX12_pressWorth_81 ?_
          refine zr_aload_n (pc := 82) hC 0 rfl rfl dX12_pressWorth_82 ?_
          refine zmg_4 (pc := 83) hC hinX12_pressWorth_X12 flX12_pressWorth_22 dX12_pressWorth_83 ?_
          refine zr_iload (pc := 86) hC 4 rfl dX12_pressWorth_86 ?_
          refine zml_5 (pc := 88) hC i2 dX12_pressWorth_88 ?_
          refine zr_aload_n (pc := 89) hC 0 rfl rfl dX12_pressWorth_89 ?_
          refine zmg_4 (pc := 90) hC hinX12_pressWorth_X12 flX12_pressWorth_22 dX12_pressWorth_90 ?_
          refine zr_iload_n (pc := 93) hC 1 rfl rfl dX12_pressWorth_93 ?_
          obtain ⟨i9, h⟩ := zgd h
          refine zml_5 (pc := 94) hC i9 dX12_pressWorth_94 ?_
          refine zr_isub (pc := 95) hC dX12_pressWorth_95 ?_
          refine zr_imul (pc := 96) hC dX12_pressWorth_96 ?_
          refine zr_iadd (pc := 97) hC dX12_pressWorth_97 ?_
          refine zr_goto (pc := 98) (tgt := 108) hC dX12_pressWorth_98 (by decide) ?_
          refine zr_i2l (pc := 108) hC dX12_pressWorth_108 ?_
          refine zr_lmul (pc := 109) hC dX12_pressWorth_109 ?_
          refine zr_ladd (pc := 110) hC dX12_pressWorth_110 ?_
          obtain ⟨z10, e11, h⟩ := zle h
          refine zr_topl e11 ?_
          refine zr_lstore (pc := 111) (lv' := [(4, .long z10), (0, .ref (ad 0)), (2, .int v2), (3, .int v3), (6, .int w1)]) hC (by decide) rfl dX12_pressWorth_111 ?_
          refine zr_iinc (pc := 113) (k := 4) (lv' := [(6, .int (w1 + (1 : Int32))), (4, .long z10), (0, .ref (ad 0)), (2, .int v2), (3, .int v3)]) hC zki_1 (by decide) rfl rfl dX12_pressWorth_113 ?_
          refine zr_goto (pc := 116) (tgt := 18) hC dX12_pressWorth_116 (by decide) ?_
          obtain rfl := Option.some.inj h
          exact zV.sub (lv' := [(0, .ref (ad 0)), (2, .int v2), (3, .int v3), (4, .long z10), (6, .int (w1 + (1 : Int32)))]) [2, 3, 4, 1, 0] rfl (hin z10 (w1 + (1 : Int32)) rfl)
      · replace h := zip h c5
        refine zr_goto (pc := 47) (tgt := 113) hC dX12_pressWorth_47 (by decide) ?_
        refine zr_iinc (pc := 113) (k := 4) (lv' := [(6, .int (w1 + (1 : Int32))), (0, .ref (ad 0)), (2, .int v2), (3, .int v3), (4, .long w0)]) hC zki_1 (by decide) rfl rfl dX12_pressWorth_113 ?_
        refine zr_goto (pc := 116) (tgt := 18) hC dX12_pressWorth_116 (by decide) ?_
        obtain rfl := Option.some.inj h
        exact zV.sub (lv' := [(0, .ref (ad 0)), (2, .int v2), (3, .int v3), (4, .long w0), (6, .int (w1 + (1 : Int32)))]) [1, 2, 3, 4, 0] rfl (hin w0 (w1 + (1 : Int32)) rfl)
def xX12_pressWorth (M : zM) (v1 : Int32) (v2 : Int32) : Option Int64 :=
  if ((((24 : Int32) * v1) + v2) < 0 ∨ 96 ≤ (((24 : Int32) * v1) + v2).toNatClampNeg) then none else
  zlet (M.1 22 (((24 : Int32) * v1) + v2).toNatClampNeg) fun z2 =>
  (x_it (fun a9 => xX12_pressWorth_L18 M v2 z2 a9.1 a9.2) zFU ((0 : Int64), v2)).bind fun q4 =>
  some q4
set_option maxHeartbeats 4000000 in
set_option maxRecDepth 100000 in
theorem tX12_pressWorth {κ : Nat → ClassId} {E : zEn} {ad : Nat → Nat} (hEk : zEk E) {M : zM} {v1 : Int32} {v2 : Int32} {res : Int64} (h : xX12_pressWorth M v1 v2 = some res) (l : Launch) (D : va_G) : zCT E D vwCl (zty κ) l yX12_pressWorth wsX12_pressWorth ({ frames := 1, cells := 0, slots := 0, locals := 23 } : Room) 0 0 [.ref (ad 0), .int v1, .int v2] (zwM κ ad M) (zPd (some (.long res)) (zwM κ ad M)) := by
  refine zCT.of (cc := cX12_pressWorth) (maxL := 7) (ret := (some .long)) (by decide) rfl (Nat.le_of_ble_eq_true rfl) ?_
  intro X hC hR
  unfold xX12_pressWorth at h
  refine zV.sub (lv' := [(0, .ref (ad 0)), (1, .int v1), (2, .int v2)]) [0, 1, 2] rfl ?_
  refine zr_aload_n (pc := 0) hC 0 rfl rfl dX12_pressWorth_0 ?_
  refine zmg_26 (pc := 1) hC hinX12_pressWorth_X12 flX12_pressWorth_78 dX12_pressWorth_1 ?_
  refine zr_bipush (pc := 4) hC zkb_24 dX12_pressWorth_4 ?_
  refine zr_iload_n (pc := 6) hC 1 rfl rfl dX12_pressWorth_6 ?_
  refine zr_imul (pc := 7) hC dX12_pressWorth_7 ?_
  refine zr_iload_n (pc := 8) hC 2 rfl rfl dX12_pressWorth_8 ?_
  refine zr_iadd (pc := 9) hC dX12_pressWorth_9 ?_
  obtain ⟨i1, h⟩ := zgd h
  refine zml_22 (pc := 10) hC i1 dX12_pressWorth_10 ?_
  obtain ⟨z2, e3, h⟩ := zle h
  refine zr_topi e3 ?_
  refine zr_istore_n (pc := 11) (lv' := [(3, .int z2), (0, .ref (ad 0)), (1, .int v1), (2, .int v2)]) hC rfl (by decide) rfl dX12_pressWorth_11 ?_
  refine zr_lconst (pc := 12) hC zkl_0 dX12_pressWorth_12 ?_
  refine zr_lstore (pc := 13) (lv' := [(4, .long (0 : Int64)), (3, .int z2), (0, .ref (ad 0)), (1, .int v1), (2, .int v2)]) hC (by decide) rfl dX12_pressWorth_13 ?_
  refine zr_iload_n (pc := 15) hC 4 rfl rfl dX12_pressWorth_15 ?_
  refine zr_istore (pc := 16) (lv' := [(6, .int v2), (4, .long (0 : Int64)), (3, .int z2), (0, .ref (ad 0)), (1, .int v1), (2, .int v2)]) hC (by decide) rfl dX12_pressWorth_16 ?_
  obtain ⟨q4, hq4, h⟩ := zbd h
  refine zV.sub (lv' := [(0, .ref (ad 0)), (2, .int v2), (3, .int z2), (4, .long (0 : Int64)), (6, .int v2)]) [3, 5, 2, 1, 0] rfl ?_
  refine zit2 (Wp := fun (y0 : Int64) (y1 : Int32) => zV X 0 0 (zwM κ ad M) [(0, .ref (ad 0)), (2, .int v2), (3, .int z2), (4, .long y0), (6, .int y1)] [] 18) (Ex := fun (b9 : Int64) => zV X 0 0 (zwM κ ad M) [(4, .long b9)] [] 119) (fun y0 y1 r9 hr hin hout => tX12_pressWorth_L18 hC hEk hin (fun z0 e9 => hout z0 e9) hr) zFU (0 : Int64) v2 q4 hq4 ?_
  show zV X 0 0 (zwM κ ad M) [(4, .long q4)] [] 119
  refine zr_lload (pc := 119) hC 0 rfl dX12_pressWorth_119 ?_
  obtain rfl := Option.some.inj h
  exact zr_lret hC hR ⟨rfl, rfl⟩ (Nat.le_refl _) (Nat.le_refl _) dX12_pressWorth_121
/-! X12_findAlone -/
theorem hyX12_findAlone : yX12_findAlone.cls = RX12 ∧ yX12_findAlone.cls ≠ "java/lang/invoke/MethodHandle" ∧ yX12_findAlone.cls ≠ "java/lang/invoke/VarHandle" ∧ (parseMethodDescriptor yX12_findAlone.desc).map (fun d => d.parameters.length) = some 1 := by decide +kernel
theorem flX12_findAlone_13 : Cond.fieldLink RX12 13 "BeforeTheEndModel" "parent" "[I" ∈ wsX12_findAlone := by decide +kernel
theorem flX12_findAlone_212 : Cond.fieldLink RX12 212 "BeforeTheEndModel" "aloneSet" "I" ∈ wsX12_findAlone := by decide +kernel
theorem flX12_findAlone_46 : Cond.fieldLink RX12 46 "BeforeTheEndModel" "words" "I" ∈ wsX12_findAlone := by decide +kernel
theorem flX12_findAlone_78 : Cond.fieldLink RX12 78 "BeforeTheEndModel" "guessAt" "[I" ∈ wsX12_findAlone := by decide +kernel
theorem flX12_findAlone_87 : Cond.fieldLink RX12 87 "BeforeTheEndModel" "worthAt" "[J" ∈ wsX12_findAlone := by decide +kernel
theorem hinX12_findAlone_X12 : ∀ w ∈ wsX120, w ∈ wsX12_findAlone := fun _ h => List.mem_cons_of_mem _ (List.mem_append_right _ h)
def xX12_findAlone_L7 (v1 : Int32) (w0 : zM) (w1 : Int32) : Option ((zM × Int32) ⊕ zM) :=
  if (w0.1 0 12) ≤ w1 then
  (some (.inr w0))
  else
  if (w1 < 0 ∨ 24 ≤ w1.toNatClampNeg) then none else
  zlet (zsj w0 25 w1.toNatClampNeg (0 : Int64)) fun M3 =>
  some (.inl (M3, (w1 + (1 : Int32))))
set_option maxHeartbeats 4000000 in
set_option maxRecDepth 100000 in
theorem tX12_findAlone_L7 {κ : Nat → ClassId} {E : zEn} {ad : Nat → Nat} {X : zX} {v1 : Int32} {w0 : zM} {w1 : Int32} {r : ((zM × Int32) ⊕ zM)} (hC : zC X cX12_findAlone RX12 wsX12_findAlone vwCl (zty κ) E 5 ({ frames := 2, cells := 0, slots := 0, locals := 49 } : Room)) (hEk : zEk E) (hin : ∀ (x0' : zM) (x1' : Int32), r = .inl (x0', x1') → zV X 0 0 (zwM κ ad x0') [(0, .ref (ad 0)), (1, .int v1), (2, .int x1')] [] 7) (hout0 : ∀ (x0' : zM), r = .inr x0' → zV X 0 0 (zwM κ ad x0') [(0, .ref (ad 0)), (1, .int v1)] [] 28) (h : xX12_findAlone_L7  v1 w0 w1 = some r) : zV X 0 0 (zwM κ ad w0) [(0, .ref (ad 0)), (1, .int v1), (2, .int w1)] [] 7 := by
  unfold xX12_findAlone_L7 at h
  refine zr_iload_n (pc := 7) hC 2 rfl rfl dX12_findAlone_7 ?_
  refine zr_aload_n (pc := 8) hC 0 rfl rfl dX12_findAlone_8 ?_
  refine zmg_12 (pc := 9) hC hinX12_findAlone_X12 flX12_findAlone_46 dX12_findAlone_9 ?_
  refine zr_icmp_ge (pc := 12) (tgt := 28) hC dX12_findAlone_12 (by decide) (fun c1 => ?_) (fun c1 => ?_)
  · replace h := zip h c1
    obtain rfl := Option.some.inj h
    exact zV.sub (lv' := [(0, .ref (ad 0)), (1, .int v1)]) [0, 1] rfl (hout0 w0 rfl)
  · replace h := zin h c1
    refine zr_aload_n (pc := 15) hC 0 rfl rfl dX12_findAlone_15 ?_
    refine zmg_30 (pc := 16) hC hinX12_findAlone_X12 flX12_findAlone_87 dX12_findAlone_16 ?_
    refine zr_iload_n (pc := 19) hC 2 rfl rfl dX12_findAlone_19 ?_
    refine zr_lconst (pc := 20) hC zkl_0 dX12_findAlone_20 ?_
    obtain ⟨i2, h⟩ := zgd h
    obtain ⟨M3, e4, h⟩ := zle h
    refine zms_25 (pc := 21) hC i2 e4 dX12_findAlone_21 ?_
    refine zr_iinc (pc := 22) (k := 2) (lv' := [(2, .int (w1 + (1 : Int32))), (0, .ref (ad 0)), (1, .int v1)]) hC zki_1 (by decide) rfl rfl dX12_findAlone_22 ?_
    refine zr_goto (pc := 25) (tgt := 7) hC dX12_findAlone_25 (by decide) ?_
    obtain rfl := Option.some.inj h
    exact zV.sub (lv' := [(0, .ref (ad 0)), (1, .int v1), (2, .int (w1 + (1 : Int32)))]) [1, 2, 0] rfl (hin M3 (w1 + (1 : Int32)) rfl)
def xX12_findAlone_L35 (v1 : Int32) (w0 : zM) (w1 : Int32) : Option ((zM × Int32) ⊕ zM) :=
  if w1 < 0 then
  (some (.inr w0))
  else
  if w1 ≤ 0 then
  (if w1 ≤ 0 then
  (some (.inl (w0, (w1 + (-1 : Int32)))))
  else
  if (w1 < 0 ∨ 24 ≤ w1.toNatClampNeg) then none else
  if ((w0.1 2 w1.toNatClampNeg) < 0 ∨ 24 ≤ (w0.1 2 w1.toNatClampNeg).toNatClampNeg) then none else
  zlet (zsj w0 25 (w0.1 2 w1.toNatClampNeg).toNatClampNeg ((w0.2 25 (w0.1 2 w1.toNatClampNeg).toNatClampNeg) + (w0.2 25 w1.toNatClampNeg))) fun M6 =>
  some (.inl (M6, (w1 + (-1 : Int32)))))
  else
  if ((((24 : Int32) * v1) + w1) < 0 ∨ 96 ≤ (((24 : Int32) * v1) + w1).toNatClampNeg) then none else
  if (w0.1 22 (((24 : Int32) * v1) + w1).toNatClampNeg) = 0 then
  (if w1 ≤ 0 then
  (some (.inl (w0, (w1 + (-1 : Int32)))))
  else
  if (w1 < 0 ∨ 24 ≤ w1.toNatClampNeg) then none else
  if ((w0.1 2 w1.toNatClampNeg) < 0 ∨ 24 ≤ (w0.1 2 w1.toNatClampNeg).toNatClampNeg) then none else
  zlet (zsj w0 25 (w0.1 2 w1.toNatClampNeg).toNatClampNeg ((w0.2 25 (w0.1 2 w1.toNatClampNeg).toNatClampNeg) + (w0.2 25 w1.toNatClampNeg))) fun M13 =>
  some (.inl (M13, (w1 + (-1 : Int32)))))
  else
  (xX12_pressWorth w0 v1 w1).bind fun q15 =>
  if (w1 < 0 ∨ 24 ≤ w1.toNatClampNeg) then none else
  if (lg_cmp q15 (w0.2 25 w1.toNatClampNeg)) < 0 then
  (if w1 ≤ 0 then
  (some (.inl (w0, (w1 + (-1 : Int32)))))
  else
  if ((w0.1 2 w1.toNatClampNeg) < 0 ∨ 24 ≤ (w0.1 2 w1.toNatClampNeg).toNatClampNeg) then none else
  zlet (zsj w0 25 (w0.1 2 w1.toNatClampNeg).toNatClampNeg ((w0.2 25 (w0.1 2 w1.toNatClampNeg).toNatClampNeg) + (w0.2 25 w1.toNatClampNeg))) fun M20 =>
  some (.inl (M20, (w1 + (-1 : Int32)))))
  else
  zlet (zsj w0 25 w1.toNatClampNeg q15) fun M22 =>
  zlet (zsi M22 0 31 ((M22.1 0 31) ||| ((1 : Int32) <<< (w1 &&& 31)))) fun M24 =>
  if w1 ≤ 0 then
  (some (.inl (M24, (w1 + (-1 : Int32)))))
  else
  if ((M24.1 2 w1.toNatClampNeg) < 0 ∨ 24 ≤ (M24.1 2 w1.toNatClampNeg).toNatClampNeg) then none else
  zlet (zsj M24 25 (M24.1 2 w1.toNatClampNeg).toNatClampNeg ((M24.2 25 (M24.1 2 w1.toNatClampNeg).toNatClampNeg) + (M24.2 25 w1.toNatClampNeg))) fun M28 =>
  some (.inl (M28, (w1 + (-1 : Int32))))
set_option maxHeartbeats 4000000 in
set_option maxRecDepth 100000 in
theorem tX12_findAlone_L35 {κ : Nat → ClassId} {E : zEn} {ad : Nat → Nat} {X : zX} {v1 : Int32} {w0 : zM} {w1 : Int32} {r : ((zM × Int32) ⊕ zM)} (hC : zC X cX12_findAlone RX12 wsX12_findAlone vwCl (zty κ) E 5 ({ frames := 2, cells := 0, slots := 0, locals := 49 } : Room)) (hEk : zEk E) (hin : ∀ (x0' : zM) (x1' : Int32), r = .inl (x0', x1') → zV X 0 0 (zwM κ ad x0') [(0, .ref (ad 0)), (1, .int v1), (2, .int x1')] [] 35) (hout0 : ∀ (x0' : zM), r = .inr x0' → zV X 0 0 (zwM κ ad x0') [] [] 124) (h : xX12_findAlone_L35  v1 w0 w1 = some r) : zV X 0 0 (zwM κ ad w0) [(0, .ref (ad 0)), (1, .int v1), (2, .int w1)] [] 35 := by
  unfold xX12_findAlone_L35 at h
  refine zr_iload_n (pc := 35) hC 2 rfl rfl dX12_findAlone_35 ?_
  refine zr_if_lt (pc := 36) (tgt := 124) hC dX12_findAlone_36 (by decide) (fun c1 => ?_) (fun c1 => ?_)
  · replace h := zip h c1
    obtain rfl := Option.some.inj h
    exact zV.sub (lv' := []) [] rfl (hout0 w0 rfl)
  · replace h := zin h c1
    refine zr_iload_n (pc := 39) hC 2 rfl rfl dX12_findAlone_39 ?_
    refine zr_if_le (pc := 40) (tgt := 94) hC dX12_findAlone_40 (by decide) (fun c2 => ?_) (fun c2 => ?_)
    · replace h := zip h c2
      refine zr_iload_n (pc := 94) hC 2 rfl rfl dX12_findAlone_94 ?_
      refine zr_if_le (pc := 95) (tgt := 118) hC dX12_findAlone_95 (by decide) (fun c3 => ?_) (fun c3 => ?_)
      · replace h := zip h c3
        refine zr_iinc (pc := 118) (k := 2) (lv' := [(2, .int (w1 + (-1 : Int32))), (0, .ref (ad 0)), (1, .int v1)]) hC zki_m1 (by decide) rfl rfl dX12_findAlone_118 ?_
        refine zr_goto (pc := 121) (tgt := 35) hC dX12_findAlone_121 (by decide) ?_
        obtain rfl := Option.some.inj h
        exact zV.sub (lv' := [(0, .ref (ad 0)), (1, .int v1), (2, .int (w1 + (-1 : Int32)))]) [1, 2, 0] rfl (hin w0 (w1 + (-1 : Int32)) rfl)
      · replace h := zin h c3
        refine zr_aload_n (pc := 98) hC 0 rfl rfl dX12_findAlone_98 ?_
        refine zmg_30 (pc := 99) hC hinX12_findAlone_X12 flX12_findAlone_87 dX12_findAlone_99 ?_
        refine zr_aload_n (pc := 102) hC 0 rfl rfl dX12_findAlone_102 ?_
        refine zmg_1 (pc := 103) hC hinX12_findAlone_X12 flX12_findAlone_13 dX12_findAlone_103 ?_
        refine zr_iload_n (pc := 106) hC 2 rfl rfl dX12_findAlone_106 ?_
        obtain ⟨i4, h⟩ := zgd h
        refine zml_2 (pc := 107) hC i4 dX12_findAlone_107 ?_
        refine zr_dup2 (pc := 108) hC rfl rfl dX12_findAlone_108 ?_
        obtain ⟨i5, h⟩ := zgd h
        refine zml_25 (pc := 109) hC i5 dX12_findAlone_109 ?_
        refine zr_aload_n (pc := 110) hC 0 rfl rfl dX12_findAlone_110 ?_
        refine zmg_30 (pc := 111) hC hinX12_findAlone_X12 flX12_findAlone_87 dX12_findAlone_111 ?_
        refine zr_iload_n (pc := 114) hC 2 rfl rfl dX12_findAlone_114 ?_
        refine zml_25 (pc := 115) hC i4 dX12_findAlone_115 ?_
        refine zr_ladd (pc := 116) hC dX12_findAlone_116 ?_
        obtain ⟨M6, e7, h⟩ := zle h
        refine zms_25 (pc := 117) hC i5 e7 dX12_findAlone_117 ?_
        refine zr_iinc (pc := 118) (k := 2) (lv' := [(2, .int (w1 + (-1 : Int32))), (0, .ref (ad 0)), (1, .int v1)]) hC zki_m1 (by decide) rfl rfl dX12_findAlone_118 ?_
        refine zr_goto (pc := 121) (tgt := 35) hC dX12_findAlone_121 (by decide) ?_
        obtain rfl := Option.some.inj h
        exact zV.sub (lv' := [(0, .ref (ad 0)), (1, .int v1), (2, .int (w1 + (-1 : Int32)))]) [1, 2, 0] rfl (hin M6 (w1 + (-1 : Int32)) rfl)
    · replace h := zin h c2
      refine zr_aload_n (pc := 43) hC 0 rfl rfl dX12_findAlone_43 ?_
      refine zmg_26 (pc := 44) hC hinX12_findAlone_X12 flX12_findAlone_78 dX12_findAlone_44 ?_
      refine zr_bipush (pc := 47) hC zkb_24 dX12_findAlone_47 ?_
      refine zr_iload_n (pc := 49) hC 1 rfl rfl dX12_findAlone_49 ?_
      refine zr_imul (pc := 50) hC dX12_findAlone_50 ?_
      refine zr_iload_n (pc := 51) hC 2 rfl rfl dX12_findAlone_51 ?_
      refine zr_iadd (pc := 52) hC dX12_findAlone_52 ?_
      obtain ⟨i8, h⟩ := zgd h
      refine zml_22 (pc := 53) hC i8 dX12_findAlone_53 ?_
      refine zr_if_eq (pc := 54) (tgt := 94) hC dX12_findAlone_54 (by decide) (fun c9 => ?_) (fun c9 => ?_)
      · replace h := zip h c9
        refine zr_iload_n (pc := 94) hC 2 rfl rfl dX12_findAlone_94 ?_
        refine zr_if_le (pc := 95) (tgt := 118) hC dX12_findAlone_95 (by decide) (fun c10 => ?_) (fun c10 => ?_)
        · replace h := zip h c10
          refine zr_iinc (pc := 118) (k := 2) (lv' := [(2, .int (w1 + (-1 : Int32))), (0, .ref (ad 0)), (1, .int v1)]) hC zki_m1 (by decide) rfl rfl dX12_findAlone_118 ?_
          refine zr_goto (pc := 121) (tgt := 35) hC dX12_findAlone_121 (by decide) ?_
          obtain rfl := Option.some.inj h
          exact zV.sub (lv' := [(0, .ref (ad 0)), (1, .int v1), (2, .int (w1 + (-1 : Int32)))]) [1, 2, 0] rfl (hin w0 (w1 + (-1 : Int32)) rfl)
        · replace h := zin h c10
          refine zr_aload_n (pc := 98) hC 0 rfl rfl dX12_findAlone_98 ?_
          refine zmg_30 (pc := 99) hC hinX12_findAlone_X12 flX12_findAlone_87 dX12_findAlone_99 ?_
          refine zr_aload_n (pc := 102) hC 0 rfl rfl dX12_findAlone_102 ?_
          refine zmg_1 (pc := 103) hC hinX12_findAlone_X12 flX12_findAlone_13 dX12_findAlone_103 ?_
          refine zr_iload_n (pc := 106) hC 2 rfl rfl dX12_findAlone_106 ?_
          obtain ⟨i11, h⟩ := zgd h
          refine zml_2 (pc := 107) hC i11 dX12_findAlone_107 ?_
          refine zr_dup2 (pc := 108) hC rfl rfl dX12_findAlone_108 ?_
          obtain ⟨i12, h⟩ := zgd h
          refine zml_25 (pc := 109) hC i12 dX12_findAlone_109 ?_
          refine zr_aload_n (pc := 110) hC 0 rfl rfl dX12_findAlone_110 ?_
          refine zmg_30 (pc := 111) hC hinX12_findAlone_X12 flX12_findAlone_87 dX12_findAlone_111 ?_
          refine zr_iload_n (pc := 114) hC 2 rfl rfl dX12_findAlone_114 ?_
          refine zml_25 (pc := 115) hC i11 dX12_findAlone_115 ?_
          refine zr_ladd (pc := 116) hC dX12_findAlone_116 ?_
          obtain ⟨M13, e14, h⟩ := zle h
          refine zms_25 (pc := 117) hC i12 e14 dX12_findAlone_117 ?_
          refine zr_iinc (pc := 118) (k := 2) (lv' := [(2, .int (w1 + (-1 : Int32))), (0, .ref (ad 0)), (1, .int v1)]) hC zki_m1 (by decide) rfl rfl dX12_findAlone_118 ?_
          refine zr_goto (pc := 121) (tgt := 35) hC dX12_findAlone_121 (by decide) ?_
          obtain rfl := Option.some.inj h
          exact zV.sub (lv' := [(0, .ref (ad 0)), (1, .int v1), (2, .int (w1 + (-1 : Int32)))]) [1, 2, 0] rfl (hin M13 (w1 + (-1 : Int32)) rfl)
      · replace h := zin h c9
        refine zr_aload_n (pc := 57) hC 0 rfl rfl dX12_findAlone_57 ?_
        refine zr_iload_n (pc := 58) hC 1 rfl rfl dX12_findAlone_58 ?_
        refine zr_iload_n (pc := 59) hC 2 rfl rfl dX12_findAlone_59 ?_
        obtain ⟨q15, hq15, h⟩ := zbd h
        refine zr_cVl (pc := 60) hC hEk [.int v1, .int w1] [] 0 2 (fun l D => tX12_pressWorth hEk hq15 l D) gX12_findAlone_X12_pressWorth rfl rfl rfl ⟨Nat.le_of_ble_eq_true rfl, Nat.le_of_ble_eq_true rfl⟩ hyX12_pressWorth (by decide) entM_0 rfl rfl rfl (Nat.le_of_ble_eq_true rfl) ⟨Nat.le_of_ble_eq_true rfl, Nat.le_of_ble_eq_true rfl⟩ dX12_findAlone_60 ?_
        refine zr_lstore_n (pc := 63) (lv' := [(3, .long q15), (0, .ref (ad 0)), (1, .int v1), (2, .int w1)]) hC rfl (by decide) rfl dX12_findAlone_63 ?_
        refine zr_lload_n (pc := 64) hC 0 rfl rfl dX12_findAlone_64 ?_
        refine zr_aload_n (pc := 65) hC 1 rfl rfl dX12_findAlone_65 ?_
        refine zmg_30 (pc := 66) hC hinX12_findAlone_X12 flX12_findAlone_87 dX12_findAlone_66 ?_
        refine zr_iload_n (pc := 69) hC 3 rfl rfl dX12_findAlone_69 ?_
        obtain ⟨i16, h⟩ := zgd h
        refine zml_25 (pc := 70) hC i16 dX12_findAlone_70 ?_
        refine zr_lcmp (pc := 71) hC dX12_findAlone_71 ?_
        refine zr_if_lt (pc := 72) (tgt := 94) hC dX12_findAlone_72 (by decide) (fun c17 => ?_) (fun c17 => ?_)
        · replace h := zip h c17
          refine zr_iload_n (pc := 94) hC 3 rfl rfl dX12_findAlone_94 ?_
          refine zr_if_le (pc := 95) (tgt := 118) hC dX12_findAlone_95 (by decide) (fun c18 => ?_) (fun c18 => ?_)
          · replace h := zip h c18
            refine zr_iinc (pc := 118) (k := 3) (lv' := [(2, .int (w1 + (-1 : Int32))), (3, .long q15), (0, .ref (ad 0)), (1, .int v1)]) hC zki_m1 (by decide) rfl rfl dX12_findAlone_118 ?_
            refine zr_goto (pc := 121) (tgt := 35) hC dX12_findAlone_121 (by decide) ?_
            obtain rfl := Option.some.inj h
            exact zV.sub (lv' := [(0, .ref (ad 0)), (1, .int v1), (2, .int (w1 + (-1 : Int32)))]) [2, 3, 0] rfl (hin w0 (w1 + (-1 : Int32)) rfl)
          · replace h := zin h c18
            refine zr_aload_n (pc := 98) hC 1 rfl rfl dX12_findAlone_98 ?_
            refine zmg_30 (pc := 99) hC hinX12_findAlone_X12 flX12_findAlone_87 dX12_findAlone_99 ?_
            refine zr_aload_n (pc := 102) hC 1 rfl rfl dX12_findAlone_102 ?_
            refine zmg_1 (pc := 103) hC hinX12_findAlone_X12 flX12_findAlone_13 dX12_findAlone_103 ?_
            refine zr_iload_n (pc := 106) hC 3 rfl rfl dX12_findAlone_106 ?_
            refine zml_2 (pc := 107) hC i16 dX12_findAlone_107 ?_
            refine zr_dup2 (pc := 108) hC rfl rfl dX12_findAlone_108 ?_
            obtain ⟨i19, h⟩ := zgd h
            refine zml_25 (pc := 109) hC i19 dX12_findAlone_109 ?_
            refine zr_aload_n (pc := 110) hC 1 rfl rfl dX12_findAlone_110 ?_
            refine zmg_30 (pc := 111) hC hinX12_findAlone_X12 flX12_findAlone_87 dX12_findAlone_111 ?_
            refine zr_iload_n (pc := 114) hC 3 rfl rfl dX12_findAlone_114 ?_
            refine zml_25 (pc := 115) hC i16 dX12_findAlone_115 ?_
            refine zr_ladd (pc := 116) hC dX12_findAlone_116 ?_
            obtain ⟨M20, e21, h⟩ := zle h
            refine zms_25 (pc := 117) hC i19 e21 dX12_findAlone_117 ?_
            refine zr_iinc (pc := 118) (k := 3) (lv' := [(2, .int (w1 + (-1 : Int32))), (3, .long q15), (0, .ref (ad 0)), (1, .int v1)]) hC zki_m1 (by decide) rfl rfl dX12_findAlone_118 ?_
            refine zr_goto (pc := 121) (tgt := 35) hC dX12_findAlone_121 (by decide) ?_
            obtain rfl := Option.some.inj h
            exact zV.sub (lv' := [(0, .ref (ad 0)), (1, .int v1), (2, .int (w1 + (-1 : Int32)))]) [2, 3, 0] rfl (hin M20 (w1 + (-1 : Int32)) rfl)
        · replace h := zin h c17
          refine zr_aload_n (pc := 75) hC 1 rfl rfl dX12_findAlone_75 ?_
          refine zmg_30 (pc := 76) hC hinX12_findAlone_X12 flX12_findAlone_87 dX12_findAlone_76 ?_
          refine zr_iload_n (pc := 79) hC 3 rfl rfl dX12_findAlone_79 ?_
          refine zr_lload_n (pc := 80) hC 0 rfl rfl dX12_findAlone_80 ?_
          obtain ⟨M22, e23, h⟩ := zle h
          refine zms_25 (pc := 81) hC i16 e23 dX12_findAlone_81 ?_
          refine zr_aload_n (pc := 82) hC 1 rfl rfl dX12_findAlone_82 ?_
          refine zr_dup (pc := 83) hC rfl dX12_findAlone_83 ?_
          refine zmg_31 (pc := 84) hC hinX12_findAlone_X12 flX12_findAlone_212 dX12_findAlone_84 ?_
          refine zr_iconst (pc := 87) hC zki_1 dX12_findAlone_87 ?_
          refine zr_iload_n (pc := 88) hC 3 rfl rfl dX12_findAlone_88 ?_
          refine zr_ishl (pc := 89) hC dX12_findAlone_89 ?_
          refine zr_ior (pc := 90) hC dX12_findAlone_90 ?_
          obtain ⟨M24, e25, h⟩ := zle h
          refine zmp_31 (pc := 91) hC hinX12_findAlone_X12 flX12_findAlone_212 e25 dX12_findAlone_91 ?_
          refine zr_iload_n (pc := 94) hC 3 rfl rfl dX12_findAlone_94 ?_
          refine zr_if_le (pc := 95) (tgt := 118) hC dX12_findAlone_95 (by decide) (fun c26 => ?_) (fun c26 => ?_)
          · replace h := zip h c26
            refine zr_iinc (pc := 118) (k := 3) (lv' := [(2, .int (w1 + (-1 : Int32))), (3, .long q15), (0, .ref (ad 0)), (1, .int v1)]) hC zki_m1 (by decide) rfl rfl dX12_findAlone_118 ?_
            refine zr_goto (pc := 121) (tgt := 35) hC dX12_findAlone_121 (by decide) ?_
            obtain rfl := Option.some.inj h
            exact zV.sub (lv' := [(0, .ref (ad 0)), (1, .int v1), (2, .int (w1 + (-1 : Int32)))]) [2, 3, 0] rfl (hin M24 (w1 + (-1 : Int32)) rfl)
          · replace h := zin h c26
            refine zr_aload_n (pc := 98) hC 1 rfl rfl dX12_findAlone_98 ?_
            refine zmg_30 (pc := 99) hC hinX12_findAlone_X12 flX12_findAlone_87 dX12_findAlone_99 ?_
            refine zr_aload_n (pc := 102) hC 1 rfl rfl dX12_findAlone_102 ?_
            refine zmg_1 (pc := 103) hC hinX12_findAlone_X12 flX12_findAlone_13 dX12_findAlone_103 ?_
            refine zr_iload_n (pc := 106) hC 3 rfl rfl dX12_findAlone_106 ?_
            refine zml_2 (pc := 107) hC i16 dX12_findAlone_107 ?_
            refine zr_dup2 (pc := 108) hC rfl rfl dX12_findAlone_108 ?_
            obtain ⟨i27, h⟩ := zgd h
            refine zml_25 (pc := 109) hC i27 dX12_findAlone_109 ?_
            refine zr_aload_n (pc := 110) hC 1 rfl rfl dX12_findAlone_110 ?_
            refine zmg_30 (pc := 111) hC hinX12_findAlone_X12 flX12_findAlone_87 dX12_findAlone_111 ?_
            refine zr_iload_n (pc := 114) hC 3 rfl rfl dX12_findAlone_114 ?_
            refine zml_25 (pc := 115) hC i16 dX12_findAlone_115 ?_
            refine zr_ladd (pc := 116) hC dX12_findAlone_116 ?_
            obtain ⟨M28, e29, h⟩ := zle h
            refine zms_25 (pc := 117) hC i27 e29 dX12_findAlone_117 ?_
            refine zr_iinc (pc := 118) (k := 3) (lv' := [(2, .int (w1 + (-1 : Int32))), (3, .long q15), (0, .ref (ad 0)), (1, .int v1)]) hC zki_m1 (by decide) rfl rfl dX12_findAlone_118 ?_
            refine zr_goto (pc := 121) (tgt := 35) hC dX12_findAlone_121 (by decide) ?_
            obtain rfl := Option.some.inj h
            exact zV.sub (lv' := [(0, .ref (ad 0)), (1, .int v1), (2, .int (w1 + (-1 : Int32)))]) [2, 3, 0] rfl (hin M28 (w1 + (-1 : Int32)) rfl)
def xX12_findAlone (M : zM) (v1 : Int32) : Option zM :=
  zlet (zsi M 0 31 (0 : Int32)) fun M1 =>
  (x_it (fun a9 => xX12_findAlone_L7 v1 a9.1 a9.2) zFU (M1, (0 : Int32))).bind fun q3 =>
  zlet ((q3.1 0 12) - (1 : Int32)) fun z4 =>
  (x_it (fun a9 => xX12_findAlone_L35 v1 a9.1 a9.2) zFU (q3, z4)).bind fun q6 =>
  some q6
set_option maxHeartbeats 4000000 in
set_option maxRecDepth 100000 in
theorem tX12_findAlone {κ : Nat → ClassId} {E : zEn} {ad : Nat → Nat} (hEk : zEk E) {M : zM} {v1 : Int32} {res : zM} (h : xX12_findAlone M v1 = some res) (l : Launch) (D : va_G) : zCT E D vwCl (zty κ) l yX12_findAlone wsX12_findAlone ({ frames := 2, cells := 0, slots := 0, locals := 49 } : Room) 0 0 [.ref (ad 0), .int v1] (zwM κ ad M) (zPd none (zwM κ ad res)) := by
  refine zCT.of (cc := cX12_findAlone) (maxL := 5) (ret := none) (by decide) rfl (Nat.le_of_ble_eq_true rfl) ?_
  intro X hC hR
  unfold xX12_findAlone at h
  refine zV.sub (lv' := [(0, .ref (ad 0)), (1, .int v1)]) [0, 1] rfl ?_
  refine zr_aload_n (pc := 0) hC 0 rfl rfl dX12_findAlone_0 ?_
  refine zr_iconst (pc := 1) hC zki_0 dX12_findAlone_1 ?_
  obtain ⟨M1, e2, h⟩ := zle h
  refine zmp_31 (pc := 2) hC hinX12_findAlone_X12 flX12_findAlone_212 e2 dX12_findAlone_2 ?_
  refine zr_iconst (pc := 5) hC zki_0 dX12_findAlone_5 ?_
  refine zr_istore_n (pc := 6) (lv' := [(2, .int (0 : Int32)), (0, .ref (ad 0)), (1, .int v1)]) hC rfl (by decide) rfl dX12_findAlone_6 ?_
  obtain ⟨q3, hq3, h⟩ := zbd h
  refine zV.sub (lv' := [(0, .ref (ad 0)), (1, .int v1), (2, .int (0 : Int32))]) [1, 2, 0] rfl ?_
  refine zit2 (Wp := fun (y0 : zM) (y1 : Int32) => zV X 0 0 (zwM κ ad y0) [(0, .ref (ad 0)), (1, .int v1), (2, .int y1)] [] 7) (Ex := fun (b9 : zM) => zV X 0 0 (zwM κ ad b9) [(0, .ref (ad 0)), (1, .int v1)] [] 28) (fun y0 y1 r9 hr hin hout => tX12_findAlone_L7 hC hEk hin (fun z0 e9 => hout z0 e9) hr) zFU M1 (0 : Int32) q3 hq3 ?_
  show zV X 0 0 (zwM κ ad q3) [(0, .ref (ad 0)), (1, .int v1)] [] 28
  refine zr_aload_n (pc := 28) hC 0 rfl rfl dX12_findAlone_28 ?_
  refine zmg_12 (pc := 29) hC hinX12_findAlone_X12 flX12_findAlone_46 dX12_findAlone_29 ?_
  refine zr_iconst (pc := 32) hC zki_1 dX12_findAlone_32 ?_
  refine zr_isub (pc := 33) hC dX12_findAlone_33 ?_
  obtain ⟨z4, e5, h⟩ := zle h
  refine zr_topi e5 ?_
  refine zr_istore_n (pc := 34) (lv' := [(2, .int z4), (0, .ref (ad 0)), (1, .int v1)]) hC rfl (by decide) rfl dX12_findAlone_34 ?_
  obtain ⟨q6, hq6, h⟩ := zbd h
  refine zV.sub (lv' := [(0, .ref (ad 0)), (1, .int v1), (2, .int z4)]) [1, 2, 0] rfl ?_
  refine zit2 (Wp := fun (y0 : zM) (y1 : Int32) => zV X 0 0 (zwM κ ad y0) [(0, .ref (ad 0)), (1, .int v1), (2, .int y1)] [] 35) (Ex := fun (b9 : zM) => zV X 0 0 (zwM κ ad b9) [] [] 124) (fun y0 y1 r9 hr hin hout => tX12_findAlone_L35 hC hEk hin (fun z0 e9 => hout z0 e9) hr) zFU q3 z4 q6 hq6 ?_
  show zV X 0 0 (zwM κ ad q6) [] [] 124
  obtain rfl := Option.some.inj h
  exact zr_vret hC hR ⟨rfl, rfl⟩ (Nat.le_refl _) (Nat.le_refl _) dX12_findAlone_124
/-! X12_findPresses -/
theorem hyX12_findPresses : yX12_findPresses.cls = RX12 ∧ yX12_findPresses.cls ≠ "java/lang/invoke/MethodHandle" ∧ yX12_findPresses.cls ≠ "java/lang/invoke/VarHandle" ∧ (parseMethodDescriptor yX12_findPresses.desc).map (fun d => d.parameters.length) = some 0 := by decide +kernel
theorem flX12_findPresses_114 : Cond.fieldLink RX12 114 "BeforeTheEndModel" "players" "I" ∈ wsX12_findPresses := by decide +kernel
theorem flX12_findPresses_212 : Cond.fieldLink RX12 212 "BeforeTheEndModel" "aloneSet" "I" ∈ wsX12_findPresses := by decide +kernel
theorem flX12_findPresses_25 : Cond.fieldLink RX12 25 "BeforeTheEndModel" "kind" "[I" ∈ wsX12_findPresses := by decide +kernel
theorem flX12_findPresses_28 : Cond.fieldLink RX12 28 "BeforeTheEndModel" "knows" "[I" ∈ wsX12_findPresses := by decide +kernel
theorem flX12_findPresses_34 : Cond.fieldLink RX12 34 "BeforeTheEndModel" "sure" "[I" ∈ wsX12_findPresses := by decide +kernel
theorem flX12_findPresses_46 : Cond.fieldLink RX12 46 "BeforeTheEndModel" "words" "I" ∈ wsX12_findPresses := by decide +kernel
theorem flX12_findPresses_78 : Cond.fieldLink RX12 78 "BeforeTheEndModel" "guessAt" "[I" ∈ wsX12_findPresses := by decide +kernel
theorem flX12_findPresses_81 : Cond.fieldLink RX12 81 "BeforeTheEndModel" "presses" "[I" ∈ wsX12_findPresses := by decide +kernel
theorem flX12_findPresses_84 : Cond.fieldLink RX12 84 "BeforeTheEndModel" "learnt" "[I" ∈ wsX12_findPresses := by decide +kernel
theorem hinX12_findPresses_X12 : ∀ w ∈ wsX120, w ∈ wsX12_findPresses := fun _ h => List.mem_cons_of_mem _ (List.mem_append_right _ h)
def xX12_findPresses_L12_L2 (v1 : Int32) (w0 : zM) (w1 : Int32) : Option ((zM × Int32) ⊕ zM) :=
  if (w0.1 0 12) ≤ w1 then
  (some (.inr w0))
  else
  if (v1 < 0 ∨ 4 ≤ v1.toNatClampNeg) then none else
  (xX12_guessOf w0 (w0.1 7 v1.toNatClampNeg) w1).bind fun q3 =>
  if ((((24 : Int32) * v1) + w1) < 0 ∨ 96 ≤ (((24 : Int32) * v1) + w1).toNatClampNeg) then none else
  zlet (zsi w0 22 (((24 : Int32) * v1) + w1).toNatClampNeg q3) fun M5 =>
  some (.inl (M5, (w1 + (1 : Int32))))
set_option maxHeartbeats 4000000 in
set_option maxRecDepth 100000 in
theorem tX12_findPresses_L12_L2 {κ : Nat → ClassId} {E : zEn} {ad : Nat → Nat} {X : zX} {v1 : Int32} {w0 : zM} {w1 : Int32} {r : ((zM × Int32) ⊕ zM)} (hC : zC X cX12_findPresses RX12 wsX12_findPresses vwCl (zty κ) E 3 ({ frames := 3, cells := 0, slots := 0, locals := 73 } : Room)) (hEk : zEk E) (hin : ∀ (x0' : zM) (x1' : Int32), r = .inl (x0', x1') → zV X 0 0 (zwM κ ad x0') [(0, .ref (ad 0)), (1, .int v1), (2, .int x1')] [] 12) (hout0 : ∀ (x0' : zM), r = .inr x0' → zV X 0 0 (zwM κ ad x0') [(0, .ref (ad 0)), (1, .int v1)] [] 48) (h : xX12_findPresses_L12_L2  v1 w0 w1 = some r) : zV X 0 0 (zwM κ ad w0) [(0, .ref (ad 0)), (1, .int v1), (2, .int w1)] [] 12 := by
  unfold xX12_findPresses_L12_L2 at h
  refine zr_iload_n (pc := 12) hC 2 rfl rfl dX12_findPresses_12 ?_
  refine zr_aload_n (pc := 13) hC 0 rfl rfl dX12_findPresses_13 ?_
  refine zmg_12 (pc := 14) hC hinX12_findPresses_X12 flX12_findPresses_46 dX12_findPresses_14 ?_
  refine zr_icmp_ge (pc := 17) (tgt := 48) hC dX12_findPresses_17 (by decide) (fun c1 => ?_) (fun c1 => ?_)
  · replace h := zip h c1
    obtain rfl := Option.some.inj h
    exact zV.sub (lv' := [(0, .ref (ad 0)), (1, .int v1)]) [0, 1] rfl (hout0 w0 rfl)
  · replace h := zin h c1
    refine zr_aload_n (pc := 20) hC 0 rfl rfl dX12_findPresses_20 ?_
    refine zmg_26 (pc := 21) hC hinX12_findPresses_X12 flX12_findPresses_78 dX12_findPresses_21 ?_
    refine zr_bipush (pc := 24) hC zkb_24 dX12_findPresses_24 ?_
    refine zr_iload_n (pc := 26) hC 1 rfl rfl dX12_findPresses_26 ?_
    refine zr_imul (pc := 27) hC dX12_findPresses_27 ?_
    refine zr_iload_n (pc := 28) hC 2 rfl rfl dX12_findPresses_28 ?_
    refine zr_iadd (pc := 29) hC dX12_findPresses_29 ?_
    refine zr_aload_n (pc := 30) hC 0 rfl rfl dX12_findPresses_30 ?_
    refine zr_aload_n (pc := 31) hC 0 rfl rfl dX12_findPresses_31 ?_
    refine zmg_6 (pc := 32) hC hinX12_findPresses_X12 flX12_findPresses_28 dX12_findPresses_32 ?_
    refine zr_iload_n (pc := 35) hC 1 rfl rfl dX12_findPresses_35 ?_
    obtain ⟨i2, h⟩ := zgd h
    refine zml_7 (pc := 36) hC i2 dX12_findPresses_36 ?_
    refine zr_iload_n (pc := 37) hC 2 rfl rfl dX12_findPresses_37 ?_
    obtain ⟨q3, hq3, h⟩ := zbd h
    refine zr_cVi (pc := 38) hC hEk [.int (w0.1 7 v1.toNatClampNeg), .int w1] [.int (((24 : Int32) * v1) + w1), .ref (ad 22)] 0 2 (fun l D => tX12_guessOf hEk hq3 l D) gX12_findPresses_X12_guessOf rfl rfl rfl ⟨Nat.le_of_ble_eq_true rfl, Nat.le_of_ble_eq_true rfl⟩ hyX12_guessOf (by decide) entM_0 rfl rfl rfl (Nat.le_of_ble_eq_true rfl) ⟨Nat.le_of_ble_eq_true rfl, Nat.le_of_ble_eq_true rfl⟩ dX12_findPresses_38 ?_
    obtain ⟨i4, h⟩ := zgd h
    obtain ⟨M5, e6, h⟩ := zle h
    refine zms_22 (pc := 41) hC i4 e6 dX12_findPresses_41 ?_
    refine zr_iinc (pc := 42) (k := 2) (lv' := [(2, .int (w1 + (1 : Int32))), (0, .ref (ad 0)), (1, .int v1)]) hC zki_1 (by decide) rfl rfl dX12_findPresses_42 ?_
    refine zr_goto (pc := 45) (tgt := 12) hC dX12_findPresses_45 (by decide) ?_
    obtain rfl := Option.some.inj h
    exact zV.sub (lv' := [(0, .ref (ad 0)), (1, .int v1), (2, .int (w1 + (1 : Int32)))]) [1, 2, 0] rfl (hin M5 (w1 + (1 : Int32)) rfl)
def xX12_findPresses_L2 (w0 : zM) (w1 : Int32) : Option ((zM × Int32) ⊕ zM) :=
  if (w0.1 0 13) ≤ w1 then
  (some (.inr w0))
  else
  (x_it (fun a9 => xX12_findPresses_L12_L2 w1 a9.1 a9.2) zFU (w0, (0 : Int32))).bind fun q2 =>
  if (w1 < 0 ∨ 4 ≤ w1.toNatClampNeg) then none else
  if (q2.1 6 w1.toNatClampNeg) = (5 : Int32) then
  ((xX12_findAlone q2 w1).bind fun q15 =>
  zlet (zsi q15 23 w1.toNatClampNeg (q15.1 0 31)) fun M16 =>
  if (M16.1 6 w1.toNatClampNeg) = (3 : Int32) then
  ((xX12_pressing M16 w1 ((M16.1 9 w1.toNatClampNeg) / (2 : Int32))).bind fun q21 =>
  zlet (zsi M16 24 w1.toNatClampNeg q21) fun M22 =>
  some (.inl (M22, (w1 + (1 : Int32)))))
  else
  zlet (zsi M16 24 w1.toNatClampNeg (M16.1 23 w1.toNatClampNeg)) fun M19 =>
  some (.inl (M19, (w1 + (1 : Int32)))))
  else
  (xX12_sureOf q2 w1).bind fun q5 =>
  (xX12_pressing q2 w1 q5).bind fun q6 =>
  zlet (zsi q2 23 w1.toNatClampNeg q6) fun M7 =>
  if (M7.1 6 w1.toNatClampNeg) = (3 : Int32) then
  ((xX12_pressing M7 w1 ((M7.1 9 w1.toNatClampNeg) / (2 : Int32))).bind fun q12 =>
  zlet (zsi M7 24 w1.toNatClampNeg q12) fun M13 =>
  some (.inl (M13, (w1 + (1 : Int32)))))
  else
  zlet (zsi M7 24 w1.toNatClampNeg (M7.1 23 w1.toNatClampNeg)) fun M10 =>
  some (.inl (M10, (w1 + (1 : Int32))))
set_option maxHeartbeats 4000000 in
set_option maxRecDepth 100000 in
theorem tX12_findPresses_L2 {κ : Nat → ClassId} {E : zEn} {ad : Nat → Nat} {X : zX} {w0 : zM} {w1 : Int32} {r : ((zM × Int32) ⊕ zM)} (hC : zC X cX12_findPresses RX12 wsX12_findPresses vwCl (zty κ) E 3 ({ frames := 3, cells := 0, slots := 0, locals := 73 } : Room)) (hEk : zEk E) (hin : ∀ (x0' : zM) (x1' : Int32), r = .inl (x0', x1') → zV X 0 0 (zwM κ ad x0') [(0, .ref (ad 0)), (1, .int x1')] [] 2) (hout0 : ∀ (x0' : zM), r = .inr x0' → zV X 0 0 (zwM κ ad x0') [] [] 136) (h : xX12_findPresses_L2   w0 w1 = some r) : zV X 0 0 (zwM κ ad w0) [(0, .ref (ad 0)), (1, .int w1)] [] 2 := by
  unfold xX12_findPresses_L2 at h
  refine zr_iload_n (pc := 2) hC 1 rfl rfl dX12_findPresses_2 ?_
  refine zr_aload_n (pc := 3) hC 0 rfl rfl dX12_findPresses_3 ?_
  refine zmg_13 (pc := 4) hC hinX12_findPresses_X12 flX12_findPresses_114 dX12_findPresses_4 ?_
  refine zr_icmp_ge (pc := 7) (tgt := 136) hC dX12_findPresses_7 (by decide) (fun c1 => ?_) (fun c1 => ?_)
  · replace h := zip h c1
    obtain rfl := Option.some.inj h
    exact zV.sub (lv' := []) [] rfl (hout0 w0 rfl)
  · replace h := zin h c1
    refine zr_iconst (pc := 10) hC zki_0 dX12_findPresses_10 ?_
    refine zr_istore_n (pc := 11) (lv' := [(2, .int (0 : Int32)), (0, .ref (ad 0)), (1, .int w1)]) hC rfl (by decide) rfl dX12_findPresses_11 ?_
    obtain ⟨q2, hq2, h⟩ := zbd h
    refine zV.sub (lv' := [(0, .ref (ad 0)), (1, .int w1), (2, .int (0 : Int32))]) [1, 2, 0] rfl ?_
    refine zit2 (Wp := fun (y0 : zM) (y1 : Int32) => zV X 0 0 (zwM κ ad y0) [(0, .ref (ad 0)), (1, .int w1), (2, .int y1)] [] 12) (Ex := fun (b9 : zM) => zV X 0 0 (zwM κ ad b9) [(0, .ref (ad 0)), (1, .int w1)] [] 48) (fun y0 y1 r9 hr hin hout => tX12_findPresses_L12_L2 hC hEk hin (fun z0 e9 => hout z0 e9) hr) zFU w0 (0 : Int32) q2 hq2 ?_
    show zV X 0 0 (zwM κ ad q2) [(0, .ref (ad 0)), (1, .int w1)] [] 48
    refine zr_aload_n (pc := 48) hC 0 rfl rfl dX12_findPresses_48 ?_
    refine zmg_5 (pc := 49) hC hinX12_findPresses_X12 flX12_findPresses_25 dX12_findPresses_49 ?_
    refine zr_iload_n (pc := 52) hC 1 rfl rfl dX12_findPresses_52 ?_
    obtain ⟨i3, h⟩ := zgd h
    refine zml_6 (pc := 53) hC i3 dX12_findPresses_53 ?_
    refine zr_iconst (pc := 54) hC zki_5 dX12_findPresses_54 ?_
    refine zr_icmp_ne (pc := 55) (tgt := 76) hC dX12_findPresses_55 (by decide) (fun c4 => ?_) (fun c4 => ?_)
    · replace h := zin h c4
      refine zr_aload_n (pc := 76) hC 0 rfl rfl dX12_findPresses_76 ?_
      refine zmg_27 (pc := 77) hC hinX12_findPresses_X12 flX12_findPresses_81 dX12_findPresses_77 ?_
      refine zr_iload_n (pc := 80) hC 1 rfl rfl dX12_findPresses_80 ?_
      refine zr_aload_n (pc := 81) hC 0 rfl rfl dX12_findPresses_81 ?_
      refine zr_iload_n (pc := 82) hC 1 rfl rfl dX12_findPresses_82 ?_
      refine zr_aload_n (pc := 83) hC 0 rfl rfl dX12_findPresses_83 ?_
      refine zr_iload_n (pc := 84) hC 1 rfl rfl dX12_findPresses_84 ?_
      obtain ⟨q5, hq5, h⟩ := zbd h
      refine zr_cVi (pc := 85) hC hEk [.int w1] [.int w1, .ref (ad 0), .int w1, .ref (ad 23)] 0 1 (fun l D => tX12_sureOf hEk hq5 l D) gX12_findPresses_X12_sureOf rfl rfl rfl ⟨Nat.le_of_ble_eq_true rfl, Nat.le_of_ble_eq_true rfl⟩ hyX12_sureOf (by decide) entM_0 rfl rfl rfl (Nat.le_of_ble_eq_true rfl) ⟨Nat.le_of_ble_eq_true rfl, Nat.le_of_ble_eq_true rfl⟩ dX12_findPresses_85 ?_
      obtain ⟨q6, hq6, h⟩ := zbd h
      refine zr_cVi (pc := 88) hC hEk [.int w1, .int q5] [.int w1, .ref (ad 23)] 0 2 (fun l D => tX12_pressing hEk hq6 l D) gX12_findPresses_X12_pressing rfl rfl rfl ⟨Nat.le_of_ble_eq_true rfl, Nat.le_of_ble_eq_true rfl⟩ hyX12_pressing (by decide) entM_0 rfl rfl rfl (Nat.le_of_ble_eq_true rfl) ⟨Nat.le_of_ble_eq_true rfl, Nat.le_of_ble_eq_true rfl⟩ dX12_findPresses_88 ?_
      obtain ⟨M7, e8, h⟩ := zle h
      refine zms_23 (pc := 91) hC i3 e8 dX12_findPresses_91 ?_
      refine zr_aload_n (pc := 92) hC 0 rfl rfl dX12_findPresses_92 ?_
      refine zmg_28 (pc := 93) hC hinX12_findPresses_X12 flX12_findPresses_84 dX12_findPresses_93 ?_
      refine zr_iload_n (pc := 96) hC 1 rfl rfl dX12_findPresses_96 ?_
      refine zr_aload_n (pc := 97) hC 0 rfl rfl dX12_findPresses_97 ?_
      refine zmg_5 (pc := 98) hC hinX12_findPresses_X12 flX12_findPresses_25 dX12_findPresses_98 ?_
      refine zr_iload_n (pc := 101) hC 1 rfl rfl dX12_findPresses_101 ?_
      refine zml_6 (pc := 102) hC i3 dX12_findPresses_102 ?_
      refine zr_iconst (pc := 103) hC zki_3 dX12_findPresses_103 ?_
      refine zr_icmp_ne (pc := 104) (tgt := 123) hC dX12_findPresses_104 (by decide) (fun c9 => ?_) (fun c9 => ?_)
      · replace h := zin h c9
        refine zr_aload_n (pc := 123) hC 0 rfl rfl dX12_findPresses_123 ?_
        refine zmg_27 (pc := 124) hC hinX12_findPresses_X12 flX12_findPresses_81 dX12_findPresses_124 ?_
        refine zr_iload_n (pc := 127) hC 1 rfl rfl dX12_findPresses_127 ?_
        refine zml_23 (pc := 128) hC i3 dX12_findPresses_128 ?_
        obtain ⟨M10, e11, h⟩ := zle h
        refine zms_24 (pc := 129) hC i3 e11 dX12_findPresses_129 ?_
        refine zr_iinc (pc := 130) (k := 1) (lv' := [(1, .int (w1 + (1 : Int32))), (0, .ref (ad 0))]) hC zki_1 (by decide) rfl rfl dX12_findPresses_130 ?_
        refine zr_goto (pc := 133) (tgt := 2) hC dX12_findPresses_133 (by decide) ?_
        obtain rfl := Option.some.inj h
        exact zV.sub (lv' := [(0, .ref (ad 0)), (1, .int (w1 + (1 : Int32)))]) [1, 0] rfl (hin M10 (w1 + (1 : Int32)) rfl)
      · replace h := zip h c9
        refine zr_aload_n (pc := 107) hC 0 rfl rfl dX12_findPresses_107 ?_
        refine zr_iload_n (pc := 108) hC 1 rfl rfl dX12_findPresses_108 ?_
        refine zr_aload_n (pc := 109) hC 0 rfl rfl dX12_findPresses_109 ?_
        refine zmg_8 (pc := 110) hC hinX12_findPresses_X12 flX12_findPresses_34 dX12_findPresses_110 ?_
        refine zr_iload_n (pc := 113) hC 1 rfl rfl dX12_findPresses_113 ?_
        refine zml_9 (pc := 114) hC i3 dX12_findPresses_114 ?_
        refine zr_iconst (pc := 115) hC zki_2 dX12_findPresses_115 ?_
        refine zr_idiv (pc := 116) hC (by decide) dX12_findPresses_116 ?_
        obtain ⟨q12, hq12, h⟩ := zbd h
        refine zr_cVi (pc := 117) hC hEk [.int w1, .int ((M7.1 9 w1.toNatClampNeg) / (2 : Int32))] [.int w1, .ref (ad 24)] 0 2 (fun l D => tX12_pressing hEk hq12 l D) gX12_findPresses_X12_pressing rfl rfl rfl ⟨Nat.le_of_ble_eq_true rfl, Nat.le_of_ble_eq_true rfl⟩ hyX12_pressing (by decide) entM_0 rfl rfl rfl (Nat.le_of_ble_eq_true rfl) ⟨Nat.le_of_ble_eq_true rfl, Nat.le_of_ble_eq_true rfl⟩ dX12_findPresses_117 ?_
        refine zr_goto (pc := 120) (tgt := 129) hC dX12_findPresses_120 (by decide) ?_
        obtain ⟨M13, e14, h⟩ := zle h
        refine zms_24 (pc := 129) hC i3 e14 dX12_findPresses_129 ?_
        refine zr_iinc (pc := 130) (k := 1) (lv' := [(1, .int (w1 + (1 : Int32))), (0, .ref (ad 0))]) hC zki_1 (by decide) rfl rfl dX12_findPresses_130 ?_
        refine zr_goto (pc := 133) (tgt := 2) hC dX12_findPresses_133 (by decide) ?_
        obtain rfl := Option.some.inj h
        exact zV.sub (lv' := [(0, .ref (ad 0)), (1, .int (w1 + (1 : Int32)))]) [1, 0] rfl (hin M13 (w1 + (1 : Int32)) rfl)
    · replace h := zip h c4
      refine zr_aload_n (pc := 58) hC 0 rfl rfl dX12_findPresses_58 ?_
      refine zr_iload_n (pc := 59) hC 1 rfl rfl dX12_findPresses_59 ?_
      obtain ⟨q15, hq15, h⟩ := zbd h
      refine zr_cVv (pc := 60) hC hEk [.int w1] [] 0 1 (fun l D => tX12_findAlone hEk hq15 l D) gX12_findPresses_X12_findAlone rfl rfl rfl ⟨Nat.le_of_ble_eq_true rfl, Nat.le_of_ble_eq_true rfl⟩ hyX12_findAlone (by decide) entM_0 rfl rfl rfl (Nat.le_of_ble_eq_true rfl) ⟨Nat.le_of_ble_eq_true rfl, Nat.le_of_ble_eq_true rfl⟩ dX12_findPresses_60 ?_
      refine zr_aload_n (pc := 63) hC 0 rfl rfl dX12_findPresses_63 ?_
      refine zmg_27 (pc := 64) hC hinX12_findPresses_X12 flX12_findPresses_81 dX12_findPresses_64 ?_
      refine zr_iload_n (pc := 67) hC 1 rfl rfl dX12_findPresses_67 ?_
      refine zr_aload_n (pc := 68) hC 0 rfl rfl dX12_findPresses_68 ?_
      refine zmg_31 (pc := 69) hC hinX12_findPresses_X12 flX12_findPresses_212 dX12_findPresses_69 ?_
      obtain ⟨M16, e17, h⟩ := zle h
      refine zms_23 (pc := 72) hC i3 e17 dX12_findPresses_72 ?_
      refine zr_goto (pc := 73) (tgt := 92) hC dX12_findPresses_73 (by decide) ?_
      refine zr_aload_n (pc := 92) hC 0 rfl rfl dX12_findPresses_92 ?_
      refine zmg_28 (pc := 93) hC hinX12_findPresses_X12 flX12_findPresses_84 dX12_findPresses_93 ?_
      refine zr_iload_n (pc := 96) hC 1 rfl rfl dX12_findPresses_96 ?_
      refine zr_aload_n (pc := 97) hC 0 rfl rfl dX12_findPresses_97 ?_
      refine zmg_5 (pc := 98) hC hinX12_findPresses_X12 flX12_findPresses_25 dX12_findPresses_98 ?_
      refine zr_iload_n (pc := 101) hC 1 rfl rfl dX12_findPresses_101 ?_
      refine zml_6 (pc := 102) hC i3 dX12_findPresses_102 ?_
      refine zr_iconst (pc := 103) hC zki_3 dX12_findPresses_103 ?_
      refine zr_icmp_ne (pc := 104) (tgt := 123) hC dX12_findPresses_104 (by decide) (fun c18 => ?_) (fun c18 => ?_)
      · replace h := zin h c18
        refine zr_aload_n (pc := 123) hC 0 rfl rfl dX12_findPresses_123 ?_
        refine zmg_27 (pc := 124) hC hinX12_findPresses_X12 flX12_findPresses_81 dX12_findPresses_124 ?_
        refine zr_iload_n (pc := 127) hC 1 rfl rfl dX12_findPresses_127 ?_
        refine zml_23 (pc := 128) hC i3 dX12_findPresses_128 ?_
        obtain ⟨M19, e20, h⟩ := zle h
        refine zms_24 (pc := 129) hC i3 e20 dX12_findPresses_129 ?_
        refine zr_iinc (pc := 130) (k := 1) (lv' := [(1, .int (w1 + (1 : Int32))), (0, .ref (ad 0))]) hC zki_1 (by decide) rfl rfl dX12_findPresses_130 ?_
        refine zr_goto (pc := 133) (tgt := 2) hC dX12_findPresses_133 (by decide) ?_
        obtain rfl := Option.some.inj h
        exact zV.sub (lv' := [(0, .ref (ad 0)), (1, .int (w1 + (1 : Int32)))]) [1, 0] rfl (hin M19 (w1 + (1 : Int32)) rfl)
      · replace h := zip h c18
        refine zr_aload_n (pc := 107) hC 0 rfl rfl dX12_findPresses_107 ?_
        refine zr_iload_n (pc := 108) hC 1 rfl rfl dX12_findPresses_108 ?_
        refine zr_aload_n (pc := 109) hC 0 rfl rfl dX12_findPresses_109 ?_
        refine zmg_8 (pc := 110) hC hinX12_findPresses_X12 flX12_findPresses_34 dX12_findPresses_110 ?_
        refine zr_iload_n (pc := 113) hC 1 rfl rfl dX12_findPresses_113 ?_
        refine zml_9 (pc := 114) hC i3 dX12_findPresses_114 ?_
        refine zr_iconst (pc := 115) hC zki_2 dX12_findPresses_115 ?_
        refine zr_idiv (pc := 116) hC (by decide) dX12_findPresses_116 ?_
        obtain ⟨q21, hq21, h⟩ := zbd h
        refine zr_cVi (pc := 117) hC hEk [.int w1, .int ((M16.1 9 w1.toNatClampNeg) / (2 : Int32))] [.int w1, .ref (ad 24)] 0 2 (fun l D => tX12_pressing hEk hq21 l D) gX12_findPresses_X12_pressing rfl rfl rfl ⟨Nat.le_of_ble_eq_true rfl, Nat.le_of_ble_eq_true rfl⟩ hyX12_pressing (by decide) entM_0 rfl rfl rfl (Nat.le_of_ble_eq_true rfl) ⟨Nat.le_of_ble_eq_true rfl, Nat.le_of_ble_eq_true rfl⟩ dX12_findPresses_117 ?_
        refine zr_goto (pc := 120) (tgt := 129) hC dX12_findPresses_120 (by decide) ?_
        obtain ⟨M22, e23, h⟩ := zle h
        refine zms_24 (pc := 129) hC i3 e23 dX12_findPresses_129 ?_
        refine zr_iinc (pc := 130) (k := 1) (lv' := [(1, .int (w1 + (1 : Int32))), (0, .ref (ad 0))]) hC zki_1 (by decide) rfl rfl dX12_findPresses_130 ?_
        refine zr_goto (pc := 133) (tgt := 2) hC dX12_findPresses_133 (by decide) ?_
        obtain rfl := Option.some.inj h
        exact zV.sub (lv' := [(0, .ref (ad 0)), (1, .int (w1 + (1 : Int32)))]) [1, 0] rfl (hin M22 (w1 + (1 : Int32)) rfl)
def xX12_findPresses (M : zM)  : Option zM :=
  (x_it (fun a9 => xX12_findPresses_L2 a9.1 a9.2) zFU (M, (0 : Int32))).bind fun q1 =>
  some q1
set_option maxHeartbeats 4000000 in
set_option maxRecDepth 100000 in
theorem tX12_findPresses {κ : Nat → ClassId} {E : zEn} {ad : Nat → Nat} (hEk : zEk E) {M : zM}  {res : zM} (h : xX12_findPresses M  = some res) (l : Launch) (D : va_G) : zCT E D vwCl (zty κ) l yX12_findPresses wsX12_findPresses ({ frames := 3, cells := 0, slots := 0, locals := 73 } : Room) 0 0 [.ref (ad 0)] (zwM κ ad M) (zPd none (zwM κ ad res)) := by
  refine zCT.of (cc := cX12_findPresses) (maxL := 3) (ret := none) (by decide) rfl (Nat.le_of_ble_eq_true rfl) ?_
  intro X hC hR
  unfold xX12_findPresses at h
  refine zV.sub (lv' := [(0, .ref (ad 0))]) [0] rfl ?_
  refine zr_iconst (pc := 0) hC zki_0 dX12_findPresses_0 ?_
  refine zr_istore_n (pc := 1) (lv' := [(1, .int (0 : Int32)), (0, .ref (ad 0))]) hC rfl (by decide) rfl dX12_findPresses_1 ?_
  obtain ⟨q1, hq1, h⟩ := zbd h
  refine zV.sub (lv' := [(0, .ref (ad 0)), (1, .int (0 : Int32))]) [1, 0] rfl ?_
  refine zit2 (Wp := fun (y0 : zM) (y1 : Int32) => zV X 0 0 (zwM κ ad y0) [(0, .ref (ad 0)), (1, .int y1)] [] 2) (Ex := fun (b9 : zM) => zV X 0 0 (zwM κ ad b9) [] [] 136) (fun y0 y1 r9 hr hin hout => tX12_findPresses_L2 hC hEk hin (fun z0 e9 => hout z0 e9) hr) zFU M (0 : Int32) q1 hq1 ?_
  show zV X 0 0 (zwM κ ad q1) [] [] 136
  obtain rfl := Option.some.inj h
  exact zr_vret hC hR ⟨rfl, rfl⟩ (Nat.le_refl _) (Nat.le_refl _) dX12_findPresses_136
/-! X12_finds -/
theorem hyX12_finds : yX12_finds.cls = RX12 ∧ yX12_finds.cls ≠ "java/lang/invoke/MethodHandle" ∧ yX12_finds.cls ≠ "java/lang/invoke/VarHandle" ∧ (parseMethodDescriptor yX12_finds.desc).map (fun d => d.parameters.length) = some 0 := by decide +kernel
theorem hinX12_finds_X12 : ∀ w ∈ wsX120, w ∈ wsX12_finds := fun _ h => List.mem_cons_of_mem _ (List.mem_append_right _ h)
def xX12_finds (M : zM)  : Option zM :=
  (xX12_findShares M).bind fun q1 =>
  (xX12_findPresses q1).bind fun q2 =>
  some q2
set_option maxHeartbeats 4000000 in
set_option maxRecDepth 100000 in
theorem tX12_finds {κ : Nat → ClassId} {E : zEn} {ad : Nat → Nat} (hEk : zEk E) {M : zM}  {res : zM} (h : xX12_finds M  = some res) (l : Launch) (D : va_G) : zCT E D vwCl (zty κ) l yX12_finds wsX12_finds ({ frames := 4, cells := 0, slots := 0, locals := 95 } : Room) 0 0 [.ref (ad 0)] (zwM κ ad M) (zPd none (zwM κ ad res)) := by
  refine zCT.of (cc := cX12_finds) (maxL := 1) (ret := none) (by decide) rfl (Nat.le_of_ble_eq_true rfl) ?_
  intro X hC hR
  unfold xX12_finds at h
  refine zV.sub (lv' := [(0, .ref (ad 0))]) [0] rfl ?_
  refine zr_aload_n (pc := 0) hC 0 rfl rfl dX12_finds_0 ?_
  obtain ⟨q1, hq1, h⟩ := zbd h
  refine zr_cVv (pc := 1) hC hEk [] [] 0 0 (fun l D => tX12_findShares hEk hq1 l D) gX12_finds_X12_findShares rfl rfl rfl ⟨Nat.le_of_ble_eq_true rfl, Nat.le_of_ble_eq_true rfl⟩ hyX12_findShares (by decide) entM_0 rfl rfl rfl (Nat.le_of_ble_eq_true rfl) ⟨Nat.le_of_ble_eq_true rfl, Nat.le_of_ble_eq_true rfl⟩ dX12_finds_1 ?_
  refine zr_aload_n (pc := 4) hC 0 rfl rfl dX12_finds_4 ?_
  obtain ⟨q2, hq2, h⟩ := zbd h
  refine zr_cVv (pc := 5) hC hEk [] [] 0 0 (fun l D => tX12_findPresses hEk hq2 l D) gX12_finds_X12_findPresses rfl rfl rfl ⟨Nat.le_of_ble_eq_true rfl, Nat.le_of_ble_eq_true rfl⟩ hyX12_findPresses (by decide) entM_0 rfl rfl rfl (Nat.le_of_ble_eq_true rfl) ⟨Nat.le_of_ble_eq_true rfl, Nat.le_of_ble_eq_true rfl⟩ dX12_finds_5 ?_
  obtain rfl := Option.some.inj h
  exact zr_vret hC hR ⟨rfl, rfl⟩ (Nat.le_refl _) (Nat.le_refl _) dX12_finds_8
/-! X12_inLeast -/
theorem hyX12_inLeast : yX12_inLeast.cls ≠ "java/lang/invoke/MethodHandle" ∧ yX12_inLeast.cls ≠ "java/lang/invoke/VarHandle" ∧ (parseMethodDescriptor yX12_inLeast.desc).map (fun d => d.parameters.length) = some 3 := by decide +kernel
def xX12_inLeast  (v0 : Int64) (v2 : Int64) (v4 : Int32) : Option Int64 :=
  if 0 ≤ (lg_cmp v0 (0 : Int64)) then
  ((xX12_divisor v0 v2).bind fun q2 =>
  if v4 = 0 then
  (if q2 = 0 then none else
  some (v0 / q2))
  else
  if q2 = 0 then none else
  some (v2 / q2))
  else
  (xX12_divisor (-v0) v2).bind fun q6 =>
  if v4 = 0 then
  (if q6 = 0 then none else
  some (v0 / q6))
  else
  if q6 = 0 then none else
  some (v2 / q6)
set_option maxHeartbeats 4000000 in
set_option maxRecDepth 100000 in
theorem tX12_inLeast {κ : Nat → ClassId} {E : zEn} {ws : va_W} (hEk : zEk E)  {v0 : Int64} {v2 : Int64} {v4 : Int32} {res : Int64} (h : xX12_inLeast  v0 v2 v4 = some res) (l : Launch) (D : va_G) : zCT E D vwCl (zty κ) l yX12_inLeast wsX12_inLeast ({ frames := 1, cells := 0, slots := 0, locals := 29 } : Room) 0 0 [.long v0, .long v2, .int v4] ws (zPd (some (.long res)) ws) := by
  refine zCT.of (cc := cX12_inLeast) (maxL := 7) (ret := (some .long)) (by decide) rfl (Nat.le_of_ble_eq_true rfl) ?_
  intro X hC hR
  unfold xX12_inLeast at h
  refine zV.sub (lv' := [(0, .long v0), (2, .long v2), (4, .int v4)]) [0, 1, 2] rfl ?_
  refine zr_lload_n (pc := 0) hC 0 rfl rfl dX12_inLeast_0 ?_
  refine zr_lconst (pc := 1) hC zkl_0 dX12_inLeast_1 ?_
  refine zr_lcmp (pc := 2) hC dX12_inLeast_2 ?_
  refine zr_if_ge (pc := 3) (tgt := 11) hC dX12_inLeast_3 (by decide) (fun c1 => ?_) (fun c1 => ?_)
  · replace h := zip h c1
    refine zr_lload_n (pc := 11) hC 0 rfl rfl dX12_inLeast_11 ?_
    refine zr_lload_n (pc := 12) hC 1 rfl rfl dX12_inLeast_12 ?_
    obtain ⟨q2, hq2, h⟩ := zbd h
    refine zr_cSl (pc := 13) hC hEk [.long v0, .long v2] [] 2 (fun l D => tX12_divisor hEk hq2 l D) gX12_inLeast_X12_divisor rfl rfl rfl ⟨Nat.le_of_ble_eq_true rfl, Nat.le_of_ble_eq_true rfl⟩ hyX12_divisor rfl rfl (Nat.le_of_ble_eq_true rfl) ⟨Nat.le_of_ble_eq_true rfl, Nat.le_of_ble_eq_true rfl⟩ dX12_inLeast_13 ?_
    refine zr_lstore (pc := 16) (lv' := [(5, .long q2), (0, .long v0), (2, .long v2), (4, .int v4)]) hC (by decide) rfl dX12_inLeast_16 ?_
    refine zr_iload (pc := 18) hC 3 rfl dX12_inLeast_18 ?_
    refine zr_if_ne (pc := 20) (tgt := 27) hC dX12_inLeast_20 (by decide) (fun c3 => ?_) (fun c3 => ?_)
    · replace h := zin h c3
      refine zr_lload_n (pc := 27) hC 2 rfl rfl dX12_inLeast_27 ?_
      refine zr_lload (pc := 28) hC 0 rfl dX12_inLeast_28 ?_
      obtain ⟨n4, h⟩ := zgd h
      refine zr_ldiv (pc := 30) hC n4 dX12_inLeast_30 ?_
      obtain rfl := Option.some.inj h
      exact zr_lret hC hR ⟨rfl, rfl⟩ (Nat.le_refl _) (Nat.le_refl _) dX12_inLeast_31
    · replace h := zip h c3
      refine zr_lload_n (pc := 23) hC 1 rfl rfl dX12_inLeast_23 ?_
      refine zr_goto (pc := 24) (tgt := 28) hC dX12_inLeast_24 (by decide) ?_
      refine zr_lload (pc := 28) hC 0 rfl dX12_inLeast_28 ?_
      obtain ⟨n5, h⟩ := zgd h
      refine zr_ldiv (pc := 30) hC n5 dX12_inLeast_30 ?_
      obtain rfl := Option.some.inj h
      exact zr_lret hC hR ⟨rfl, rfl⟩ (Nat.le_refl _) (Nat.le_refl _) dX12_inLeast_31
  · replace h := zin h c1
    refine zr_lload_n (pc := 6) hC 0 rfl rfl dX12_inLeast_6 ?_
    refine zr_lneg (pc := 7) hC dX12_inLeast_7 ?_
    refine zr_goto (pc := 8) (tgt := 12) hC dX12_inLeast_8 (by decide) ?_
    refine zr_lload_n (pc := 12) hC 1 rfl rfl dX12_inLeast_12 ?_
    obtain ⟨q6, hq6, h⟩ := zbd h
    refine zr_cSl (pc := 13) hC hEk [.long (-v0), .long v2] [] 2 (fun l D => tX12_divisor hEk hq6 l D) gX12_inLeast_X12_divisor rfl rfl rfl ⟨Nat.le_of_ble_eq_true rfl, Nat.le_of_ble_eq_true rfl⟩ hyX12_divisor rfl rfl (Nat.le_of_ble_eq_true rfl) ⟨Nat.le_of_ble_eq_true rfl, Nat.le_of_ble_eq_true rfl⟩ dX12_inLeast_13 ?_
    refine zr_lstore (pc := 16) (lv' := [(5, .long q6), (0, .long v0), (2, .long v2), (4, .int v4)]) hC (by decide) rfl dX12_inLeast_16 ?_
    refine zr_iload (pc := 18) hC 3 rfl dX12_inLeast_18 ?_
    refine zr_if_ne (pc := 20) (tgt := 27) hC dX12_inLeast_20 (by decide) (fun c7 => ?_) (fun c7 => ?_)
    · replace h := zin h c7
      refine zr_lload_n (pc := 27) hC 2 rfl rfl dX12_inLeast_27 ?_
      refine zr_lload (pc := 28) hC 0 rfl dX12_inLeast_28 ?_
      obtain ⟨n8, h⟩ := zgd h
      refine zr_ldiv (pc := 30) hC n8 dX12_inLeast_30 ?_
      obtain rfl := Option.some.inj h
      exact zr_lret hC hR ⟨rfl, rfl⟩ (Nat.le_refl _) (Nat.le_refl _) dX12_inLeast_31
    · replace h := zip h c7
      refine zr_lload_n (pc := 23) hC 1 rfl rfl dX12_inLeast_23 ?_
      refine zr_goto (pc := 24) (tgt := 28) hC dX12_inLeast_24 (by decide) ?_
      refine zr_lload (pc := 28) hC 0 rfl dX12_inLeast_28 ?_
      obtain ⟨n9, h⟩ := zgd h
      refine zr_ldiv (pc := 30) hC n9 dX12_inLeast_30 ?_
      obtain rfl := Option.some.inj h
      exact zr_lret hC hR ⟨rfl, rfl⟩ (Nat.le_refl _) (Nat.le_refl _) dX12_inLeast_31
/-! X12_chance -/
theorem hyX12_chance : yX12_chance.cls = RX12 ∧ yX12_chance.cls ≠ "java/lang/invoke/MethodHandle" ∧ yX12_chance.cls ≠ "java/lang/invoke/VarHandle" ∧ (parseMethodDescriptor yX12_chance.desc).map (fun d => d.parameters.length) = some 3 := by decide +kernel
theorem flX12_chance_71 : Cond.fieldLink RX12 71 "BeforeTheEndModel" "share" "[J" ∈ wsX12_chance := by decide +kernel
theorem flX12_chance_75 : Cond.fieldLink RX12 75 "BeforeTheEndModel" "ofAnswer" "[J" ∈ wsX12_chance := by decide +kernel
theorem hinX12_chance_X12 : ∀ w ∈ wsX120, w ∈ wsX12_chance := fun _ h => List.mem_cons_of_mem _ (List.mem_append_right _ h)
def xX12_chance (M : zM) (v1 : Int32) (v2 : Int32) (v3 : Int32) : Option (Int64 × zM) :=
  (xX12_isWord M v1).bind fun q1 =>
  if q1 = 0 then
  ((xX12_noLong M (-1 : Int32)).bind fun q3 =>
  some (q3.1, q3.2))
  else
  (xX12_isIn v2 (1 : Int32) (9 : Int32)).bind fun q4 =>
  if q4 = 0 then
  ((xX12_noLong M (-1 : Int32)).bind fun q16 =>
  some (q16.1, q16.2))
  else
  (xX12_isIn v3 (0 : Int32) (1 : Int32)).bind fun q6 =>
  if q6 = 0 then
  ((xX12_noLong M (-2 : Int32)).bind fun q15 =>
  some (q15.1, q15.2))
  else
  (xX12_isWhole M).bind fun q8 =>
  if q8 = 0 then
  ((xX12_noLong M (-3 : Int32)).bind fun q14 =>
  some (q14.1, q14.2))
  else
  (xX12_findShares M).bind fun q10 =>
  if ((((10 : Int32) * v1) + v2) < 0 ∨ 240 ≤ (((10 : Int32) * v1) + v2).toNatClampNeg) then none else
  if (v1 < 0 ∨ 24 ≤ v1.toNatClampNeg) then none else
  (xX12_inLeast (q10.2 21 (((10 : Int32) * v1) + v2).toNatClampNeg) (q10.2 20 v1.toNatClampNeg) v3).bind fun q13 =>
  some (q13, q10)
set_option maxHeartbeats 4000000 in
set_option maxRecDepth 100000 in
theorem tX12_chance {κ : Nat → ClassId} {E : zEn} {ad : Nat → Nat} (hEk : zEk E) {M : zM} {v1 : Int32} {v2 : Int32} {v3 : Int32} {res : (Int64 × zM)} (h : xX12_chance M v1 v2 v3 = some res) (l : Launch) (D : va_G) : zCT E D vwCl (zty κ) l yX12_chance wsX12_chance ({ frames := 3, cells := 0, slots := 0, locals := 74 } : Room) 0 0 [.ref (ad 0), .int v1, .int v2, .int v3] (zwM κ ad M) (zPd (some (.long res.1)) (zwM κ ad res.2)) := by
  refine zCT.of (cc := cX12_chance) (maxL := 4) (ret := (some .long)) (by decide) rfl (Nat.le_of_ble_eq_true rfl) ?_
  intro X hC hR
  unfold xX12_chance at h
  refine zV.sub (lv' := [(0, .ref (ad 0)), (1, .int v1), (2, .int v2), (3, .int v3)]) [0, 1, 2, 3] rfl ?_
  refine zr_aload_n (pc := 0) hC 0 rfl rfl dX12_chance_0 ?_
  refine zr_iload_n (pc := 1) hC 1 rfl rfl dX12_chance_1 ?_
  obtain ⟨q1, hq1, h⟩ := zbd h
  refine zr_cVi (pc := 2) hC hEk [.int v1] [] 0 1 (fun l D => tX12_isWord hEk hq1 l D) gX12_chance_X12_isWord rfl rfl rfl ⟨Nat.le_of_ble_eq_true rfl, Nat.le_of_ble_eq_true rfl⟩ hyX12_isWord (by decide) entM_0 rfl rfl rfl (Nat.le_of_ble_eq_true rfl) ⟨Nat.le_of_ble_eq_true rfl, Nat.le_of_ble_eq_true rfl⟩ dX12_chance_2 ?_
  refine zr_if_eq (pc := 5) (tgt := 18) hC dX12_chance_5 (by decide) (fun c2 => ?_) (fun c2 => ?_)
  · replace h := zip h c2
    refine zr_aload_n (pc := 18) hC 0 rfl rfl dX12_chance_18 ?_
    refine zr_iconst (pc := 19) hC zki_m1 dX12_chance_19 ?_
    obtain ⟨q3, hq3, h⟩ := zbd h
    refine zr_cVl (pc := 20) hC hEk [.int (-1 : Int32)] [] 0 1 (fun l D => tX12_noLong hEk hq3 l D) gX12_chance_X12_noLong rfl rfl rfl ⟨Nat.le_of_ble_eq_true rfl, Nat.le_of_ble_eq_true rfl⟩ hyX12_noLong (by decide) entM_0 rfl rfl rfl (Nat.le_of_ble_eq_true rfl) ⟨Nat.le_of_ble_eq_true rfl, Nat.le_of_ble_eq_true rfl⟩ dX12_chance_20 ?_
    obtain rfl := Option.some.inj h
    exact zr_lret hC hR ⟨rfl, rfl⟩ (Nat.le_refl _) (Nat.le_refl _) dX12_chance_23
  · replace h := zin h c2
    refine zr_iload_n (pc := 8) hC 2 rfl rfl dX12_chance_8 ?_
    refine zr_iconst (pc := 9) hC zki_1 dX12_chance_9 ?_
    refine zr_bipush (pc := 10) hC zkb_9 dX12_chance_10 ?_
    obtain ⟨q4, hq4, h⟩ := zbd h
    refine zr_cSi (pc := 12) hC hEk [.int v2, .int (1 : Int32), .int (9 : Int32)] [] 3 (fun l D => tX12_isIn hEk hq4 l D) gX12_chance_X12_isIn rfl rfl rfl ⟨Nat.le_of_ble_eq_true rfl, Nat.le_of_ble_eq_true rfl⟩ hyX12_isIn rfl rfl (Nat.le_of_ble_eq_true rfl) ⟨Nat.le_of_ble_eq_true rfl, Nat.le_of_ble_eq_true rfl⟩ dX12_chance_12 ?_
    refine zr_if_ne (pc := 15) (tgt := 24) hC dX12_chance_15 (by decide) (fun c5 => ?_) (fun c5 => ?_)
    · replace h := zin h c5
      refine zr_iload_n (pc := 24) hC 3 rfl rfl dX12_chance_24 ?_
      refine zr_iconst (pc := 25) hC zki_0 dX12_chance_25 ?_
      refine zr_iconst (pc := 26) hC zki_1 dX12_chance_26 ?_
      obtain ⟨q6, hq6, h⟩ := zbd h
      refine zr_cSi (pc := 27) hC hEk [.int v3, .int (0 : Int32), .int (1 : Int32)] [] 3 (fun l D => tX12_isIn hEk hq6 l D) gX12_chance_X12_isIn rfl rfl rfl ⟨Nat.le_of_ble_eq_true rfl, Nat.le_of_ble_eq_true rfl⟩ hyX12_isIn rfl rfl (Nat.le_of_ble_eq_true rfl) ⟨Nat.le_of_ble_eq_true rfl, Nat.le_of_ble_eq_true rfl⟩ dX12_chance_27 ?_
      refine zr_if_ne (pc := 30) (tgt := 40) hC dX12_chance_30 (by decide) (fun c7 => ?_) (fun c7 => ?_)
      · replace h := zin h c7
        refine zr_aload_n (pc := 40) hC 0 rfl rfl dX12_chance_40 ?_
        obtain ⟨q8, hq8, h⟩ := zbd h
        refine zr_cVi (pc := 41) hC hEk [] [] 0 0 (fun l D => tX12_isWhole hEk hq8 l D) gX12_chance_X12_isWhole rfl rfl rfl ⟨Nat.le_of_ble_eq_true rfl, Nat.le_of_ble_eq_true rfl⟩ hyX12_isWhole (by decide) entM_0 rfl rfl rfl (Nat.le_of_ble_eq_true rfl) ⟨Nat.le_of_ble_eq_true rfl, Nat.le_of_ble_eq_true rfl⟩ dX12_chance_41 ?_
        refine zr_if_ne (pc := 44) (tgt := 54) hC dX12_chance_44 (by decide) (fun c9 => ?_) (fun c9 => ?_)
        · replace h := zin h c9
          refine zr_aload_n (pc := 54) hC 0 rfl rfl dX12_chance_54 ?_
          obtain ⟨q10, hq10, h⟩ := zbd h
          refine zr_cVv (pc := 55) hC hEk [] [] 0 0 (fun l D => tX12_findShares hEk hq10 l D) gX12_chance_X12_findShares rfl rfl rfl ⟨Nat.le_of_ble_eq_true rfl, Nat.le_of_ble_eq_true rfl⟩ hyX12_findShares (by decide) entM_0 rfl rfl rfl (Nat.le_of_ble_eq_true rfl) ⟨Nat.le_of_ble_eq_true rfl, Nat.le_of_ble_eq_true rfl⟩ dX12_chance_55 ?_
          refine zr_aload_n (pc := 58) hC 0 rfl rfl dX12_chance_58 ?_
          refine zmg_25 (pc := 59) hC hinX12_chance_X12 flX12_chance_75 dX12_chance_59 ?_
          refine zr_bipush (pc := 62) hC zkb_10 dX12_chance_62 ?_
          refine zr_iload_n (pc := 64) hC 1 rfl rfl dX12_chance_64 ?_
          refine zr_imul (pc := 65) hC dX12_chance_65 ?_
          refine zr_iload_n (pc := 66) hC 2 rfl rfl dX12_chance_66 ?_
          refine zr_iadd (pc := 67) hC dX12_chance_67 ?_
          obtain ⟨i11, h⟩ := zgd h
          refine zml_21 (pc := 68) hC i11 dX12_chance_68 ?_
          refine zr_aload_n (pc := 69) hC 0 rfl rfl dX12_chance_69 ?_
          refine zmg_24 (pc := 70) hC hinX12_chance_X12 flX12_chance_71 dX12_chance_70 ?_
          refine zr_iload_n (pc := 73) hC 1 rfl rfl dX12_chance_73 ?_
          obtain ⟨i12, h⟩ := zgd h
          refine zml_20 (pc := 74) hC i12 dX12_chance_74 ?_
          refine zr_iload_n (pc := 75) hC 3 rfl rfl dX12_chance_75 ?_
          obtain ⟨q13, hq13, h⟩ := zbd h
          refine zr_cSl (pc := 76) hC hEk [.long (q10.2 21 (((10 : Int32) * v1) + v2).toNatClampNeg), .long (q10.2 20 v1.toNatClampNeg), .int v3] [] 3 (fun l D => tX12_inLeast hEk hq13 l D) gX12_chance_X12_inLeast rfl rfl rfl ⟨Nat.le_of_ble_eq_true rfl, Nat.le_of_ble_eq_true rfl⟩ hyX12_inLeast rfl rfl (Nat.le_of_ble_eq_true rfl) ⟨Nat.le_of_ble_eq_true rfl, Nat.le_of_ble_eq_true rfl⟩ dX12_chance_76 ?_
          obtain rfl := Option.some.inj h
          exact zr_lret hC hR ⟨rfl, rfl⟩ (Nat.le_refl _) (Nat.le_refl _) dX12_chance_79
        · replace h := zip h c9
          refine zr_aload_n (pc := 47) hC 0 rfl rfl dX12_chance_47 ?_
          refine zr_bipush (pc := 48) hC zkb_m3 dX12_chance_48 ?_
          obtain ⟨q14, hq14, h⟩ := zbd h
          refine zr_cVl (pc := 50) hC hEk [.int (-3 : Int32)] [] 0 1 (fun l D => tX12_noLong hEk hq14 l D) gX12_chance_X12_noLong rfl rfl rfl ⟨Nat.le_of_ble_eq_true rfl, Nat.le_of_ble_eq_true rfl⟩ hyX12_noLong (by decide) entM_0 rfl rfl rfl (Nat.le_of_ble_eq_true rfl) ⟨Nat.le_of_ble_eq_true rfl, Nat.le_of_ble_eq_true rfl⟩ dX12_chance_50 ?_
          obtain rfl := Option.some.inj h
          exact zr_lret hC hR ⟨rfl, rfl⟩ (Nat.le_refl _) (Nat.le_refl _) dX12_chance_53
      · replace h := zip h c7
        refine zr_aload_n (pc := 33) hC 0 rfl rfl dX12_chance_33 ?_
        refine zr_bipush (pc := 34) hC zkb_m2 dX12_chance_34 ?_
        obtain ⟨q15, hq15, h⟩ := zbd h
        refine zr_cVl (pc := 36) hC hEk [.int (-2 : Int32)] [] 0 1 (fun l D => tX12_noLong hEk hq15 l D) gX12_chance_X12_noLong rfl rfl rfl ⟨Nat.le_of_ble_eq_true rfl, Nat.le_of_ble_eq_true rfl⟩ hyX12_noLong (by decide) entM_0 rfl rfl rfl (Nat.le_of_ble_eq_true rfl) ⟨Nat.le_of_ble_eq_true rfl, Nat.le_of_ble_eq_true rfl⟩ dX12_chance_36 ?_
        obtain rfl := Option.some.inj h
        exact zr_lret hC hR ⟨rfl, rfl⟩ (Nat.le_refl _) (Nat.le_refl _) dX12_chance_39
    · replace h := zip h c5
      refine zr_aload_n (pc := 18) hC 0 rfl rfl dX12_chance_18 ?_
      refine zr_iconst (pc := 19) hC zki_m1 dX12_chance_19 ?_
      obtain ⟨q16, hq16, h⟩ := zbd h
      refine zr_cVl (pc := 20) hC hEk [.int (-1 : Int32)] [] 0 1 (fun l D => tX12_noLong hEk hq16 l D) gX12_chance_X12_noLong rfl rfl rfl ⟨Nat.le_of_ble_eq_true rfl, Nat.le_of_ble_eq_true rfl⟩ hyX12_noLong (by decide) entM_0 rfl rfl rfl (Nat.le_of_ble_eq_true rfl) ⟨Nat.le_of_ble_eq_true rfl, Nat.le_of_ble_eq_true rfl⟩ dX12_chance_20 ?_
      obtain rfl := Option.some.inj h
      exact zr_lret hC hR ⟨rfl, rfl⟩ (Nat.le_refl _) (Nat.le_refl _) dX12_chance_23
/-! X12_guess -/
theorem hyX12_guess : yX12_guess.cls = RX12 ∧ yX12_guess.cls ≠ "java/lang/invoke/MethodHandle" ∧ yX12_guess.cls ≠ "java/lang/invoke/VarHandle" ∧ (parseMethodDescriptor yX12_guess.desc).map (fun d => d.parameters.length) = some 2 := by decide +kernel
theorem flX12_guess_28 : Cond.fieldLink RX12 28 "BeforeTheEndModel" "knows" "[I" ∈ wsX12_guess := by decide +kernel
theorem hinX12_guess_X12 : ∀ w ∈ wsX120, w ∈ wsX12_guess := fun _ h => List.mem_cons_of_mem _ (List.mem_append_right _ h)
def xX12_guess (M : zM) (v1 : Int32) (v2 : Int32) : Option (Int32 × zM) :=
  (xX12_isPlayer M v1).bind fun q1 =>
  if q1 = 0 then
  ((xX12_no M (-1 : Int32)).bind fun q3 =>
  some (q3.1, q3.2))
  else
  (xX12_isWord M v2).bind fun q4 =>
  if q4 = 0 then
  ((xX12_no M (-1 : Int32)).bind fun q12 =>
  some (q12.1, q12.2))
  else
  (xX12_isWhole M).bind fun q6 =>
  if q6 = 0 then
  ((xX12_no M (-3 : Int32)).bind fun q11 =>
  some (q11.1, q11.2))
  else
  (xX12_findShares M).bind fun q8 =>
  if (v1 < 0 ∨ 4 ≤ v1.toNatClampNeg) then none else
  (xX12_guessOf q8 (q8.1 7 v1.toNatClampNeg) v2).bind fun q10 =>
  some (q10, q8)
set_option maxHeartbeats 4000000 in
set_option maxRecDepth 100000 in
theorem tX12_guess {κ : Nat → ClassId} {E : zEn} {ad : Nat → Nat} (hEk : zEk E) {M : zM} {v1 : Int32} {v2 : Int32} {res : (Int32 × zM)} (h : xX12_guess M v1 v2 = some res) (l : Launch) (D : va_G) : zCT E D vwCl (zty κ) l yX12_guess wsX12_guess ({ frames := 3, cells := 0, slots := 0, locals := 74 } : Room) 0 0 [.ref (ad 0), .int v1, .int v2] (zwM κ ad M) (zPd (some (.int res.1)) (zwM κ ad res.2)) := by
  refine zCT.of (cc := cX12_guess) (maxL := 3) (ret := (some .int)) (by decide) rfl (Nat.le_of_ble_eq_true rfl) ?_
  intro X hC hR
  unfold xX12_guess at h
  refine zV.sub (lv' := [(0, .ref (ad 0)), (1, .int v1), (2, .int v2)]) [0, 1, 2] rfl ?_
  refine zr_aload_n (pc := 0) hC 0 rfl rfl dX12_guess_0 ?_
  refine zr_iload_n (pc := 1) hC 1 rfl rfl dX12_guess_1 ?_
  obtain ⟨q1, hq1, h⟩ := zbd h
  refine zr_cVi (pc := 2) hC hEk [.int v1] [] 0 1 (fun l D => tX12_isPlayer hEk hq1 l D) gX12_guess_X12_isPlayer rfl rfl rfl ⟨Nat.le_of_ble_eq_true rfl, Nat.le_of_ble_eq_true rfl⟩ hyX12_isPlayer (by decide) entM_0 rfl rfl rfl (Nat.le_of_ble_eq_true rfl) ⟨Nat.le_of_ble_eq_true rfl, Nat.le_of_ble_eq_true rfl⟩ dX12_guess_2 ?_
  refine zr_if_eq (pc := 5) (tgt := 16) hC dX12_guess_5 (by decide) (fun c2 => ?_) (fun c2 => ?_)
  · replace h := zip h c2
    refine zr_aload_n (pc := 16) hC 0 rfl rfl dX12_guess_16 ?_
    refine zr_iconst (pc := 17) hC zki_m1 dX12_guess_17 ?_
    obtain ⟨q3, hq3, h⟩ := zbd h
    refine zr_cVi (pc := 18) hC hEk [.int (-1 : Int32)] [] 0 1 (fun l D => tX12_no hEk hq3 l D) gX12_guess_X12_no rfl rfl rfl ⟨Nat.le_of_ble_eq_true rfl, Nat.le_of_ble_eq_true rfl⟩ hyX12_no (by decide) entM_0 rfl rfl rfl (Nat.le_of_ble_eq_true rfl) ⟨Nat.le_of_ble_eq_true rfl, Nat.le_of_ble_eq_true rfl⟩ dX12_guess_18 ?_
    obtain rfl := Option.some.inj h
    exact zr_iret hC hR ⟨rfl, rfl⟩ (Nat.le_refl _) (Nat.le_refl _) dX12_guess_21
  · replace h := zin h c2
    refine zr_aload_n (pc := 8) hC 0 rfl rfl dX12_guess_8 ?_
    refine zr_iload_n (pc := 9) hC 2 rfl rfl dX12_guess_9 ?_
    obtain ⟨q4, hq4, h⟩ := zbd h
    refine zr_cVi (pc := 10) hC hEk [.int v2] [] 0 1 (fun l D => tX12_isWord hEk hq4 l D) gX12_guess_X12_isWord rfl rfl rfl ⟨Nat.le_of_ble_eq_true rfl, Nat.le_of_ble_eq_true rfl⟩ hyX12_isWord (by decide) entM_0 rfl rfl rfl (Nat.le_of_ble_eq_true rfl) ⟨Nat.le_of_ble_eq_true rfl, Nat.le_of_ble_eq_true rfl⟩ dX12_guess_10 ?_
    refine zr_if_ne (pc := 13) (tgt := 22) hC dX12_guess_13 (by decide) (fun c5 => ?_) (fun c5 => ?_)
    · replace h := zin h c5
      refine zr_aload_n (pc := 22) hC 0 rfl rfl dX12_guess_22 ?_
      obtain ⟨q6, hq6, h⟩ := zbd h
      refine zr_cVi (pc := 23) hC hEk [] [] 0 0 (fun l D => tX12_isWhole hEk hq6 l D) gX12_guess_X12_isWhole rfl rfl rfl ⟨Nat.le_of_ble_eq_true rfl, Nat.le_of_ble_eq_true rfl⟩ hyX12_isWhole (by decide) entM_0 rfl rfl rfl (Nat.le_of_ble_eq_true rfl) ⟨Nat.le_of_ble_eq_true rfl, Nat.le_of_ble_eq_true rfl⟩ dX12_guess_23 ?_
      refine zr_if_ne (pc := 26) (tgt := 36) hC dX12_guess_26 (by decide) (fun c7 => ?_) (fun c7 => ?_)
      · replace h := zin h c7
        refine zr_aload_n (pc := 36) hC 0 rfl rfl dX12_guess_36 ?_
        obtain ⟨q8, hq8, h⟩ := zbd h
        refine zr_cVv (pc := 37) hC hEk [] [] 0 0 (fun l D => tX12_findShares hEk hq8 l D) gX12_guess_X12_findShares rfl rfl rfl ⟨Nat.le_of_ble_eq_true rfl, Nat.le_of_ble_eq_true rfl⟩ hyX12_findShares (by decide) entM_0 rfl rfl rfl (Nat.le_of_ble_eq_true rfl) ⟨Nat.le_of_ble_eq_true rfl, Nat.le_of_ble_eq_true rfl⟩ dX12_guess_37 ?_
        refine zr_aload_n (pc := 40) hC 0 rfl rfl dX12_guess_40 ?_
        refine zr_aload_n (pc := 41) hC 0 rfl rfl dX12_guess_41 ?_
        refine zmg_6 (pc := 42) hC hinX12_guess_X12 flX12_guess_28 dX12_guess_42 ?_
        refine zr_iload_n (pc := 45) hC 1 rfl rfl dX12_guess_45 ?_
        obtain ⟨i9, h⟩ := zgd h
        refine zml_7 (pc := 46) hC i9 dX12_guess_46 ?_
        refine zr_iload_n (pc := 47) hC 2 rfl rfl dX12_guess_47 ?_
        obtain ⟨q10, hq10, h⟩ := zbd h
        refine zr_cVi (pc := 48) hC hEk [.int (q8.1 7 v1.toNatClampNeg), .int v2] [] 0 2 (fun l D => tX12_guessOf hEk hq10 l D) gX12_guess_X12_guessOf rfl rfl rfl ⟨Nat.le_of_ble_eq_true rfl, Nat.le_of_ble_eq_true rfl⟩ hyX12_guessOf (by decide) entM_0 rfl rfl rfl (Nat.le_of_ble_eq_true rfl) ⟨Nat.le_of_ble_eq_true rfl, Nat.le_of_ble_eq_true rfl⟩ dX12_guess_48 ?_
        obtain rfl := Option.some.inj h
        exact zr_iret hC hR ⟨rfl, rfl⟩ (Nat.le_refl _) (Nat.le_refl _) dX12_guess_51
      · replace h := zip h c7
        refine zr_aload_n (pc := 29) hC 0 rfl rfl dX12_guess_29 ?_
        refine zr_bipush (pc := 30) hC zkb_m3 dX12_guess_30 ?_
        obtain ⟨q11, hq11, h⟩ := zbd h
        refine zr_cVi (pc := 32) hC hEk [.int (-3 : Int32)] [] 0 1 (fun l D => tX12_no hEk hq11 l D) gX12_guess_X12_no rfl rfl rfl ⟨Nat.le_of_ble_eq_true rfl, Nat.le_of_ble_eq_true rfl⟩ hyX12_no (by decide) entM_0 rfl rfl rfl (Nat.le_of_ble_eq_true rfl) ⟨Nat.le_of_ble_eq_true rfl, Nat.le_of_ble_eq_true rfl⟩ dX12_guess_32 ?_
        obtain rfl := Option.some.inj h
        exact zr_iret hC hR ⟨rfl, rfl⟩ (Nat.le_refl _) (Nat.le_refl _) dX12_guess_35
    · replace h := zip h c5
      refine zr_aload_n (pc := 16) hC 0 rfl rfl dX12_guess_16 ?_
      refine zr_iconst (pc := 17) hC zki_m1 dX12_guess_17 ?_
      obtain ⟨q12, hq12, h⟩ := zbd h
      refine zr_cVi (pc := 18) hC hEk [.int (-1 : Int32)] [] 0 1 (fun l D => tX12_no hEk hq12 l D) gX12_guess_X12_no rfl rfl rfl ⟨Nat.le_of_ble_eq_true rfl, Nat.le_of_ble_eq_true rfl⟩ hyX12_no (by decide) entM_0 rfl rfl rfl (Nat.le_of_ble_eq_true rfl) ⟨Nat.le_of_ble_eq_true rfl, Nat.le_of_ble_eq_true rfl⟩ dX12_guess_18 ?_
      obtain rfl := Option.some.inj h
      exact zr_iret hC hR ⟨rfl, rfl⟩ (Nat.le_refl _) (Nat.le_refl _) dX12_guess_21
/-! X12_points -/
theorem hyX12_points : yX12_points.cls = RX12 ∧ yX12_points.cls ≠ "java/lang/invoke/MethodHandle" ∧ yX12_points.cls ≠ "java/lang/invoke/VarHandle" ∧ (parseMethodDescriptor yX12_points.desc).map (fun d => d.parameters.length) = some 2 := by decide +kernel
theorem flX12_points_40 : Cond.fieldLink RX12 40 "BeforeTheEndModel" "points" "[I" ∈ wsX12_points := by decide +kernel
theorem flX12_points_43 : Cond.fieldLink RX12 43 "BeforeTheEndModel" "most" "[I" ∈ wsX12_points := by decide +kernel
theorem hinX12_points_X12 : ∀ w ∈ wsX120, w ∈ wsX12_points := fun _ h => List.mem_cons_of_mem _ (List.mem_append_right _ h)
def xX12_points (M : zM) (v1 : Int32) (v2 : Int32) : Option (Int32 × zM) :=
  (xX12_isIn v1 (0 : Int32) (3 : Int32)).bind fun q1 =>
  if q1 = 0 then
  ((xX12_no M (-2 : Int32)).bind fun q11 =>
  some (q11.1, q11.2))
  else
  if (v1 < 0 ∨ 4 ≤ v1.toNatClampNeg) then none else
  (xX12_bound v2 (0 : Int32) (M.1 12 v1.toNatClampNeg)).bind fun q4 =>
  if q4 = 0 then
  (zlet (M.1 11 v1.toNatClampNeg) fun z6 =>
  zlet (zsi M 11 v1.toNatClampNeg v2) fun M8 =>
  some (z6, M8))
  else
  (xX12_no M q4).bind fun q10 =>
  some (q10.1, q10.2)
set_option maxHeartbeats 4000000 in
set_option maxRecDepth 100000 in
theorem tX12_points {κ : Nat → ClassId} {E : zEn} {ad : Nat → Nat} (hEk : zEk E) {M : zM} {v1 : Int32} {v2 : Int32} {res : (Int32 × zM)} (h : xX12_points M v1 v2 = some res) (l : Launch) (D : va_G) : zCT E D vwCl (zty κ) l yX12_points wsX12_points ({ frames := 1, cells := 0, slots := 0, locals := 22 } : Room) 0 0 [.ref (ad 0), .int v1, .int v2] (zwM κ ad M) (zPd (some (.int res.1)) (zwM κ ad res.2)) := by
  refine zCT.of (cc := cX12_points) (maxL := 5) (ret := (some .int)) (by decide) rfl (Nat.le_of_ble_eq_true rfl) ?_
  intro X hC hR
  unfold xX12_points at h
  refine zV.sub (lv' := [(0, .ref (ad 0)), (1, .int v1), (2, .int v2)]) [0, 1, 2] rfl ?_
  refine zr_iload_n (pc := 0) hC 1 rfl rfl dX12_points_0 ?_
  refine zr_iconst (pc := 1) hC zki_0 dX12_points_1 ?_
  refine zr_iconst (pc := 2) hC zki_3 dX12_points_2 ?_
  obtain ⟨q1, hq1, h⟩ := zbd h
  refine zr_cSi (pc := 3) hC hEk [.int v1, .int (0 : Int32), .int (3 : Int32)] [] 3 (fun l D => tX12_isIn hEk hq1 l D) gX12_points_X12_isIn rfl rfl rfl ⟨Nat.le_of_ble_eq_true rfl, Nat.le_of_ble_eq_true rfl⟩ hyX12_isIn rfl rfl (Nat.le_of_ble_eq_true rfl) ⟨Nat.le_of_ble_eq_true rfl, Nat.le_of_ble_eq_true rfl⟩ dX12_points_3 ?_
  refine zr_if_ne (pc := 6) (tgt := 16) hC dX12_points_6 (by decide) (fun c2 => ?_) (fun c2 => ?_)
  · replace h := zin h c2
    refine zr_iload_n (pc := 16) hC 2 rfl rfl dX12_points_16 ?_
    refine zr_iconst (pc := 17) hC zki_0 dX12_points_17 ?_
    refine zr_aload_n (pc := 18) hC 0 rfl rfl dX12_points_18 ?_
    refine zmg_11 (pc := 19) hC hinX12_points_X12 flX12_points_43 dX12_points_19 ?_
    refine zr_iload_n (pc := 22) hC 1 rfl rfl dX12_points_22 ?_
    obtain ⟨i3, h⟩ := zgd h
    refine zml_12 (pc := 23) hC i3 dX12_points_23 ?_
    obtain ⟨q4, hq4, h⟩ := zbd h
    refine zr_cSi (pc := 24) hC hEk [.int v2, .int (0 : Int32), .int (M.1 12 v1.toNatClampNeg)] [] 3 (fun l D => tX12_bound hEk hq4 l D) gX12_points_X12_bound rfl rfl rfl ⟨Nat.le_of_ble_eq_true rfl, Nat.le_of_ble_eq_true rfl⟩ hyX12_bound rfl rfl (Nat.le_of_ble_eq_true rfl) ⟨Nat.le_of_ble_eq_true rfl, Nat.le_of_ble_eq_true rfl⟩ dX12_points_24 ?_
    refine zr_istore_n (pc := 27) (lv' := [(3, .int q4), (0, .ref (ad 0)), (1, .int v1), (2, .int v2)]) hC rfl (by decide) rfl dX12_points_27 ?_
    refine zr_iload_n (pc := 28) hC 0 rfl rfl dX12_points_28 ?_
    refine zr_if_eq (pc := 29) (tgt := 38) hC dX12_points_29 (by decide) (fun c5 => ?_) (fun c5 => ?_)
    · replace h := zip h c5
      refine zr_aload_n (pc := 38) hC 1 rfl rfl dX12_points_38 ?_
      refine zmg_10 (pc := 39) hC hinX12_points_X12 flX12_points_40 dX12_points_39 ?_
      refine zr_iload_n (pc := 42) hC 2 rfl rfl dX12_points_42 ?_
      refine zml_11 (pc := 43) hC i3 dX12_points_43 ?_
      obtain ⟨z6, e7, h⟩ := zle h
      refine zr_topi e7 ?_
      refine zr_istore (pc := 44) (lv' := [(4, .int z6), (3, .int q4), (0, .ref (ad 0)), (1, .int v1), (2, .int v2)]) hC (by decide) rfl dX12_points_44 ?_
      refine zr_aload_n (pc := 46) hC 2 rfl rfl dX12_points_46 ?_
      refine zmg_10 (pc := 47) hC hinX12_points_X12 flX12_points_40 dX12_points_47 ?_
      refine zr_iload_n (pc := 50) hC 3 rfl rfl dX12_points_50 ?_
      refine zr_iload_n (pc := 51) hC 4 rfl rfl dX12_points_51 ?_
      obtain ⟨M8, e9, h⟩ := zle h
      refine zms_11 (pc := 52) hC i3 e9 dX12_points_52 ?_
      refine zr_iload (pc := 53) hC 0 rfl dX12_points_53 ?_
      obtain rfl := Option.some.inj h
      exact zr_iret hC hR ⟨rfl, rfl⟩ (Nat.le_refl _) (Nat.le_refl _) dX12_points_55
    · replace h := zin h c5
      refine zr_aload_n (pc := 32) hC 1 rfl rfl dX12_points_32 ?_
      refine zr_iload_n (pc := 33) hC 0 rfl rfl dX12_points_33 ?_
      obtain ⟨q10, hq10, h⟩ := zbd h
      refine zr_cVi (pc := 34) hC hEk [.int q4] [] 0 1 (fun l D => tX12_no hEk hq10 l D) gX12_points_X12_no rfl rfl rfl ⟨Nat.le_of_ble_eq_true rfl, Nat.le_of_ble_eq_true rfl⟩ hyX12_no (by decide) entM_0 rfl rfl rfl (Nat.le_of_ble_eq_true rfl) ⟨Nat.le_of_ble_eq_true rfl, Nat.le_of_ble_eq_true rfl⟩ dX12_points_34 ?_
      obtain rfl := Option.some.inj h
      exact zr_iret hC hR ⟨rfl, rfl⟩ (Nat.le_refl _) (Nat.le_refl _) dX12_points_37
  · replace h := zip h c2
    refine zr_aload_n (pc := 9) hC 0 rfl rfl dX12_points_9 ?_
    refine zr_bipush (pc := 10) hC zkb_m2 dX12_points_10 ?_
    obtain ⟨q11, hq11, h⟩ := zbd h
    refine zr_cVi (pc := 12) hC hEk [.int (-2 : Int32)] [] 0 1 (fun l D => tX12_no hEk hq11 l D) gX12_points_X12_no rfl rfl rfl ⟨Nat.le_of_ble_eq_true rfl, Nat.le_of_ble_eq_true rfl⟩ hyX12_no (by decide) entM_0 rfl rfl rfl (Nat.le_of_ble_eq_true rfl) ⟨Nat.le_of_ble_eq_true rfl, Nat.le_of_ble_eq_true rfl⟩ dX12_points_12 ?_
    obtain rfl := Option.some.inj h
    exact zr_iret hC hR ⟨rfl, rfl⟩ (Nat.le_refl _) (Nat.le_refl _) dX12_points_15
/-! X12_setOf -/
theorem hyX12_setOf : yX12_setOf.cls = RX12 ∧ yX12_setOf.cls ≠ "java/lang/invoke/MethodHandle" ∧ yX12_setOf.cls ≠ "java/lang/invoke/VarHandle" ∧ (parseMethodDescriptor yX12_setOf.desc).map (fun d => d.parameters.length) = some 2 := by decide +kernel
theorem flX12_setOf_25 : Cond.fieldLink RX12 25 "BeforeTheEndModel" "kind" "[I" ∈ wsX12_setOf := by decide +kernel
theorem flX12_setOf_37 : Cond.fieldLink RX12 37 "BeforeTheEndModel" "told" "[I" ∈ wsX12_setOf := by decide +kernel
theorem flX12_setOf_46 : Cond.fieldLink RX12 46 "BeforeTheEndModel" "words" "I" ∈ wsX12_setOf := by decide +kernel
theorem hinX12_setOf_X12 : ∀ w ∈ wsX120, w ∈ wsX12_setOf := fun _ h => List.mem_cons_of_mem _ (List.mem_append_right _ h)
def xX12_setOf (M : zM) (v1 : Int32) (v2 : Int32) : Option (Int32 × zM) :=
  (xX12_isPlayer M v1).bind fun q1 =>
  if q1 = 0 then
  ((xX12_no M (-1 : Int32)).bind fun q3 =>
  some (q3.1, q3.2))
  else
  if v2 < 0 then
  ((xX12_no M (-1 : Int32)).bind fun q5 =>
  some (q5.1, q5.2))
  else
  if (v2 >>> ((M.1 0 12) &&& 31)) = 0 then
  (if (v1 < 0 ∨ 4 ≤ v1.toNatClampNeg) then none else
  if (M.1 6 v1.toNatClampNeg) = (4 : Int32) then
  (zlet (M.1 10 v1.toNatClampNeg) fun z9 =>
  zlet (zsi M 10 v1.toNatClampNeg v2) fun M11 =>
  some (z9, M11))
  else
  (xX12_no M (-2 : Int32)).bind fun q13 =>
  some (q13.1, q13.2))
  else
  (xX12_no M (-1 : Int32)).bind fun q14 =>
  some (q14.1, q14.2)
set_option maxHeartbeats 4000000 in
set_option maxRecDepth 100000 in
theorem tX12_setOf {κ : Nat → ClassId} {E : zEn} {ad : Nat → Nat} (hEk : zEk E) {M : zM} {v1 : Int32} {v2 : Int32} {res : (Int32 × zM)} (h : xX12_setOf M v1 v2 = some res) (l : Launch) (D : va_G) : zCT E D vwCl (zty κ) l yX12_setOf wsX12_setOf ({ frames := 1, cells := 0, slots := 0, locals := 21 } : Room) 0 0 [.ref (ad 0), .int v1, .int v2] (zwM κ ad M) (zPd (some (.int res.1)) (zwM κ ad res.2)) := by
  refine zCT.of (cc := cX12_setOf) (maxL := 4) (ret := (some .int)) (by decide) rfl (Nat.le_of_ble_eq_true rfl) ?_
  intro X hC hR
  unfold xX12_setOf at h
  refine zV.sub (lv' := [(0, .ref (ad 0)), (1, .int v1), (2, .int v2)]) [0, 1, 2] rfl ?_
  refine zr_aload_n (pc := 0) hC 0 rfl rfl dX12_setOf_0 ?_
  refine zr_iload_n (pc := 1) hC 1 rfl rfl dX12_setOf_1 ?_
  obtain ⟨q1, hq1, h⟩ := zbd h
  refine zr_cVi (pc := 2) hC hEk [.int v1] [] 0 1 (fun l D => tX12_isPlayer hEk hq1 l D) gX12_setOf_X12_isPlayer rfl rfl rfl ⟨Nat.le_of_ble_eq_true rfl, Nat.le_of_ble_eq_true rfl⟩ hyX12_isPlayer (by decide) entM_0 rfl rfl rfl (Nat.le_of_ble_eq_true rfl) ⟨Nat.le_of_ble_eq_true rfl, Nat.le_of_ble_eq_true rfl⟩ dX12_setOf_2 ?_
  refine zr_if_eq (pc := 5) (tgt := 21) hC dX12_setOf_5 (by decide) (fun c2 => ?_) (fun c2 => ?_)
  · replace h := zip h c2
    refine zr_aload_n (pc := 21) hC 0 rfl rfl dX12_setOf_21 ?_
    refine zr_iconst (pc := 22) hC zki_m1 dX12_setOf_22 ?_
    obtain ⟨q3, hq3, h⟩ := zbd h
    refine zr_cVi (pc := 23) hC hEk [.int (-1 : Int32)] [] 0 1 (fun l D => tX12_no hEk hq3 l D) gX12_setOf_X12_no rfl rfl rfl ⟨Nat.le_of_ble_eq_true rfl, Nat.le_of_ble_eq_true rfl⟩ hyX12_no (by decide) entM_0 rfl rfl rfl (Nat.le_of_ble_eq_true rfl) ⟨Nat.le_of_ble_eq_true rfl, Nat.le_of_ble_eq_true rfl⟩ dX12_setOf_23 ?_
    obtain rfl := Option.some.inj h
    exact zr_iret hC hR ⟨rfl, rfl⟩ (Nat.le_refl _) (Nat.le_refl _) dX12_setOf_26
  · replace h := zin h c2
    refine zr_iload_n (pc := 8) hC 2 rfl rfl dX12_setOf_8 ?_
    refine zr_if_lt (pc := 9) (tgt := 21) hC dX12_setOf_9 (by decide) (fun c4 => ?_) (fun c4 => ?_)
    · replace h := zip h c4
      refine zr_aload_n (pc := 21) hC 0 rfl rfl dX12_setOf_21 ?_
      refine zr_iconst (pc := 22) hC zki_m1 dX12_setOf_22 ?_
      obtain ⟨q5, hq5, h⟩ := zbd h
      refine zr_cVi (pc := 23) hC hEk [.int (-1 : Int32)] [] 0 1 (fun l D => tX12_no hEk hq5 l D) gX12_setOf_X12_no rfl rfl rfl ⟨Nat.le_of_ble_eq_true rfl, Nat.le_of_ble_eq_true rfl⟩ hyX12_no (by decide) entM_0 rfl rfl rfl (Nat.le_of_ble_eq_true rfl) ⟨Nat.le_of_ble_eq_true rfl, Nat.le_of_ble_eq_true rfl⟩ dX12_setOf_23 ?_
      obtain rfl := Option.some.inj h
      exact zr_iret hC hR ⟨rfl, rfl⟩ (Nat.le_refl _) (Nat.le_refl _) dX12_setOf_26
    · replace h := zin h c4
      refine zr_iload_n (pc := 12) hC 2 rfl rfl dX12_setOf_12 ?_
      refine zr_aload_n (pc := 13) hC 0 rfl rfl dX12_setOf_13 ?_
      refine zmg_12 (pc := 14) hC hinX12_setOf_X12 flX12_setOf_46 dX12_setOf_14 ?_
      refine zr_ishr (pc := 17) hC dX12_setOf_17 ?_
      refine zr_if_eq (pc := 18) (tgt := 27) hC dX12_setOf_18 (by decide) (fun c6 => ?_) (fun c6 => ?_)
      · replace h := zip h c6
        refine zr_aload_n (pc := 27) hC 0 rfl rfl dX12_setOf_27 ?_
        refine zmg_5 (pc := 28) hC hinX12_setOf_X12 flX12_setOf_25 dX12_setOf_28 ?_
        refine zr_iload_n (pc := 31) hC 1 rfl rfl dX12_setOf_31 ?_
        obtain ⟨i7, h⟩ := zgd h
        refine zml_6 (pc := 32) hC i7 dX12_setOf_32 ?_
        refine zr_iconst (pc := 33) hC zki_4 dX12_setOf_33 ?_
        refine zr_icmp_eq (pc := 34) (tgt := 44) hC dX12_setOf_34 (by decide) (fun c8 => ?_) (fun c8 => ?_)
        · replace h := zip h c8
          refine zr_aload_n (pc := 44) hC 0 rfl rfl dX12_setOf_44 ?_
          refine zmg_9 (pc := 45) hC hinX12_setOf_X12 flX12_setOf_37 dX12_setOf_45 ?_
          refine zr_iload_n (pc := 48) hC 1 rfl rfl dX12_setOf_48 ?_
          refine zml_10 (pc := 49) hC i7 dX12_setOf_49 ?_
          obtain ⟨z9, e10, h⟩ := zle h
          refine zr_topi e10 ?_
          refine zr_istore_n (pc := 50) (lv' := [(3, .int z9), (0, .ref (ad 0)), (1, .int v1), (2, .int v2)]) hC rfl (by decide) rfl dX12_setOf_50 ?_
          refine zr_aload_n (pc := 51) hC 1 rfl rfl dX12_setOf_51 ?_
          refine zmg_9 (pc := 52) hC hinX12_setOf_X12 flX12_setOf_37 dX12_setOf_52 ?_
          refine zr_iload_n (pc := 55) hC 2 rfl rfl dX12_setOf_55 ?_
          refine zr_iload_n (pc := 56) hC 3 rfl rfl dX12_setOf_56 ?_
          obtain ⟨M11, e12, h⟩ := zle h
          refine zms_10 (pc := 57) hC i7 e12 dX12_setOf_57 ?_
          refine zr_iload_n (pc := 58) hC 0 rfl rfl dX12_setOf_58 ?_
          obtain rfl := Option.some.inj h
          exact zr_iret hC hR ⟨rfl, rfl⟩ (Nat.le_refl _) (Nat.le_refl _) dX12_setOf_59
        · replace h := zin h c8
          refine zr_aload_n (pc := 37) hC 0 rfl rfl dX12_setOf_37 ?_
          refine zr_bipush (pc := 38) hC zkb_m2 dX12_setOf_38 ?_
          obtain ⟨q13, hq13, h⟩ := zbd h
          refine zr_cVi (pc := 40) hC hEk [.int (-2 : Int32)] [] 0 1 (fun l D => tX12_no hEk hq13 l D) gX12_setOf_X12_no rfl rfl rfl ⟨Nat.le_of_ble_eq_true rfl, Nat.le_of_ble_eq_true rfl⟩ hyX12_no (by decide) entM_0 rfl rfl rfl (Nat.le_of_ble_eq_true rfl) ⟨Nat.le_of_ble_eq_true rfl, Nat.le_of_ble_eq_true rfl⟩ dX12_setOf_40 ?_
          obtain rfl := Option.some.inj h
          exact zr_iret hC hR ⟨rfl, rfl⟩ (Nat.le_refl _) (Nat.le_refl _) dX12_setOf_43
      · replace h := zin h c6
        refine zr_aload_n (pc := 21) hC 0 rfl rfl dX12_setOf_21 ?_
        refine zr_iconst (pc := 22) hC zki_m1 dX12_setOf_22 ?_
        obtain ⟨q14, hq14, h⟩ := zbd h
        refine zr_cVi (pc := 23) hC hEk [.int (-1 : Int32)] [] 0 1 (fun l D => tX12_no hEk hq14 l D) gX12_setOf_X12_no rfl rfl rfl ⟨Nat.le_of_ble_eq_true rfl, Nat.le_of_ble_eq_true rfl⟩ hyX12_no (by decide) entM_0 rfl rfl rfl (Nat.le_of_ble_eq_true rfl) ⟨Nat.le_of_ble_eq_true rfl, Nat.le_of_ble_eq_true rfl⟩ dX12_setOf_23 ?_
        obtain rfl := Option.some.inj h
        exact zr_iret hC hR ⟨rfl, rfl⟩ (Nat.le_refl _) (Nat.le_refl _) dX12_setOf_26
