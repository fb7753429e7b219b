/-! X12_presses -/
theorem hyX12_presses : yX12_presses.cls = RX12 ∧ yX12_presses.cls ≠ "java/lang/invoke/MethodHandle" ∧ yX12_presses.cls ≠ "java/lang/invoke/VarHandle" ∧ (parseMethodDescriptor yX12_presses.desc).map (fun d => d.parameters.length) = some 2 := by decide +kernel
theorem flX12_presses_81 : Cond.fieldLink RX12 81 "BeforeTheEndModel" "presses" "[I" ∈ wsX12_presses := by decide +kernel
theorem hinX12_presses_X12 : ∀ w ∈ wsX120, w ∈ wsX12_presses := fun _ h => List.mem_cons_of_mem _ (List.mem_append_right _ h)
def xX12_presses (M : zM) (v1 : Int32) (v2 : Int32) : Option (Int32 × zM) :=
  (xX12_isPlayer M v1).bind fun q1 =>
  if q1 = 0 then
  ((xX12_no M (-1 : Int32)).bind fun q3 =>
  some (q3.1, q3.2))
  else
  (xX12_isWord M v2).bind fun q4 =>
  if q4 = 0 then
  ((xX12_no M (-1 : Int32)).bind fun q11 =>
  some (q11.1, q11.2))
  else
  (xX12_isWhole M).bind fun q6 =>
  if q6 = 0 then
  ((xX12_no M (-3 : Int32)).bind fun q10 =>
  some (q10.1, q10.2))
  else
  (xX12_finds M).bind fun q8 =>
  if (v1 < 0 ∨ 4 ≤ v1.toNatClampNeg) then none else
  some ((((q8.1 23 v1.toNatClampNeg) >>> (v2 &&& 31)) &&& (1 : Int32)), q8)
set_option maxHeartbeats 4000000 in
set_option maxRecDepth 100000 in
theorem tX12_presses {κ : Nat → ClassId} {E : zEn} {ad : Nat → Nat} (hEk : zEk E) {M : zM} {v1 : Int32} {v2 : Int32} {res : (Int32 × zM)} (h : xX12_presses M v1 v2 = some res) (l : Launch) (D : va_G) : zCT E D vwCl (zty κ) l yX12_presses wsX12_presses ({ frames := 5, cells := 0, slots := 0, locals := 115 } : Room) 0 0 [.ref (ad 0), .int v1, .int v2] (zwM κ ad M) (zPd (some (.int res.1)) (zwM κ ad res.2)) := by
  refine zCT.of (cc := cX12_presses) (maxL := 3) (ret := (some .int)) (by decide) rfl (Nat.le_of_ble_eq_true rfl) ?_
  intro X hC hR
  unfold xX12_presses at h
  refine zV.sub (lv' := [(0, .ref (ad 0)), (1, .int v1), (2, .int v2)]) [0, 1, 2] rfl ?_
  refine zr_aload_n (pc := 0) hC 0 rfl rfl dX12_presses_0 ?_
  refine zr_iload_n (pc := 1) hC 1 rfl rfl dX12_presses_1 ?_
  obtain ⟨q1, hq1, h⟩ := zbd h
  refine zr_cVi (pc := 2) hC hEk [.int v1] [] 0 1 (fun l D => tX12_isPlayer hEk hq1 l D) gX12_presses_X12_isPlayer rfl rfl rfl ⟨Nat.le_of_ble_eq_true rfl, Nat.le_of_ble_eq_true rfl⟩ hyX12_isPlayer (by decide) entM_0 rfl rfl rfl (Nat.le_of_ble_eq_true rfl) ⟨Nat.le_of_ble_eq_true rfl, Nat.le_of_ble_eq_true rfl⟩ dX12_presses_2 ?_
  refine zr_if_eq (pc := 5) (tgt := 16) hC dX12_presses_5 (by decide) (fun c2 => ?_) (fun c2 => ?_)
  · replace h := zip h c2
    refine zr_aload_n (pc := 16) hC 0 rfl rfl dX12_presses_16 ?_
    refine zr_iconst (pc := 17) hC zki_m1 dX12_presses_17 ?_
    obtain ⟨q3, hq3, h⟩ := zbd h
    refine zr_cVi (pc := 18) hC hEk [.int (-1 : Int32)] [] 0 1 (fun l D => tX12_no hEk hq3 l D) gX12_presses_X12_no rfl rfl rfl ⟨Nat.le_of_ble_eq_true rfl, Nat.le_of_ble_eq_true rfl⟩ hyX12_no (by decide) entM_0 rfl rfl rfl (Nat.le_of_ble_eq_true rfl) ⟨Nat.le_of_ble_eq_true rfl, Nat.le_of_ble_eq_true rfl⟩ dX12_presses_18 ?_
    obtain rfl := Option.some.inj h
    exact zr_iret hC hR ⟨rfl, rfl⟩ (Nat.le_refl _) (Nat.le_refl _) dX12_presses_21
  · replace h := zin h c2
    refine zr_aload_n (pc := 8) hC 0 rfl rfl dX12_presses_8 ?_
    refine zr_iload_n (pc := 9) hC 2 rfl rfl dX12_presses_9 ?_
    obtain ⟨q4, hq4, h⟩ := zbd h
    refine zr_cVi (pc := 10) hC hEk [.int v2] [] 0 1 (fun l D => tX12_isWord hEk hq4 l D) gX12_presses_X12_isWord rfl rfl rfl ⟨Nat.le_of_ble_eq_true rfl, Nat.le_of_ble_eq_true rfl⟩ hyX12_isWord (by decide) entM_0 rfl rfl rfl (Nat.le_of_ble_eq_true rfl) ⟨Nat.le_of_ble_eq_true rfl, Nat.le_of_ble_eq_true rfl⟩ dX12_presses_10 ?_
    refine zr_if_ne (pc := 13) (tgt := 22) hC dX12_presses_13 (by decide) (fun c5 => ?_) (fun c5 => ?_)
    · replace h := zin h c5
      refine zr_aload_n (pc := 22) hC 0 rfl rfl dX12_presses_22 ?_
      obtain ⟨q6, hq6, h⟩ := zbd h
      refine zr_cVi (pc := 23) hC hEk [] [] 0 0 (fun l D => tX12_isWhole hEk hq6 l D) gX12_presses_X12_isWhole rfl rfl rfl ⟨Nat.le_of_ble_eq_true rfl, Nat.le_of_ble_eq_true rfl⟩ hyX12_isWhole (by decide) entM_0 rfl rfl rfl (Nat.le_of_ble_eq_true rfl) ⟨Nat.le_of_ble_eq_true rfl, Nat.le_of_ble_eq_true rfl⟩ dX12_presses_23 ?_
      refine zr_if_ne (pc := 26) (tgt := 36) hC dX12_presses_26 (by decide) (fun c7 => ?_) (fun c7 => ?_)
      · replace h := zin h c7
        refine zr_aload_n (pc := 36) hC 0 rfl rfl dX12_presses_36 ?_
        obtain ⟨q8, hq8, h⟩ := zbd h
        refine zr_cVv (pc := 37) hC hEk [] [] 0 0 (fun l D => tX12_finds hEk hq8 l D) gX12_presses_X12_finds rfl rfl rfl ⟨Nat.le_of_ble_eq_true rfl, Nat.le_of_ble_eq_true rfl⟩ hyX12_finds (by decide) entM_0 rfl rfl rfl (Nat.le_of_ble_eq_true rfl) ⟨Nat.le_of_ble_eq_true rfl, Nat.le_of_ble_eq_true rfl⟩ dX12_presses_37 ?_
        refine zr_aload_n (pc := 40) hC 0 rfl rfl dX12_presses_40 ?_
        refine zmg_27 (pc := 41) hC hinX12_presses_X12 flX12_presses_81 dX12_presses_41 ?_
        refine zr_iload_n (pc := 44) hC 1 rfl rfl dX12_presses_44 ?_
        obtain ⟨i9, h⟩ := zgd h
        refine zml_23 (pc := 45) hC i9 dX12_presses_45 ?_
        refine zr_iload_n (pc := 46) hC 2 rfl rfl dX12_presses_46 ?_
        refine zr_ishr (pc := 47) hC dX12_presses_47 ?_
        refine zr_iconst (pc := 48) hC zki_1 dX12_presses_48 ?_
        refine zr_iand (pc := 49) hC dX12_presses_49 ?_
        obtain rfl := Option.some.inj h
        exact zr_iret hC hR ⟨rfl, rfl⟩ (Nat.le_refl _) (Nat.le_refl _) dX12_presses_50
      · replace h := zip h c7
        refine zr_aload_n (pc := 29) hC 0 rfl rfl dX12_presses_29 ?_
        refine zr_bipush (pc := 30) hC zkb_m3 dX12_presses_30 ?_
        obtain ⟨q10, hq10, h⟩ := zbd h
        refine zr_cVi (pc := 32) hC hEk [.int (-3 : Int32)] [] 0 1 (fun l D => tX12_no hEk hq10 l D) gX12_presses_X12_no rfl rfl rfl ⟨Nat.le_of_ble_eq_true rfl, Nat.le_of_ble_eq_true rfl⟩ hyX12_no (by decide) entM_0 rfl rfl rfl (Nat.le_of_ble_eq_true rfl) ⟨Nat.le_of_ble_eq_true rfl, Nat.le_of_ble_eq_true rfl⟩ dX12_presses_32 ?_
        obtain rfl := Option.some.inj h
        exact zr_iret hC hR ⟨rfl, rfl⟩ (Nat.le_refl _) (Nat.le_refl _) dX12_presses_35
    · replace h := zip h c5
      refine zr_aload_n (pc := 16) hC 0 rfl rfl dX12_presses_16 ?_
      refine zr_iconst (pc := 17) hC zki_m1 dX12_presses_17 ?_
      obtain ⟨q11, hq11, h⟩ := zbd h
      refine zr_cVi (pc := 18) hC hEk [.int (-1 : Int32)] [] 0 1 (fun l D => tX12_no hEk hq11 l D) gX12_presses_X12_no rfl rfl rfl ⟨Nat.le_of_ble_eq_true rfl, Nat.le_of_ble_eq_true rfl⟩ hyX12_no (by decide) entM_0 rfl rfl rfl (Nat.le_of_ble_eq_true rfl) ⟨Nat.le_of_ble_eq_true rfl, Nat.le_of_ble_eq_true rfl⟩ dX12_presses_18 ?_
      obtain rfl := Option.some.inj h
      exact zr_iret hC hR ⟨rfl, rfl⟩ (Nat.le_refl _) (Nat.le_refl _) dX12_presses_21
/-! X12_answers -/
theorem hyX12_answers : yX12_answers.cls = RX12 ∧ yX12_answers.cls ≠ "java/lang/invoke/MethodHandle" ∧ yX12_answers.cls ≠ "java/lang/invoke/VarHandle" ∧ (parseMethodDescriptor yX12_answers.desc).map (fun d => d.parameters.length) = some 1 := by decide +kernel
theorem flX12_answers_114 : Cond.fieldLink RX12 114 "BeforeTheEndModel" "players" "I" ∈ wsX12_answers := by decide +kernel
theorem flX12_answers_250 : Cond.fieldLink RX12 250 "BeforeTheEndModel" "wrongs" "I" ∈ wsX12_answers := by decide +kernel
theorem flX12_answers_253 : Cond.fieldLink RX12 253 "BeforeTheEndModel" "out" "I" ∈ wsX12_answers := by decide +kernel
theorem flX12_answers_31 : Cond.fieldLink RX12 31 "BeforeTheEndModel" "hand" "[I" ∈ wsX12_answers := by decide +kernel
theorem flX12_answers_81 : Cond.fieldLink RX12 81 "BeforeTheEndModel" "presses" "[I" ∈ wsX12_answers := by decide +kernel
theorem flX12_answers_84 : Cond.fieldLink RX12 84 "BeforeTheEndModel" "learnt" "[I" ∈ wsX12_answers := by decide +kernel
theorem hinX12_answers_X12 : ∀ w ∈ wsX120, w ∈ wsX12_answers := fun _ h => List.mem_cons_of_mem _ (List.mem_append_right _ h)
def xX12_answers_L4 (M : zM) (v1 : Int32) (w0 : Int32) (w1 : Int32) : Option ((Int32 × Int32) ⊕ Int32) :=
  if (M.1 0 13) ≤ w1 then
  (some (.inr w0))
  else
  if (M.1 0 37) ≤ 0 then
  (if (w1 < 0 ∨ 4 ≤ w1.toNatClampNeg) then none else
  zlet (M.1 23 w1.toNatClampNeg) fun z4 =>
  if (((M.1 0 38) >>> (w1 &&& 31)) &&& (1 : Int32)) = 0 then
  (if ((z4 >>> (v1 &&& 31)) &&& (1 : Int32)) = (1 : Int32) then
  (if w0 < 0 then
  (some (.inl (w1, (w1 + (1 : Int32)))))
  else
  if (w0 < 0 ∨ 4 ≤ w0.toNatClampNeg) then none else
  if (M.1 8 w0.toNatClampNeg) ≤ (M.1 8 w1.toNatClampNeg) then
  (some (.inl (w0, (w1 + (1 : Int32)))))
  else
  some (.inl (w1, (w1 + (1 : Int32)))))
  else
  some (.inl (w0, (w1 + (1 : Int32)))))
  else
  some (.inl (w0, (w1 + (1 : Int32)))))
  else
  if (w1 < 0 ∨ 4 ≤ w1.toNatClampNeg) then none else
  zlet (M.1 24 w1.toNatClampNeg) fun z12 =>
  if (((M.1 0 38) >>> (w1 &&& 31)) &&& (1 : Int32)) = 0 then
  (if ((z12 >>> (v1 &&& 31)) &&& (1 : Int32)) = (1 : Int32) then
  (if w0 < 0 then
  (some (.inl (w1, (w1 + (1 : Int32)))))
  else
  if (w0 < 0 ∨ 4 ≤ w0.toNatClampNeg) then none else
  if (M.1 8 w0.toNatClampNeg) ≤ (M.1 8 w1.toNatClampNeg) then
  (some (.inl (w0, (w1 + (1 : Int32)))))
  else
  some (.inl (w1, (w1 + (1 : Int32)))))
  else
  some (.inl (w0, (w1 + (1 : Int32)))))
  else
  some (.inl (w0, (w1 + (1 : Int32))))
set_option maxHeartbeats 4000000 in
set_option maxRecDepth 100000 in
theorem tX12_answers_L4 {κ : Nat → ClassId} {E : zEn} {ad : Nat → Nat} {X : zX} {M : zM} {v1 : Int32} {w0 : Int32} {w1 : Int32} {r : ((Int32 × Int32) ⊕ Int32)} (hC : zC X cX12_answers RX12 wsX12_answers vwCl (zty κ) E 5 ({ frames := 0, cells := 0, slots := 0, locals := 0 } : Room)) (hEk : zEk E) (hin : ∀ (x0' : Int32) (x1' : Int32), r = .inl (x0', x1') → zV X 0 0 (zwM κ ad M) [(0, .ref (ad 0)), (1, .int v1), (2, .int x0'), (3, .int x1')] [] 4) (hout0 : ∀ (x0' : Int32), r = .inr x0' → zV X 0 0 (zwM κ ad M) [(2, .int x0')] [] 84) (h : xX12_answers_L4 M v1 w0 w1 = some r) : zV X 0 0 (zwM κ ad M) [(0, .ref (ad 0)), (1, .int v1), (2, .int w0), (3, .int w1)] [] 4 := by
  unfold xX12_answers_L4 at h
  refine zr_iload_n (pc := 4) hC 3 rfl rfl dX12_answers_4 ?_
  refine zr_aload_n (pc := 5) hC 0 rfl rfl dX12_answers_5 ?_
  refine zmg_13 (pc := 6) hC hinX12_answers_X12 flX12_answers_114 dX12_answers_6 ?_
  refine zr_icmp_ge (pc := 9) (tgt := 84) hC dX12_answers_9 (by decide) (fun c1 => ?_) (fun c1 => ?_)
  · replace h := zip h c1
    obtain rfl := Option.some.inj h
    exact zV.sub (lv' := [(2, .int w0)]) [2] rfl (hout0 w0 rfl)
  · replace h := zin h c1
    refine zr_aload_n (pc := 12) hC 0 rfl rfl dX12_answers_12 ?_
    refine zmg_37 (pc := 13) hC hinX12_answers_X12 flX12_answers_250 dX12_answers_13 ?_
    refine zr_if_le (pc := 16) (tgt := 28) hC dX12_answers_16 (by decide) (fun c2 => ?_) (fun c2 => ?_)
    · replace h := zip h c2
      refine zr_aload_n (pc := 28) hC 0 rfl rfl dX12_answers_28 ?_
      refine zmg_27 (pc := 29) hC hinX12_answers_X12 flX12_answers_81 dX12_answers_29 ?_
      refine zr_iload_n (pc := 32) hC 3 rfl rfl dX12_answers_32 ?_
      obtain ⟨i3, h⟩ := zgd h
      refine zml_23 (pc := 33) hC i3 dX12_answers_33 ?_
      obtain ⟨z4, e5, h⟩ := zle h
      refine zr_topi e5 ?_
      refine zr_istore (pc := 34) (lv' := [(4, .int z4), (0, .ref (ad 0)), (1, .int v1), (2, .int w0), (3, .int w1)]) hC (by decide) rfl dX12_answers_34 ?_
      refine zr_aload_n (pc := 36) hC 1 rfl rfl dX12_answers_36 ?_
      refine zmg_38 (pc := 37) hC hinX12_answers_X12 flX12_answers_253 dX12_answers_37 ?_
      refine zr_iload_n (pc := 40) hC 4 rfl rfl dX12_answers_40 ?_
      refine zr_ishr (pc := 41) hC dX12_answers_41 ?_
      refine zr_iconst (pc := 42) hC zki_1 dX12_answers_42 ?_
      refine zr_iand (pc := 43) hC dX12_answers_43 ?_
      refine zr_if_ne (pc := 44) (tgt := 78) hC dX12_answers_44 (by decide) (fun c6 => ?_) (fun c6 => ?_)
      · replace h := zin h c6
        refine zr_iinc (pc := 78) (k := 4) (lv' := [(3, .int (w1 + (1 : Int32))), (4, .int z4), (0, .ref (ad 0)), (1, .int v1), (2, .int w0)]) hC zki_1 (by decide) rfl rfl dX12_answers_78 ?_
        refine zr_goto (pc := 81) (tgt := 4) hC dX12_answers_81 (by decide) ?_
        obtain rfl := Option.some.inj h
        exact zV.sub (lv' := [(0, .ref (ad 0)), (1, .int v1), (2, .int w0), (3, .int (w1 + (1 : Int32)))]) [2, 3, 4, 0] rfl (hin w0 (w1 + (1 : Int32)) rfl)
      · replace h := zip h c6
        refine zr_iload (pc := 47) hC 0 rfl dX12_answers_47 ?_
        refine zr_iload_n (pc := 49) hC 2 rfl rfl dX12_answers_49 ?_
        refine zr_ishr (pc := 50) hC dX12_answers_50 ?_
        refine zr_iconst (pc := 51) hC zki_1 dX12_answers_51 ?_
        refine zr_iand (pc := 52) hC dX12_answers_52 ?_
        refine zr_iconst (pc := 53) hC zki_1 dX12_answers_53 ?_
        refine zr_icmp_ne (pc := 54) (tgt := 78) hC dX12_answers_54 (by decide) (fun c7 => ?_) (fun c7 => ?_)
        · replace h := zin h c7
          refine zr_iinc (pc := 78) (k := 4) (lv' := [(3, .int (w1 + (1 : Int32))), (4, .int z4), (0, .ref (ad 0)), (1, .int v1), (2, .int w0)]) hC zki_1 (by decide) rfl rfl dX12_answers_78 ?_
          refine zr_goto (pc := 81) (tgt := 4) hC dX12_answers_81 (by decide) ?_
          obtain rfl := Option.some.inj h
          exact zV.sub (lv' := [(0, .ref (ad 0)), (1, .int v1), (2, .int w0), (3, .int (w1 + (1 : Int32)))]) [2, 3, 4, 0] rfl (hin w0 (w1 + (1 : Int32)) rfl)
        · replace h := zip h c7
          refine zr_iload_n (pc := 57) hC 3 rfl rfl dX12_answers_57 ?_
          refine zr_if_lt (pc := 58) (tgt := 76) hC dX12_answers_58 (by decide) (fun c8 => ?_) (fun c8 => ?_)
          · replace h := zip h c8
            refine zr_iload_n (pc := 76) hC 4 rfl rfl dX12_answers_76 ?_
            refine zr_istore_n (pc := 77) (lv' := [(2, .int w1), (4, .int z4), (0, .ref (ad 0)), (1, .int v1), (3, .int w1)]) hC rfl (by decide) rfl dX12_answers_77 ?_
            refine zr_iinc (pc := 78) (k := 4) (lv' := [(3, .int (w1 + (1 : Int32))), (2, .int w1), (4, .int z4), (0, .ref (ad 0)), (1, .int v1)]) hC zki_1 (by decide) rfl rfl dX12_answers_78 ?_
            refine zr_goto (pc := 81) (tgt := 4) hC dX12_answers_81 (by decide) ?_
            obtain rfl := Option.some.inj h
            exact zV.sub (lv' := [(0, .ref (ad 0)), (1, .int v1), (2, .int w1), (3, .int (w1 + (1 : Int32)))]) [3, 4, 1, 0] rfl (hin w1 (w1 + (1 : Int32)) rfl)
          · replace h := zin h c8
            refine zr_aload_n (pc := 61) hC 1 rfl rfl dX12_answers_61 ?_
            refine zmg_7 (pc := 62) hC hinX12_answers_X12 flX12_answers_31 dX12_answers_62 ?_
            refine zr_iload_n (pc := 65) hC 4 rfl rfl dX12_answers_65 ?_
            refine zml_8 (pc := 66) hC i3 dX12_answers_66 ?_
            refine zr_aload_n (pc := 67) hC 1 rfl rfl dX12_answers_67 ?_
            refine zmg_7 (pc := 68) hC hinX12_answers_X12 flX12_answers_31 dX12_answers_68 ?_
            refine zr_iload_n (pc := 71) hC 3 rfl rfl dX12_answers_71 ?_
            obtain ⟨i9, h⟩ := zgd h
            refine zml_8 (pc := 72) hC i9 dX12_answers_72 ?_
            refine zr_icmp_ge (pc := 73) (tgt := 78) hC dX12_answers_73 (by decide) (fun c10 => ?_) (fun c10 => ?_)
            · replace h := zip h c10
              refine zr_iinc (pc := 78) (k := 4) (lv' := [(3, .int (w1 + (1 : Int32))), (4, .int z4), (0, .ref (ad 0)), (1, .int v1), (2, .int w0)]) hC zki_1 (by decide) rfl rfl dX12_answers_78 ?_
              refine zr_goto (pc := 81) (tgt := 4) hC dX12_answers_81 (by decide) ?_
              obtain rfl := Option.some.inj h
              exact zV.sub (lv' := [(0, .ref (ad 0)), (1, .int v1), (2, .int w0), (3, .int (w1 + (1 : Int32)))]) [2, 3, 4, 0] rfl (hin w0 (w1 + (1 : Int32)) rfl)
            · replace h := zin h c10
              refine zr_iload_n (pc := 76) hC 4 rfl rfl dX12_answers_76 ?_
              refine zr_istore_n (pc := 77) (lv' := [(2, .int w1), (4, .int z4), (0, .ref (ad 0)), (1, .int v1), (3, .int w1)]) hC rfl (by decide) rfl dX12_answers_77 ?_
              refine zr_iinc (pc := 78) (k := 4) (lv' := [(3, .int (w1 + (1 : Int32))), (2, .int w1), (4, .int z4), (0, .ref (ad 0)), (1, .int v1)]) hC zki_1 (by decide) rfl rfl dX12_answers_78 ?_
              refine zr_goto (pc := 81) (tgt := 4) hC dX12_answers_81 (by decide) ?_
              obtain rfl := Option.some.inj h
              exact zV.sub (lv' := [(0, .ref (ad 0)), (1, .int v1), (2, .int w1), (3, .int (w1 + (1 : Int32)))]) [3, 4, 1, 0] rfl (hin w1 (w1 + (1 : Int32)) rfl)
    · replace h := zin h c2
      refine zr_aload_n (pc := 19) hC 0 rfl rfl dX12_answers_19 ?_
      refine zmg_28 (pc := 20) hC hinX12_answers_X12 flX12_answers_84 dX12_answers_20 ?_
      refine zr_iload_n (pc := 23) hC 3 rfl rfl dX12_answers_23 ?_
      obtain ⟨i11, h⟩ := zgd h
      refine zml_24 (pc := 24) hC i11 dX12_answers_24 ?_
      refine zr_goto (pc := 25) (tgt := 34) hC dX12_answers_25 (by decide) ?_
      obtain ⟨z12, e13, h⟩ := zle h
      refine zr_topi e13 ?_
      refine zr_istore (pc := 34) (lv' := [(4, .int z12), (0, .ref (ad 0)), (1, .int v1), (2, .int w0), (3, .int w1)]) hC (by decide) rfl dX12_answers_34 ?_
      refine zr_aload_n (pc := 36) hC 1 rfl rfl dX12_answers_36 ?_
      refine zmg_38 (pc := 37) hC hinX12_answers_X12 flX12_answers_253 dX12_answers_37 ?_
      refine zr_iload_n (pc := 40) hC 4 rfl rfl dX12_answers_40 ?_
      refine zr_ishr (pc := 41) hC dX12_answers_41 ?_
      refine zr_iconst (pc := 42) hC zki_1 dX12_answers_42 ?_
      refine zr_iand (pc := 43) hC dX12_answers_43 ?_
      refine zr_if_ne (pc := 44) (tgt := 78) hC dX12_answers_44 (by decide) (fun c14 => ?_) (fun c14 => ?_)
      · replace h := zin h c14
        refine zr_iinc (pc := 78) (k := 4) (lv' := [(3, .int (w1 + (1 : Int32))), (4, .int z12), (0, .ref (ad 0)), (1, .int v1), (2, .int w0)]) hC zki_1 (by decide) rfl rfl dX12_answers_78 ?_
        refine zr_goto (pc := 81) (tgt := 4) hC dX12_answers_81 (by decide) ?_
        obtain rfl := Option.some.inj h
        exact zV.sub (lv' := [(0, .ref (ad 0)), (1, .int v1), (2, .int w0), (3, .int (w1 + (1 : Int32)))]) [2, 3, 4, 0] rfl (hin w0 (w1 + (1 : Int32)) rfl)
      · replace h := zip h c14
        refine zr_iload (pc := 47) hC 0 rfl dX12_answers_47 ?_
        refine zr_iload_n (pc := 49) hC 2 rfl rfl dX12_answers_49 ?_
        refine zr_ishr (pc := 50) hC dX12_answers_50 ?_
        refine zr_iconst (pc := 51) hC zki_1 dX12_answers_51 ?_
        refine zr_iand (pc := 52) hC dX12_answers_52 ?_
        refine zr_iconst (pc := 53) hC zki_1 dX12_answers_53 ?_
        refine zr_icmp_ne (pc := 54) (tgt := 78) hC dX12_answers_54 (by decide) (fun c15 => ?_) (fun c15 => ?_)
        · replace h := zin h c15
          refine zr_iinc (pc := 78) (k := 4) (lv' := [(3, .int (w1 + (1 : Int32))), (4, .int z12), (0, .ref (ad 0)), (1, .int v1), (2, .int w0)]) hC zki_1 (by decide) rfl rfl dX12_answers_78 ?_
          refine zr_goto (pc := 81) (tgt := 4) hC dX12_answers_81 (by decide) ?_
          obtain rfl := Option.some.inj h
          exact zV.sub (lv' := [(0, .ref (ad 0)), (1, .int v1), (2, .int w0), (3, .int (w1 + (1 : Int32)))]) [2, 3, 4, 0] rfl (hin w0 (w1 + (1 : Int32)) rfl)
        · replace h := zip h c15
          refine zr_iload_n (pc := 57) hC 3 rfl rfl dX12_answers_57 ?_
          refine zr_if_lt (pc := 58) (tgt := 76) hC dX12_answers_58 (by decide) (fun c16 => ?_) (fun c16 => ?_)
          · replace h := zip h c16
            refine zr_iload_n (pc := 76) hC 4 rfl rfl dX12_answers_76 ?_
            refine zr_istore_n (pc := 77) (lv' := [(2, .int w1), (4, .int z12), (0, .ref (ad 0)), (1, .int v1), (3, .int w1)]) hC rfl (by decide) rfl dX12_answers_77 ?_
            refine zr_iinc (pc := 78) (k := 4) (lv' := [(3, .int (w1 + (1 : Int32))), (2, .int w1), (4, .int z12), (0, .ref (ad 0)), (1, .int v1)]) hC zki_1 (by decide) rfl rfl dX12_answers_78 ?_
            refine zr_goto (pc := 81) (tgt := 4) hC dX12_answers_81 (by decide) ?_
            obtain rfl := Option.some.inj h
            exact zV.sub (lv' := [(0, .ref (ad 0)), (1, .int v1), (2, .int w1), (3, .int (w1 + (1 : Int32)))]) [3, 4, 1, 0] rfl (hin w1 (w1 + (1 : Int32)) rfl)
          · replace h := zin h c16
            refine zr_aload_n (pc := 61) hC 1 rfl rfl dX12_answers_61 ?_
            refine zmg_7 (pc := 62) hC hinX12_answers_X12 flX12_answers_31 dX12_answers_62 ?_
            refine zr_iload_n (pc := 65) hC 4 rfl rfl dX12_answers_65 ?_
            refine zml_8 (pc := 66) hC i11 dX12_answers_66 ?_
            refine zr_aload_n (pc := 67) hC 1 rfl rfl dX12_answers_67 ?_
            refine zmg_7 (pc := 68) hC hinX12_answers_X12 flX12_answers_31 dX12_answers_68 ?_
            refine zr_iload_n (pc := 71) hC 3 rfl rfl dX12_answers_71 ?_
            obtain ⟨i17, h⟩ := zgd h
            refine zml_8 (pc := 72) hC i17 dX12_answers_72 ?_
            refine zr_icmp_ge (pc := 73) (tgt := 78) hC dX12_answers_73 (by decide) (fun c18 => ?_) (fun c18 => ?_)
            · replace h := zip h c18
              refine zr_iinc (pc := 78) (k := 4) (lv' := [(3, .int (w1 + (1 : Int32))), (4, .int z12), (0, .ref (ad 0)), (1, .int v1), (2, .int w0)]) hC zki_1 (by decide) rfl rfl dX12_answers_78 ?_
              refine zr_goto (pc := 81) (tgt := 4) hC dX12_answers_81 (by decide) ?_
              obtain rfl := Option.some.inj h
              exact zV.sub (lv' := [(0, .ref (ad 0)), (1, .int v1), (2, .int w0), (3, .int (w1 + (1 : Int32)))]) [2, 3, 4, 0] rfl (hin w0 (w1 + (1 : Int32)) rfl)
            · replace h := zin h c18
              refine zr_iload_n (pc := 76) hC 4 rfl rfl dX12_answers_76 ?_
              refine zr_istore_n (pc := 77) (lv' := [(2, .int w1), (4, .int z12), (0, .ref (ad 0)), (1, .int v1), (3, .int w1)]) hC rfl (by decide) rfl dX12_answers_77 ?_
              refine zr_iinc (pc := 78) (k := 4) (lv' := [(3, .int (w1 + (1 : Int32))), (2, .int w1), (4, .int z12), (0, .ref (ad 0)), (1, .int v1)]) hC zki_1 (by decide) rfl rfl dX12_answers_78 ?_
              refine zr_goto (pc := 81) (tgt := 4) hC dX12_answers_81 (by decide) ?_
              obtain rfl := Option.some.inj h
              exact zV.sub (lv' := [(0, .ref (ad 0)), (1, .int v1), (2, .int w1), (3, .int (w1 + (1 : Int32)))]) [3, 4, 1, 0] rfl (hin w1 (w1 + (1 : Int32)) rfl)
def xX12_answers (M : zM) (v1 : Int32) : Option Int32 :=
  (x_it (fun a9 => xX12_answers_L4 M v1 a9.1 a9.2) zFU ((-1 : Int32), (0 : Int32))).bind fun q1 =>
  some q1
set_option maxHeartbeats 4000000 in
set_option maxRecDepth 100000 in
theorem tX12_answers {κ : Nat → ClassId} {E : zEn} {ad : Nat → Nat} (hEk : zEk E) {M : zM} {v1 : Int32} {res : Int32} (h : xX12_answers M v1 = some res) (l : Launch) (D : va_G) : zCT E D vwCl (zty κ) l yX12_answers wsX12_answers ({ frames := 0, cells := 0, slots := 0, locals := 0 } : Room) 0 0 [.ref (ad 0), .int v1] (zwM κ ad M) (zPd (some (.int res)) (zwM κ ad M)) := by
  refine zCT.of (cc := cX12_answers) (maxL := 5) (ret := (some .int)) (by decide) rfl (Nat.le_of_ble_eq_true rfl) ?_
  intro X hC hR
  unfold xX12_answers at h
  refine zV.sub (lv' := [(0, .ref (ad 0)), (1, .int v1)]) [0, 1] rfl ?_
  refine zr_iconst (pc := 0) hC zki_m1 dX12_answers_0 ?_
  refine zr_istore_n (pc := 1) (lv' := [(2, .int (-1 : Int32)), (0, .ref (ad 0)), (1, .int v1)]) hC rfl (by decide) rfl dX12_answers_1 ?_
  refine zr_iconst (pc := 2) hC zki_0 dX12_answers_2 ?_
  refine zr_istore_n (pc := 3) (lv' := [(3, .int (0 : Int32)), (2, .int (-1 : Int32)), (0, .ref (ad 0)), (1, .int v1)]) hC rfl (by decide) rfl dX12_answers_3 ?_
  obtain ⟨q1, hq1, h⟩ := zbd h
  refine zV.sub (lv' := [(0, .ref (ad 0)), (1, .int v1), (2, .int (-1 : Int32)), (3, .int (0 : Int32))]) [2, 3, 1, 0] rfl ?_
  refine zit2 (Wp := fun (y0 : Int32) (y1 : Int32) => zV X 0 0 (zwM κ ad M) [(0, .ref (ad 0)), (1, .int v1), (2, .int y0), (3, .int y1)] [] 4) (Ex := fun (b9 : Int32) => zV X 0 0 (zwM κ ad M) [(2, .int b9)] [] 84) (fun y0 y1 r9 hr hin hout => tX12_answers_L4 hC hEk hin (fun z0 e9 => hout z0 e9) hr) zFU (-1 : Int32) (0 : Int32) q1 hq1 ?_
  show zV X 0 0 (zwM κ ad M) [(2, .int q1)] [] 84
  refine zr_iload_n (pc := 84) hC 0 rfl rfl dX12_answers_84 ?_
  obtain rfl := Option.some.inj h
  exact zr_iret hC hR ⟨rfl, rfl⟩ (Nat.le_refl _) (Nat.le_refl _) dX12_answers_85
/-! X12_isOver -/
theorem hyX12_isOver : yX12_isOver.cls = RX12 ∧ yX12_isOver.cls ≠ "java/lang/invoke/MethodHandle" ∧ yX12_isOver.cls ≠ "java/lang/invoke/VarHandle" ∧ (parseMethodDescriptor yX12_isOver.desc).map (fun d => d.parameters.length) = some 3 := by decide +kernel
theorem flX12_isOver_19 : Cond.fieldLink RX12 19 "BeforeTheEndModel" "answer" "[I" ∈ wsX12_isOver := by decide +kernel
theorem flX12_isOver_22 : Cond.fieldLink RX12 22 "BeforeTheEndModel" "length" "[I" ∈ wsX12_isOver := by decide +kernel
theorem flX12_isOver_250 : Cond.fieldLink RX12 250 "BeforeTheEndModel" "wrongs" "I" ∈ wsX12_isOver := by decide +kernel
theorem flX12_isOver_253 : Cond.fieldLink RX12 253 "BeforeTheEndModel" "out" "I" ∈ wsX12_isOver := by decide +kernel
theorem flX12_isOver_256 : Cond.fieldLink RX12 256 "BeforeTheEndModel" "firstWho" "I" ∈ wsX12_isOver := by decide +kernel
theorem flX12_isOver_259 : Cond.fieldLink RX12 259 "BeforeTheEndModel" "firstWord" "I" ∈ wsX12_isOver := by decide +kernel
theorem flX12_isOver_262 : Cond.fieldLink RX12 262 "BeforeTheEndModel" "winner" "I" ∈ wsX12_isOver := by decide +kernel
theorem flX12_isOver_40 : Cond.fieldLink RX12 40 "BeforeTheEndModel" "points" "[I" ∈ wsX12_isOver := by decide +kernel
theorem flX12_isOver_78 : Cond.fieldLink RX12 78 "BeforeTheEndModel" "guessAt" "[I" ∈ wsX12_isOver := by decide +kernel
theorem flX12_isOver_93 : Cond.fieldLink RX12 93 "BeforeTheEndModel" "gets" "[I" ∈ wsX12_isOver := by decide +kernel
theorem hinX12_isOver_X12 : ∀ w ∈ wsX120, w ∈ wsX12_isOver := fun _ h => List.mem_cons_of_mem _ (List.mem_append_right _ h)
def xX12_isOver_b17 (M : zM) (v1 : Int32) (v2 : Int32) (v3 : Int32) : Option (Int32 × zM) :=
  if ((((24 : Int32) * v1) + v2) < 0 ∨ 96 ≤ (((24 : Int32) * v1) + v2).toNatClampNeg) then none else
  if (v3 < 0 ∨ 24 ≤ v3.toNatClampNeg) then none else
  if (M.1 22 (((24 : Int32) * v1) + v2).toNatClampNeg) = (M.1 4 v3.toNatClampNeg) then
  (zlet (zsi M 0 34 v1) fun M12 =>
  if (v1 < 0 ∨ 4 ≤ v1.toNatClampNeg) then none else
  if (v2 < 0 ∨ 24 ≤ v2.toNatClampNeg) then none else
  zlet (zsi M12 27 v1.toNatClampNeg ((M12.1 27 v1.toNatClampNeg) + ((M12.1 11 (0 : Int32).toNatClampNeg) + ((M12.1 11 (2 : Int32).toNatClampNeg) * ((M12.1 5 v3.toNatClampNeg) - (M12.1 5 v2.toNatClampNeg)))))) fun M16 =>
  some ((1 : Int32), M16))
  else
  if (v1 < 0 ∨ 4 ≤ v1.toNatClampNeg) then none else
  zlet (zsi M 27 v1.toNatClampNeg ((M.1 27 v1.toNatClampNeg) - (M.1 11 (1 : Int32).toNatClampNeg))) fun M5 =>
  zlet (zsi M5 0 38 ((M5.1 0 38) ||| ((1 : Int32) <<< (v1 &&& 31)))) fun M7 =>
  zlet (zsi M7 0 37 ((M7.1 0 37) + (1 : Int32))) fun M9 =>
  if (M9.1 11 (3 : Int32).toNatClampNeg) = 0 then
  (some ((1 : Int32), M9))
  else
  some ((0 : Int32), M9)
set_option maxHeartbeats 4000000 in
set_option maxRecDepth 100000 in
theorem tX12_isOver_b17 {κ : Nat → ClassId} {E : zEn} {ad : Nat → Nat} {X : zX} {res : (Int32 × zM)} {M : zM} {v1 : Int32} {v2 : Int32} {v3 : Int32} (hC : zC X cX12_isOver RX12 wsX12_isOver vwCl (zty κ) E 4 ({ frames := 0, cells := 0, slots := 0, locals := 0 } : Room)) (hEk : zEk E) (hR : zR X (some .boolean) (zPd (some (.int res.1)) (zwM κ ad res.2)) 0 0) (h : xX12_isOver_b17 M v1 v2 v3  = some res) : zV X 0 0 (zwM κ ad M) [(0, .ref (ad 0)), (1, .int v1), (2, .int v2), (3, .int v3)] [] 17 := by
  unfold xX12_isOver_b17 at h
  refine zr_aload_n (pc := 17) hC 0 rfl rfl dX12_isOver_17 ?_
  refine zmg_26 (pc := 18) hC hinX12_isOver_X12 flX12_isOver_78 dX12_isOver_18 ?_
  refine zr_bipush (pc := 21) hC zkb_24 dX12_isOver_21 ?_
  refine zr_iload_n (pc := 23) hC 1 rfl rfl dX12_isOver_23 ?_
  refine zr_imul (pc := 24) hC dX12_isOver_24 ?_
  refine zr_iload_n (pc := 25) hC 2 rfl rfl dX12_isOver_25 ?_
  refine zr_iadd (pc := 26) hC dX12_isOver_26 ?_
  obtain ⟨i1, h⟩ := zgd h
  refine zml_22 (pc := 27) hC i1 dX12_isOver_27 ?_
  refine zr_aload_n (pc := 28) hC 0 rfl rfl dX12_isOver_28 ?_
  refine zmg_3 (pc := 29) hC hinX12_isOver_X12 flX12_isOver_19 dX12_isOver_29 ?_
  refine zr_iload_n (pc := 32) hC 3 rfl rfl dX12_isOver_32 ?_
  obtain ⟨i2, h⟩ := zgd h
  refine zml_4 (pc := 33) hC i2 dX12_isOver_33 ?_
  refine zr_icmp_ne (pc := 34) (tgt := 80) hC dX12_isOver_34 (by decide) (fun c3 => ?_) (fun c3 => ?_)
  · replace h := zin h c3
    refine zr_aload_n (pc := 80) hC 0 rfl rfl dX12_isOver_80 ?_
    refine zmg_33 (pc := 81) hC hinX12_isOver_X12 flX12_isOver_93 dX12_isOver_81 ?_
    refine zr_iload_n (pc := 84) hC 1 rfl rfl dX12_isOver_84 ?_
    refine zr_dup2 (pc := 85) hC rfl rfl dX12_isOver_85 ?_
    obtain ⟨i4, h⟩ := zgd h
    refine zml_27 (pc := 86) hC i4 dX12_isOver_86 ?_
    refine zr_aload_n (pc := 87) hC 0 rfl rfl dX12_isOver_87 ?_
    refine zmg_10 (pc := 88) hC hinX12_isOver_X12 flX12_isOver_40 dX12_isOver_88 ?_
    refine zr_iconst (pc := 91) hC zki_1 dX12_isOver_91 ?_
    refine zml_11 (pc := 92) hC (by decide) dX12_isOver_92 ?_
    refine zr_isub (pc := 93) hC dX12_isOver_93 ?_
    obtain ⟨M5, e6, h⟩ := zle h
    refine zms_27 (pc := 94) hC i4 e6 dX12_isOver_94 ?_
    refine zr_aload_n (pc := 95) hC 0 rfl rfl dX12_isOver_95 ?_
    refine zr_dup (pc := 96) hC rfl dX12_isOver_96 ?_
    refine zmg_38 (pc := 97) hC hinX12_isOver_X12 flX12_isOver_253 dX12_isOver_97 ?_
    refine zr_iconst (pc := 100) hC zki_1 dX12_isOver_100 ?_
    refine zr_iload_n (pc := 101) hC 1 rfl rfl dX12_isOver_101 ?_
    refine zr_ishl (pc := 102) hC dX12_isOver_102 ?_
    refine zr_ior (pc := 103) hC dX12_isOver_103 ?_
    obtain ⟨M7, e8, h⟩ := zle h
    refine zmp_38 (pc := 104) hC hinX12_isOver_X12 flX12_isOver_253 e8 dX12_isOver_104 ?_
    refine zr_aload_n (pc := 107) hC 0 rfl rfl dX12_isOver_107 ?_
    refine zr_dup (pc := 108) hC rfl dX12_isOver_108 ?_
    refine zmg_37 (pc := 109) hC hinX12_isOver_X12 flX12_isOver_250 dX12_isOver_109 ?_
    refine zr_iconst (pc := 112) hC zki_1 dX12_isOver_112 ?_
    refine zr_iadd (pc := 113) hC dX12_isOver_113 ?_
    obtain ⟨M9, e10, h⟩ := zle h
    refine zmp_37 (pc := 114) hC hinX12_isOver_X12 flX12_isOver_250 e10 dX12_isOver_114 ?_
    refine zr_aload_n (pc := 117) hC 0 rfl rfl dX12_isOver_117 ?_
    refine zmg_10 (pc := 118) hC hinX12_isOver_X12 flX12_isOver_40 dX12_isOver_118 ?_
    refine zr_iconst (pc := 121) hC zki_3 dX12_isOver_121 ?_
    refine zml_11 (pc := 122) hC (by decide) dX12_isOver_122 ?_
    refine zr_if_ne (pc := 123) (tgt := 130) hC dX12_isOver_123 (by decide) (fun c11 => ?_) (fun c11 => ?_)
    · replace h := zin h c11
      refine zr_iconst (pc := 130) hC zki_0 dX12_isOver_130 ?_
      obtain rfl := Option.some.inj h
      exact zr_zret hC hR (by decide) ⟨rfl, rfl⟩ (Nat.le_refl _) (Nat.le_refl _) dX12_isOver_131
    · replace h := zip h c11
      refine zr_iconst (pc := 126) hC zki_1 dX12_isOver_126 ?_
      refine zr_goto (pc := 127) (tgt := 131) hC dX12_isOver_127 (by decide) ?_
      obtain rfl := Option.some.inj h
      exact zr_zret hC hR (by decide) ⟨rfl, rfl⟩ (Nat.le_refl _) (Nat.le_refl _) dX12_isOver_131
  · replace h := zip h c3
    refine zr_aload_n (pc := 37) hC 0 rfl rfl dX12_isOver_37 ?_
    refine zr_iload_n (pc := 38) hC 1 rfl rfl dX12_isOver_38 ?_
    obtain ⟨M12, e13, h⟩ := zle h
    refine zmp_34 (pc := 39) hC hinX12_isOver_X12 flX12_isOver_262 e13 dX12_isOver_39 ?_
    refine zr_aload_n (pc := 42) hC 0 rfl rfl dX12_isOver_42 ?_
    refine zmg_33 (pc := 43) hC hinX12_isOver_X12 flX12_isOver_93 dX12_isOver_43 ?_
    refine zr_iload_n (pc := 46) hC 1 rfl rfl dX12_isOver_46 ?_
    refine zr_dup2 (pc := 47) hC rfl rfl dX12_isOver_47 ?_
    obtain ⟨i14, h⟩ := zgd h
    refine zml_27 (pc := 48) hC i14 dX12_isOver_48 ?_
    refine zr_aload_n (pc := 49) hC 0 rfl rfl dX12_isOver_49 ?_
    refine zmg_10 (pc := 50) hC hinX12_isOver_X12 flX12_isOver_40 dX12_isOver_50 ?_
    refine zr_iconst (pc := 53) hC zki_0 dX12_isOver_53 ?_
    refine zml_11 (pc := 54) hC (by decide) dX12_isOver_54 ?_
    refine zr_aload_n (pc := 55) hC 0 rfl rfl dX12_isOver_55 ?_
    refine zmg_10 (pc := 56) hC hinX12_isOver_X12 flX12_isOver_40 dX12_isOver_56 ?_
    refine zr_iconst (pc := 59) hC zki_2 dX12_isOver_59 ?_
    refine zml_11 (pc := 60) hC (by decide) dX12_isOver_60 ?_
    refine zr_aload_n (pc := 61) hC 0 rfl rfl dX12_isOver_61 ?_
    refine zmg_4 (pc := 62) hC hinX12_isOver_X12 flX12_isOver_22 dX12_isOver_62 ?_
    refine zr_iload_n (pc := 65) hC 3 rfl rfl dX12_isOver_65 ?_
    refine zml_5 (pc := 66) hC i2 dX12_isOver_66 ?_
    refine zr_aload_n (pc := 67) hC 0 rfl rfl dX12_isOver_67 ?_
    refine zmg_4 (pc := 68) hC hinX12_isOver_X12 flX12_isOver_22 dX12_isOver_68 ?_
    refine zr_iload_n (pc := 71) hC 2 rfl rfl dX12_isOver_71 ?_
    obtain ⟨i15, h⟩ := zgd h
    refine zml_5 (pc := 72) hC i15 dX12_isOver_72 ?_
    refine zr_isub (pc := 73) hC dX12_isOver_73 ?_
    refine zr_imul (pc := 74) hC dX12_isOver_74 ?_
    refine zr_iadd (pc := 75) hC dX12_isOver_75 ?_
    refine zr_iadd (pc := 76) hC dX12_isOver_76 ?_
    obtain ⟨M16, e17, h⟩ := zle h
    refine zms_27 (pc := 77) hC i14 e17 dX12_isOver_77 ?_
    refine zr_iconst (pc := 78) hC zki_1 dX12_isOver_78 ?_
    obtain rfl := Option.some.inj h
    exact zr_zret hC hR (by decide) ⟨rfl, rfl⟩ (Nat.le_refl _) (Nat.le_refl _) dX12_isOver_79
def xX12_isOver (M : zM) (v1 : Int32) (v2 : Int32) (v3 : Int32) : Option (Int32 × zM) :=
  if 0 ≤ (M.1 0 36) then
  (xX12_isOver_b17 M v1 v2 v3)
  else
  zlet (zsi M 0 36 v1) fun M2 =>
  zlet (zsi M2 0 35 v2) fun M4 =>
  xX12_isOver_b17 M4 v1 v2 v3
set_option maxHeartbeats 4000000 in
set_option maxRecDepth 100000 in
theorem tX12_isOver {κ : Nat → ClassId} {E : zEn} {ad : Nat → Nat} (hEk : zEk E) {M : zM} {v1 : Int32} {v2 : Int32} {v3 : Int32} {res : (Int32 × zM)} (h : xX12_isOver M v1 v2 v3 = some res) (l : Launch) (D : va_G) : zCT E D vwCl (zty κ) l yX12_isOver wsX12_isOver ({ frames := 0, cells := 0, slots := 0, locals := 0 } : Room) 0 0 [.ref (ad 0), .int v1, .int v2, .int v3] (zwM κ ad M) (zPd (some (.int res.1)) (zwM κ ad res.2)) := by
  refine zCT.of (cc := cX12_isOver) (maxL := 4) (ret := (some .boolean)) (by decide) rfl (Nat.le_of_ble_eq_true rfl) ?_
  intro X hC hR
  unfold xX12_isOver at h
  refine zV.sub (lv' := [(0, .ref (ad 0)), (1, .int v1), (2, .int v2), (3, .int v3)]) [0, 1, 2, 3] rfl ?_
  refine zr_aload_n (pc := 0) hC 0 rfl rfl dX12_isOver_0 ?_
  refine zmg_36 (pc := 1) hC hinX12_isOver_X12 flX12_isOver_256 dX12_isOver_1 ?_
  refine zr_if_ge (pc := 4) (tgt := 17) hC dX12_isOver_4 (by decide) (fun c1 => ?_) (fun c1 => ?_)
  · replace h := zip h c1
    exact zV.sub (lv' := [(0, .ref (ad 0)), (1, .int v1), (2, .int v2), (3, .int v3)]) [0, 1, 2, 3] rfl (tX12_isOver_b17 hC hEk hR h)
  · replace h := zin h c1
    refine zr_aload_n (pc := 7) hC 0 rfl rfl dX12_isOver_7 ?_
    refine zr_iload_n (pc := 8) hC 1 rfl rfl dX12_isOver_8 ?_
    obtain ⟨M2, e3, h⟩ := zle h
    refine zmp_36 (pc := 9) hC hinX12_isOver_X12 flX12_isOver_256 e3 dX12_isOver_9 ?_
    refine zr_aload_n (pc := 12) hC 0 rfl rfl dX12_isOver_12 ?_
    refine zr_iload_n (pc := 13) hC 2 rfl rfl dX12_isOver_13 ?_
    obtain ⟨M4, e5, h⟩ := zle h
    refine zmp_35 (pc := 14) hC hinX12_isOver_X12 flX12_isOver_259 e5 dX12_isOver_14 ?_
    exact zV.sub (lv' := [(0, .ref (ad 0)), (1, .int v1), (2, .int v2), (3, .int v3)]) [0, 1, 2, 3] rfl (tX12_isOver_b17 hC hEk hR h)
/-! X12_runs -/
theorem hyX12_runs : yX12_runs.cls = RX12 ∧ yX12_runs.cls ≠ "java/lang/invoke/MethodHandle" ∧ yX12_runs.cls ≠ "java/lang/invoke/VarHandle" ∧ (parseMethodDescriptor yX12_runs.desc).map (fun d => d.parameters.length) = some 1 := by decide +kernel
theorem flX12_runs_13 : Cond.fieldLink RX12 13 "BeforeTheEndModel" "parent" "[I" ∈ wsX12_runs := by decide +kernel
theorem flX12_runs_22 : Cond.fieldLink RX12 22 "BeforeTheEndModel" "length" "[I" ∈ wsX12_runs := by decide +kernel
theorem flX12_runs_250 : Cond.fieldLink RX12 250 "BeforeTheEndModel" "wrongs" "I" ∈ wsX12_runs := by decide +kernel
theorem flX12_runs_253 : Cond.fieldLink RX12 253 "BeforeTheEndModel" "out" "I" ∈ wsX12_runs := by decide +kernel
theorem flX12_runs_256 : Cond.fieldLink RX12 256 "BeforeTheEndModel" "firstWho" "I" ∈ wsX12_runs := by decide +kernel
theorem flX12_runs_259 : Cond.fieldLink RX12 259 "BeforeTheEndModel" "firstWord" "I" ∈ wsX12_runs := by decide +kernel
theorem flX12_runs_262 : Cond.fieldLink RX12 262 "BeforeTheEndModel" "winner" "I" ∈ wsX12_runs := by decide +kernel
theorem flX12_runs_90 : Cond.fieldLink RX12 90 "BeforeTheEndModel" "way" "[I" ∈ wsX12_runs := by decide +kernel
theorem flX12_runs_93 : Cond.fieldLink RX12 93 "BeforeTheEndModel" "gets" "[I" ∈ wsX12_runs := by decide +kernel
theorem hinX12_runs_X12 : ∀ w ∈ wsX120, w ∈ wsX12_runs := fun _ h => List.mem_cons_of_mem _ (List.mem_append_right _ h)
def xX12_runs_L29 (v1 : Int32) (w0 : zM) (w1 : Int32) : Option ((zM × Int32) ⊕ zM) :=
  if (4 : Int32) ≤ w1 then
  (some (.inr w0))
  else
  if (w1 < 0 ∨ 4 ≤ w1.toNatClampNeg) then none else
  zlet (zsi w0 27 w1.toNatClampNeg (0 : Int32)) fun M3 =>
  some (.inl (M3, (w1 + (1 : Int32))))
set_option maxHeartbeats 4000000 in
set_option maxRecDepth 100000 in
theorem tX12_runs_L29 {κ : Nat → ClassId} {E : zEn} {ad : Nat → Nat} {X : zX} {v1 : Int32} {w0 : zM} {w1 : Int32} {r : ((zM × Int32) ⊕ zM)} (hC : zC X cX12_runs RX12 wsX12_runs vwCl (zty κ) E 5 ({ frames := 1, cells := 0, slots := 0, locals := 24 } : Room)) (hEk : zEk E) (hin : ∀ (x0' : zM) (x1' : Int32), r = .inl (x0', x1') → zV X 0 0 (zwM κ ad x0') [(0, .ref (ad 0)), (1, .int v1), (2, .int x1')] [] 29) (hout0 : ∀ (x0' : zM), r = .inr x0' → zV X 0 0 (zwM κ ad x0') [(0, .ref (ad 0)), (1, .int v1)] [] 47) (h : xX12_runs_L29  v1 w0 w1 = some r) : zV X 0 0 (zwM κ ad w0) [(0, .ref (ad 0)), (1, .int v1), (2, .int w1)] [] 29 := by
  unfold xX12_runs_L29 at h
  refine zr_iload_n (pc := 29) hC 2 rfl rfl dX12_runs_29 ?_
  refine zr_iconst (pc := 30) hC zki_4 dX12_runs_30 ?_
  refine zr_icmp_ge (pc := 31) (tgt := 47) hC dX12_runs_31 (by decide) (fun c1 => ?_) (fun c1 => ?_)
  · replace h := zip h c1
    obtain rfl := Option.some.inj h
    exact zV.sub (lv' := [(0, .ref (ad 0)), (1, .int v1)]) [0, 1] rfl (hout0 w0 rfl)
  · replace h := zin h c1
    refine zr_aload_n (pc := 34) hC 0 rfl rfl dX12_runs_34 ?_
    refine zmg_33 (pc := 35) hC hinX12_runs_X12 flX12_runs_93 dX12_runs_35 ?_
    refine zr_iload_n (pc := 38) hC 2 rfl rfl dX12_runs_38 ?_
    refine zr_iconst (pc := 39) hC zki_0 dX12_runs_39 ?_
    obtain ⟨i2, h⟩ := zgd h
    obtain ⟨M3, e4, h⟩ := zle h
    refine zms_27 (pc := 40) hC i2 e4 dX12_runs_40 ?_
    refine zr_iinc (pc := 41) (k := 2) (lv' := [(2, .int (w1 + (1 : Int32))), (0, .ref (ad 0)), (1, .int v1)]) hC zki_1 (by decide) rfl rfl dX12_runs_41 ?_
    refine zr_goto (pc := 44) (tgt := 29) hC dX12_runs_44 (by decide) ?_
    obtain rfl := Option.some.inj h
    exact zV.sub (lv' := [(0, .ref (ad 0)), (1, .int v1), (2, .int (w1 + (1 : Int32)))]) [1, 2, 0] rfl (hin M3 (w1 + (1 : Int32)) rfl)
def xX12_runs_L49 (v1 : Int32) (w0 : zM) (w1 : Int32) : Option ((zM × Int32) ⊕ zM) :=
  if w1 ≤ 0 then
  (some (.inr w0))
  else
  if (w1 < 0 ∨ 24 ≤ w1.toNatClampNeg) then none else
  if ((w0.1 5 w1.toNatClampNeg) < 0 ∨ 24 ≤ (w0.1 5 w1.toNatClampNeg).toNatClampNeg) then none else
  zlet (zsi w0 26 (w0.1 5 w1.toNatClampNeg).toNatClampNeg w1) fun M4 =>
  zlet (M4.1 2 w1.toNatClampNeg) fun z6 =>
  some (.inl (M4, z6))
set_option maxHeartbeats 4000000 in
set_option maxRecDepth 100000 in
theorem tX12_runs_L49 {κ : Nat → ClassId} {E : zEn} {ad : Nat → Nat} {X : zX} {v1 : Int32} {w0 : zM} {w1 : Int32} {r : ((zM × Int32) ⊕ zM)} (hC : zC X cX12_runs RX12 wsX12_runs vwCl (zty κ) E 5 ({ frames := 1, cells := 0, slots := 0, locals := 24 } : Room)) (hEk : zEk E) (hin : ∀ (x0' : zM) (x1' : Int32), r = .inl (x0', x1') → zV X 0 0 (zwM κ ad x0') [(0, .ref (ad 0)), (1, .int v1), (2, .int x1')] [] 49) (hout0 : ∀ (x0' : zM), r = .inr x0' → zV X 0 0 (zwM κ ad x0') [(0, .ref (ad 0)), (1, .int v1)] [] 75) (h : xX12_runs_L49  v1 w0 w1 = some r) : zV X 0 0 (zwM κ ad w0) [(0, .ref (ad 0)), (1, .int v1), (2, .int w1)] [] 49 := by
  unfold xX12_runs_L49 at h
  refine zr_iload_n (pc := 49) hC 2 rfl rfl dX12_runs_49 ?_
  refine zr_if_le (pc := 50) (tgt := 75) hC dX12_runs_50 (by decide) (fun c1 => ?_) (fun c1 => ?_)
  · replace h := zip h c1
    obtain rfl := Option.some.inj h
    exact zV.sub (lv' := [(0, .ref (ad 0)), (1, .int v1)]) [0, 1] rfl (hout0 w0 rfl)
  · replace h := zin h c1
    refine zr_aload_n (pc := 53) hC 0 rfl rfl dX12_runs_53 ?_
    refine zmg_32 (pc := 54) hC hinX12_runs_X12 flX12_runs_90 dX12_runs_54 ?_
    refine zr_aload_n (pc := 57) hC 0 rfl rfl dX12_runs_57 ?_
    refine zmg_4 (pc := 58) hC hinX12_runs_X12 flX12_runs_22 dX12_runs_58 ?_
    refine zr_iload_n (pc := 61) hC 2 rfl rfl dX12_runs_61 ?_
    obtain ⟨i2, h⟩ := zgd h
    refine zml_5 (pc := 62) hC i2 dX12_runs_62 ?_
    refine zr_iload_n (pc := 63) hC 2 rfl rfl dX12_runs_63 ?_
    obtain ⟨i3, h⟩ := zgd h
    obtain ⟨M4, e5, h⟩ := zle h
    refine zms_26 (pc := 64) hC i3 e5 dX12_runs_64 ?_
    refine zr_aload_n (pc := 65) hC 0 rfl rfl dX12_runs_65 ?_
    refine zmg_1 (pc := 66) hC hinX12_runs_X12 flX12_runs_13 dX12_runs_66 ?_
    refine zr_iload_n (pc := 69) hC 2 rfl rfl dX12_runs_69 ?_
    refine zml_2 (pc := 70) hC i2 dX12_runs_70 ?_
    obtain ⟨z6, e7, h⟩ := zle h
    refine zr_topi e7 ?_
    refine zr_istore_n (pc := 71) (lv' := [(2, .int z6), (0, .ref (ad 0)), (1, .int v1)]) hC rfl (by decide) rfl dX12_runs_71 ?_
    refine zr_goto (pc := 72) (tgt := 49) hC dX12_runs_72 (by decide) ?_
    obtain rfl := Option.some.inj h
    exact zV.sub (lv' := [(0, .ref (ad 0)), (1, .int v1), (2, .int z6)]) [1, 2, 0] rfl (hin M4 z6 rfl)
def xX12_runs_L77 (v1 : Int32) (w0 : zM) (w1 : Int32) : Option ((zM × Int32) ⊕ (zM ⊕ zM)) :=
  if (v1 < 0 ∨ 24 ≤ v1.toNatClampNeg) then none else
  if (w0.1 5 v1.toNatClampNeg) < w1 then
  (some (.inr (.inr w0)))
  else
  if (w1 < 0 ∨ 24 ≤ w1.toNatClampNeg) then none else
  (xX12_answers w0 (w0.1 26 w1.toNatClampNeg)).bind fun q4 =>
  if q4 < 0 then
  (some (.inl (w0, (w1 + (1 : Int32)))))
  else
  (xX12_isOver w0 q4 (w0.1 26 w1.toNatClampNeg) v1).bind fun q6 =>
  if q6.1 = 0 then
  (some (.inl (q6.2, (w1 + (1 : Int32)))))
  else
  some (.inr (.inl q6.2))
set_option maxHeartbeats 4000000 in
set_option maxRecDepth 100000 in
theorem tX12_runs_L77 {κ : Nat → ClassId} {E : zEn} {ad : Nat → Nat} {X : zX} {v1 : Int32} {w0 : zM} {w1 : Int32} {r : ((zM × Int32) ⊕ (zM ⊕ zM))} (hC : zC X cX12_runs RX12 wsX12_runs vwCl (zty κ) E 5 ({ frames := 1, cells := 0, slots := 0, locals := 24 } : Room)) (hEk : zEk E) (hin : ∀ (x0' : zM) (x1' : Int32), r = .inl (x0', x1') → zV X 0 0 (zwM κ ad x0') [(0, .ref (ad 0)), (1, .int v1), (3, .int x1')] [] 77) (hout0 : ∀ (x0' : zM), r = .inr (.inl x0') → zV X 0 0 (zwM κ ad x0') [] [] 120) (hout1 : ∀ (x0' : zM), r = .inr (.inr x0') → zV X 0 0 (zwM κ ad x0') [(0, .ref (ad 0)), (1, .int v1)] [] 127) (h : xX12_runs_L77  v1 w0 w1 = some r) : zV X 0 0 (zwM κ ad w0) [(0, .ref (ad 0)), (1, .int v1), (3, .int w1)] [] 77 := by
  unfold xX12_runs_L77 at h
  refine zr_iload_n (pc := 77) hC 2 rfl rfl dX12_runs_77 ?_
  refine zr_aload_n (pc := 78) hC 0 rfl rfl dX12_runs_78 ?_
  refine zmg_4 (pc := 79) hC hinX12_runs_X12 flX12_runs_22 dX12_runs_79 ?_
  refine zr_iload_n (pc := 82) hC 1 rfl rfl dX12_runs_82 ?_
  obtain ⟨i1, h⟩ := zgd h
  refine zml_5 (pc := 83) hC i1 dX12_runs_83 ?_
  refine zr_icmp_gt (pc := 84) (tgt := 127) hC dX12_runs_84 (by decide) (fun c2 => ?_) (fun c2 => ?_)
  · replace h := zip h c2
    obtain rfl := Option.some.inj h
    exact zV.sub (lv' := [(0, .ref (ad 0)), (1, .int v1)]) [0, 1] rfl (hout1 w0 rfl)
  · replace h := zin h c2
    refine zr_aload_n (pc := 87) hC 0 rfl rfl dX12_runs_87 ?_
    refine zr_aload_n (pc := 88) hC 0 rfl rfl dX12_runs_88 ?_
    refine zmg_32 (pc := 89) hC hinX12_runs_X12 flX12_runs_90 dX12_runs_89 ?_
    refine zr_iload_n (pc := 92) hC 2 rfl rfl dX12_runs_92 ?_
    obtain ⟨i3, h⟩ := zgd h
    refine zml_26 (pc := 93) hC i3 dX12_runs_93 ?_
    obtain ⟨q4, hq4, h⟩ := zbd h
    refine zr_cVi (pc := 94) hC hEk [.int (w0.1 26 w1.toNatClampNeg)] [] 0 1 (fun l D => tX12_answers hEk hq4 l D) gX12_runs_X12_answers rfl rfl rfl ⟨Nat.le_of_ble_eq_true rfl, Nat.le_of_ble_eq_true rfl⟩ hyX12_answers (by decide) entM_0 rfl rfl rfl (Nat.le_of_ble_eq_true rfl) ⟨Nat.le_of_ble_eq_true rfl, Nat.le_of_ble_eq_true rfl⟩ dX12_runs_94 ?_
    refine zr_istore (pc := 97) (lv' := [(4, .int q4), (0, .ref (ad 0)), (1, .int v1), (3, .int w1)]) hC (by decide) rfl dX12_runs_97 ?_
    refine zr_iload (pc := 99) hC 0 rfl dX12_runs_99 ?_
    refine zr_if_lt (pc := 101) (tgt := 121) hC dX12_runs_101 (by decide) (fun c5 => ?_) (fun c5 => ?_)
    · replace h := zip h c5
      refine zr_iinc (pc := 121) (k := 3) (lv' := [(3, .int (w1 + (1 : Int32))), (4, .int q4), (0, .ref (ad 0)), (1, .int v1)]) hC zki_1 (by decide) rfl rfl dX12_runs_121 ?_
      refine zr_goto (pc := 124) (tgt := 77) hC dX12_runs_124 (by decide) ?_
      obtain rfl := Option.some.inj h
      exact zV.sub (lv' := [(0, .ref (ad 0)), (1, .int v1), (3, .int (w1 + (1 : Int32)))]) [2, 3, 0] rfl (hin w0 (w1 + (1 : Int32)) rfl)
    · replace h := zin h c5
      refine zr_aload_n (pc := 104) hC 1 rfl rfl dX12_runs_104 ?_
      refine zr_iload (pc := 105) hC 0 rfl dX12_runs_105 ?_
      refine zr_aload_n (pc := 107) hC 1 rfl rfl dX12_runs_107 ?_
      refine zmg_32 (pc := 108) hC hinX12_runs_X12 flX12_runs_90 dX12_runs_108 ?_
      refine zr_iload_n (pc := 111) hC 3 rfl rfl dX12_runs_111 ?_
      refine zml_26 (pc := 112) hC i3 dX12_runs_112 ?_
      refine zr_iload_n (pc := 113) hC 2 rfl rfl dX12_runs_113 ?_
      obtain ⟨q6, hq6, h⟩ := zbd h
      refine zr_cVi (pc := 114) hC hEk [.int q4, .int (w0.1 26 w1.toNatClampNeg), .int v1] [] 0 3 (fun l D => tX12_isOver hEk hq6 l D) gX12_runs_X12_isOver rfl rfl rfl ⟨Nat.le_of_ble_eq_true rfl, Nat.le_of_ble_eq_true rfl⟩ hyX12_isOver (by decide) entM_0 rfl rfl rfl (Nat.le_of_ble_eq_true rfl) ⟨Nat.le_of_ble_eq_true rfl, Nat.le_of_ble_eq_true rfl⟩ dX12_runs_114 ?_
      refine zr_if_eq (pc := 117) (tgt := 121) hC dX12_runs_117 (by decide) (fun c7 => ?_) (fun c7 => ?_)
      · replace h := zip h c7
        refine zr_iinc (pc := 121) (k := 3) (lv' := [(3, .int (w1 + (1 : Int32))), (4, .int q4), (0, .ref (ad 0)), (1, .int v1)]) hC zki_1 (by decide) rfl rfl dX12_runs_121 ?_
        refine zr_goto (pc := 124) (tgt := 77) hC dX12_runs_124 (by decide) ?_
        obtain rfl := Option.some.inj h
        exact zV.sub (lv' := [(0, .ref (ad 0)), (1, .int v1), (3, .int (w1 + (1 : Int32)))]) [2, 3, 0] rfl (hin q6.2 (w1 + (1 : Int32)) rfl)
      · replace h := zin h c7
        obtain rfl := Option.some.inj h
        exact zV.sub (lv' := []) [] rfl (hout0 q6.2 rfl)
def xX12_runs_L133 (v1 : Int32) (w0 : zM) (w1 : Int32) : Option ((zM × Int32) ⊕ (zM ⊕ zM)) :=
  if w1 < 0 then
  (some (.inr (.inr w0)))
  else
  (xX12_isOver w0 w1 v1 v1).bind fun q2 =>
  if q2.1 = 0 then
  ((xX12_answers q2.2 v1).bind fun q4 =>
  some (.inl (q2.2, q4)))
  else
  some (.inr (.inl q2.2))
set_option maxHeartbeats 4000000 in
set_option maxRecDepth 100000 in
theorem tX12_runs_L133 {κ : Nat → ClassId} {E : zEn} {ad : Nat → Nat} {X : zX} {v1 : Int32} {w0 : zM} {w1 : Int32} {r : ((zM × Int32) ⊕ (zM ⊕ zM))} (hC : zC X cX12_runs RX12 wsX12_runs vwCl (zty κ) E 5 ({ frames := 1, cells := 0, slots := 0, locals := 24 } : Room)) (hEk : zEk E) (hin : ∀ (x0' : zM) (x1' : Int32), r = .inl (x0', x1') → zV X 0 0 (zwM κ ad x0') [(0, .ref (ad 0)), (1, .int v1), (3, .int x1')] [] 133) (hout0 : ∀ (x0' : zM), r = .inr (.inl x0') → zV X 0 0 (zwM κ ad x0') [] [] 147) (hout1 : ∀ (x0' : zM), r = .inr (.inr x0') → zV X 0 0 (zwM κ ad x0') [] [] 157) (h : xX12_runs_L133  v1 w0 w1 = some r) : zV X 0 0 (zwM κ ad w0) [(0, .ref (ad 0)), (1, .int v1), (3, .int w1)] [] 133 := by
  unfold xX12_runs_L133 at h
  refine zr_iload_n (pc := 133) hC 2 rfl rfl dX12_runs_133 ?_
  refine zr_if_lt (pc := 134) (tgt := 157) hC dX12_runs_134 (by decide) (fun c1 => ?_) (fun c1 => ?_)
  · replace h := zip h c1
    obtain rfl := Option.some.inj h
    exact zV.sub (lv' := []) [] rfl (hout1 w0 rfl)
  · replace h := zin h c1
    refine zr_aload_n (pc := 137) hC 0 rfl rfl dX12_runs_137 ?_
    refine zr_iload_n (pc := 138) hC 2 rfl rfl dX12_runs_138 ?_
    refine zr_iload_n (pc := 139) hC 1 rfl rfl dX12_runs_139 ?_
    refine zr_iload_n (pc := 140) hC 1 rfl rfl dX12_runs_140 ?_
    obtain ⟨q2, hq2, h⟩ := zbd h
    refine zr_cVi (pc := 141) hC hEk [.int w1, .int v1, .int v1] [] 0 3 (fun l D => tX12_isOver hEk hq2 l D) gX12_runs_X12_isOver rfl rfl rfl ⟨Nat.le_of_ble_eq_true rfl, Nat.le_of_ble_eq_true rfl⟩ hyX12_isOver (by decide) entM_0 rfl rfl rfl (Nat.le_of_ble_eq_true rfl) ⟨Nat.le_of_ble_eq_true rfl, Nat.le_of_ble_eq_true rfl⟩ dX12_runs_141 ?_
    refine zr_if_eq (pc := 144) (tgt := 148) hC dX12_runs_144 (by decide) (fun c3 => ?_) (fun c3 => ?_)
    · replace h := zip h c3
      refine zr_aload_n (pc := 148) hC 0 rfl rfl dX12_runs_148 ?_
      refine zr_iload_n (pc := 149) hC 1 rfl rfl dX12_runs_149 ?_
      obtain ⟨q4, hq4, h⟩ := zbd h
      refine zr_cVi (pc := 150) hC hEk [.int v1] [] 0 1 (fun l D => tX12_answers hEk hq4 l D) gX12_runs_X12_answers rfl rfl rfl ⟨Nat.le_of_ble_eq_true rfl, Nat.le_of_ble_eq_true rfl⟩ hyX12_answers (by decide) entM_0 rfl rfl rfl (Nat.le_of_ble_eq_true rfl) ⟨Nat.le_of_ble_eq_true rfl, Nat.le_of_ble_eq_true rfl⟩ dX12_runs_150 ?_
      refine zr_istore_n (pc := 153) (lv' := [(3, .int q4), (0, .ref (ad 0)), (1, .int v1)]) hC rfl (by decide) rfl dX12_runs_153 ?_
      refine zr_goto (pc := 154) (tgt := 133) hC dX12_runs_154 (by decide) ?_
      obtain rfl := Option.some.inj h
      exact zV.sub (lv' := [(0, .ref (ad 0)), (1, .int v1), (3, .int q4)]) [1, 2, 0] rfl (hin q2.2 q4 rfl)
    · replace h := zin h c3
      obtain rfl := Option.some.inj h
      exact zV.sub (lv' := []) [] rfl (hout0 q2.2 rfl)
def xX12_runs (M : zM) (v1 : Int32) : Option zM :=
  zlet (zsi M 0 34 (-9 : Int32)) fun M1 =>
  zlet (zsi M1 0 35 (-9 : Int32)) fun M3 =>
  zlet (zsi M3 0 36 (-1 : Int32)) fun M5 =>
  zlet (zsi M5 0 37 (0 : Int32)) fun M7 =>
  zlet (zsi M7 0 38 (0 : Int32)) fun M9 =>
  (x_it (fun a9 => xX12_runs_L29 v1 a9.1 a9.2) zFU (M9, (0 : Int32))).bind fun q11 =>
  (x_it (fun a9 => xX12_runs_L49 v1 a9.1 a9.2) zFU (q11, v1)).bind fun q12 =>
  (x_it (fun a9 => xX12_runs_L77 v1 a9.1 a9.2) zFU (q12, (1 : Int32))).bind fun q13 =>
  Sum.elim (fun b14 => some b14) (fun c15 => (xX12_answers c15 v1).bind fun q16 =>
  (x_it (fun a9 => xX12_runs_L133 v1 a9.1 a9.2) zFU (c15, q16)).bind fun q17 =>
  Sum.elim (fun b18 => some b18) (fun c19 => some c19) q17) q13
set_option maxHeartbeats 4000000 in
set_option maxRecDepth 100000 in
theorem tX12_runs {κ : Nat → ClassId} {E : zEn} {ad : Nat → Nat} (hEk : zEk E) {M : zM} {v1 : Int32} {res : zM} (h : xX12_runs M v1 = some res) (l : Launch) (D : va_G) : zCT E D vwCl (zty κ) l yX12_runs wsX12_runs ({ frames := 1, cells := 0, slots := 0, locals := 24 } : Room) 0 0 [.ref (ad 0), .int v1] (zwM κ ad M) (zPd none (zwM κ ad res)) := by
  refine zCT.of (cc := cX12_runs) (maxL := 5) (ret := none) (by decide) rfl (Nat.le_of_ble_eq_true rfl) ?_
  intro X hC hR
  unfold xX12_runs at h
  refine zV.sub (lv' := [(0, .ref (ad 0)), (1, .int v1)]) [0, 1] rfl ?_
  refine zr_aload_n (pc := 0) hC 0 rfl rfl dX12_runs_0 ?_
  refine zr_bipush (pc := 1) hC zkb_m9 dX12_runs_1 ?_
  obtain ⟨M1, e2, h⟩ := zle h
  refine zmp_34 (pc := 3) hC hinX12_runs_X12 flX12_runs_262 e2 dX12_runs_3 ?_
  refine zr_aload_n (pc := 6) hC 0 rfl rfl dX12_runs_6 ?_
  refine zr_bipush (pc := 7) hC zkb_m9 dX12_runs_7 ?_
  obtain ⟨M3, e4, h⟩ := zle h
  refine zmp_35 (pc := 9) hC hinX12_runs_X12 flX12_runs_259 e4 dX12_runs_9 ?_
  refine zr_aload_n (pc := 12) hC 0 rfl rfl dX12_runs_12 ?_
  refine zr_iconst (pc := 13) hC zki_m1 dX12_runs_13 ?_
  obtain ⟨M5, e6, h⟩ := zle h
  refine zmp_36 (pc := 14) hC hinX12_runs_X12 flX12_runs_256 e6 dX12_runs_14 ?_
  refine zr_aload_n (pc := 17) hC 0 rfl rfl dX12_runs_17 ?_
  refine zr_iconst (pc := 18) hC zki_0 dX12_runs_18 ?_
  obtain ⟨M7, e8, h⟩ := zle h
  refine zmp_37 (pc := 19) hC hinX12_runs_X12 flX12_runs_250 e8 dX12_runs_19 ?_
  refine zr_aload_n (pc := 22) hC 0 rfl rfl dX12_runs_22 ?_
  refine zr_iconst (pc := 23) hC zki_0 dX12_runs_23 ?_
  obtain ⟨M9, e10, h⟩ := zle h
  refine zmp_38 (pc := 24) hC hinX12_runs_X12 flX12_runs_253 e10 dX12_runs_24 ?_
  refine zr_iconst (pc := 27) hC zki_0 dX12_runs_27 ?_
  refine zr_istore_n (pc := 28) (lv' := [(2, .int (0 : Int32)), (0, .ref (ad 0)), (1, .int v1)]) hC rfl (by decide) rfl dX12_runs_28 ?_
  obtain ⟨q11, hq11, h⟩ := zbd h
  refine zV.sub (lv' := [(0, .ref (ad 0)), (1, .int v1), (2, .int (0 : Int32))]) [1, 2, 0] rfl ?_
  refine zit2 (Wp := fun (y0 : zM) (y1 : Int32) => zV X 0 0 (zwM κ ad y0) [(0, .ref (ad 0)), (1, .int v1), (2, .int y1)] [] 29) (Ex := fun (b9 : zM) => zV X 0 0 (zwM κ ad b9) [(0, .ref (ad 0)), (1, .int v1)] [] 47) (fun y0 y1 r9 hr hin hout => tX12_runs_L29 hC hEk hin (fun z0 e9 => hout z0 e9) hr) zFU M9 (0 : Int32) q11 hq11 ?_
  show zV X 0 0 (zwM κ ad q11) [(0, .ref (ad 0)), (1, .int v1)] [] 47
  refine zr_iload_n (pc := 47) hC 1 rfl rfl dX12_runs_47 ?_
  refine zr_istore_n (pc := 48) (lv' := [(2, .int v1), (0, .ref (ad 0)), (1, .int v1)]) hC rfl (by decide) rfl dX12_runs_48 ?_
  obtain ⟨q12, hq12, h⟩ := zbd h
  refine zV.sub (lv' := [(0, .ref (ad 0)), (1, .int v1), (2, .int v1)]) [1, 2, 0] rfl ?_
  refine zit2 (Wp := fun (y0 : zM) (y1 : Int32) => zV X 0 0 (zwM κ ad y0) [(0, .ref (ad 0)), (1, .int v1), (2, .int y1)] [] 49) (Ex := fun (b9 : zM) => zV X 0 0 (zwM κ ad b9) [(0, .ref (ad 0)), (1, .int v1)] [] 75) (fun y0 y1 r9 hr hin hout => tX12_runs_L49 hC hEk hin (fun z0 e9 => hout z0 e9) hr) zFU q11 v1 q12 hq12 ?_
  show zV X 0 0 (zwM κ ad q12) [(0, .ref (ad 0)), (1, .int v1)] [] 75
  refine zr_iconst (pc := 75) hC zki_1 dX12_runs_75 ?_
  refine zr_istore_n (pc := 76) (lv' := [(3, .int (1 : Int32)), (0, .ref (ad 0)), (1, .int v1)]) hC rfl (by decide) rfl dX12_runs_76 ?_
  obtain ⟨q13, hq13, h⟩ := zbd h
  refine zV.sub (lv' := [(0, .ref (ad 0)), (1, .int v1), (3, .int (1 : Int32))]) [1, 2, 0] rfl ?_
  refine zit2 (Wp := fun (y0 : zM) (y1 : Int32) => zV X 0 0 (zwM κ ad y0) [(0, .ref (ad 0)), (1, .int v1), (3, .int y1)] [] 77) (Ex := fun (b9 : (zM ⊕ zM)) => Sum.elim (fun (b0 : zM) => zV X 0 0 (zwM κ ad b0) [] [] 120) (fun (c0 : zM) => zV X 0 0 (zwM κ ad c0) [(0, .ref (ad 0)), (1, .int v1)] [] 127) b9) (fun y0 y1 r9 hr hin hout => tX12_runs_L77 hC hEk hin (fun z0 e9 => hout (.inl z0) e9) (fun z0 e9 => hout (.inr z0) e9) hr) zFU q12 (1 : Int32) q13 hq13 ?_
  rcases q13 with b14 | c15
  · replace h := zel h
    show zV X 0 0 (zwM κ ad b14) [] [] 120
    obtain rfl := Option.some.inj h
    exact zr_vret hC hR ⟨rfl, rfl⟩ (Nat.le_refl _) (Nat.le_refl _) dX12_runs_120
  · replace h := zer h
    show zV X 0 0 (zwM κ ad c15) [(0, .ref (ad 0)), (1, .int v1)] [] 127
    refine zr_aload_n (pc := 127) hC 0 rfl rfl dX12_runs_127 ?_
    refine zr_iload_n (pc := 128) hC 1 rfl rfl dX12_runs_128 ?_
    obtain ⟨q16, hq16, h⟩ := zbd h
    refine zr_cVi (pc := 129) hC hEk [.int v1] [] 0 1 (fun l D => tX12_answers hEk hq16 l D) gX12_runs_X12_answers rfl rfl rfl ⟨Nat.le_of_ble_eq_true rfl, Nat.le_of_ble_eq_true rfl⟩ hyX12_answers (by decide) entM_0 rfl rfl rfl (Nat.le_of_ble_eq_true rfl) ⟨Nat.le_of_ble_eq_true rfl, Nat.le_of_ble_eq_true rfl⟩ dX12_runs_129 ?_
    refine zr_istore_n (pc := 132) (lv' := [(3, .int q16), (0, .ref (ad 0)), (1, .int v1)]) hC rfl (by decide) rfl dX12_runs_132 ?_
    obtain ⟨q17, hq17, h⟩ := zbd h
    refine zV.sub (lv' := [(0, .ref (ad 0)), (1, .int v1), (3, .int q16)]) [1, 2, 0] rfl ?_
    refine zit2 (Wp := fun (y0 : zM) (y1 : Int32) => zV X 0 0 (zwM κ ad y0) [(0, .ref (ad 0)), (1, .int v1), (3, .int y1)] [] 133) (Ex := fun (b9 : (zM ⊕ zM)) => Sum.elim (fun (b0 : zM) => zV X 0 0 (zwM κ ad b0) [] [] 147) (fun (c0 : zM) => zV X 0 0 (zwM κ ad c0) [] [] 157) b9) (fun y0 y1 r9 hr hin hout => tX12_runs_L133 hC hEk hin (fun z0 e9 => hout (.inl z0) e9) (fun z0 e9 => hout (.inr z0) e9) hr) zFU c15 q16 q17 hq17 ?_
    rcases q17 with b18 | c19
    · replace h := zel h
      show zV X 0 0 (zwM κ ad b18) [] [] 147
      obtain rfl := Option.some.inj h
      exact zr_vret hC hR ⟨rfl, rfl⟩ (Nat.le_refl _) (Nat.le_refl _) dX12_runs_147
    · replace h := zer h
      show zV X 0 0 (zwM κ ad c19) [] [] 157
      obtain rfl := Option.some.inj h
      exact zr_vret hC hR ⟨rfl, rfl⟩ (Nat.le_refl _) (Nat.le_refl _) dX12_runs_157
/-! X12_run -/
theorem hyX12_run : yX12_run.cls = RX12 ∧ yX12_run.cls ≠ "java/lang/invoke/MethodHandle" ∧ yX12_run.cls ≠ "java/lang/invoke/VarHandle" ∧ (parseMethodDescriptor yX12_run.desc).map (fun d => d.parameters.length) = some 2 := by decide +kernel
theorem flX12_run_19 : Cond.fieldLink RX12 19 "BeforeTheEndModel" "answer" "[I" ∈ wsX12_run := by decide +kernel
theorem flX12_run_250 : Cond.fieldLink RX12 250 "BeforeTheEndModel" "wrongs" "I" ∈ wsX12_run := by decide +kernel
theorem flX12_run_259 : Cond.fieldLink RX12 259 "BeforeTheEndModel" "firstWord" "I" ∈ wsX12_run := by decide +kernel
theorem flX12_run_262 : Cond.fieldLink RX12 262 "BeforeTheEndModel" "winner" "I" ∈ wsX12_run := by decide +kernel
theorem hinX12_run_X12 : ∀ w ∈ wsX120, w ∈ wsX12_run := fun _ h => List.mem_cons_of_mem _ (List.mem_append_right _ h)
def xX12_run (M : zM) (v1 : Int32) (v2 : Int32) : Option (Int32 × zM) :=
  (xX12_isWord M v1).bind fun q1 =>
  if q1 = 0 then
  ((xX12_no M (-1 : Int32)).bind fun q3 =>
  some (q3.1, q3.2))
  else
  if (v1 < 0 ∨ 24 ≤ v1.toNatClampNeg) then none else
  if (M.1 4 v1.toNatClampNeg) = 0 then
  ((xX12_no M (-1 : Int32)).bind fun q16 =>
  some (q16.1, q16.2))
  else
  (xX12_isIn v2 (0 : Int32) (2 : Int32)).bind fun q6 =>
  if q6 = 0 then
  ((xX12_no M (-2 : Int32)).bind fun q15 =>
  some (q15.1, q15.2))
  else
  (xX12_isWhole M).bind fun q8 =>
  if q8 = 0 then
  ((xX12_no M (-3 : Int32)).bind fun q14 =>
  some (q14.1, q14.2))
  else
  (xX12_finds M).bind fun q10 =>
  (xX12_runs q10 v1).bind fun q11 =>
  if v2 = 0 then
  (some ((q11.1 0 34), q11))
  else
  if v2 = (1 : Int32) then
  (some ((q11.1 0 35), q11))
  else
  some ((q11.1 0 37), q11)
set_option maxHeartbeats 4000000 in
set_option maxRecDepth 100000 in
theorem tX12_run {κ : Nat → ClassId} {E : zEn} {ad : Nat → Nat} (hEk : zEk E) {M : zM} {v1 : Int32} {v2 : Int32} {res : (Int32 × zM)} (h : xX12_run M v1 v2 = some res) (l : Launch) (D : va_G) : zCT E D vwCl (zty κ) l yX12_run wsX12_run ({ frames := 5, cells := 0, slots := 0, locals := 115 } : Room) 0 0 [.ref (ad 0), .int v1, .int v2] (zwM κ ad M) (zPd (some (.int res.1)) (zwM κ ad res.2)) := by
  refine zCT.of (cc := cX12_run) (maxL := 3) (ret := (some .int)) (by decide) rfl (Nat.le_of_ble_eq_true rfl) ?_
  intro X hC hR
  unfold xX12_run at h
  refine zV.sub (lv' := [(0, .ref (ad 0)), (1, .int v1), (2, .int v2)]) [0, 1, 2] rfl ?_
  refine zr_aload_n (pc := 0) hC 0 rfl rfl dX12_run_0 ?_
  refine zr_iload_n (pc := 1) hC 1 rfl rfl dX12_run_1 ?_
  obtain ⟨q1, hq1, h⟩ := zbd h
  refine zr_cVi (pc := 2) hC hEk [.int v1] [] 0 1 (fun l D => tX12_isWord hEk hq1 l D) gX12_run_X12_isWord rfl rfl rfl ⟨Nat.le_of_ble_eq_true rfl, Nat.le_of_ble_eq_true rfl⟩ hyX12_isWord (by decide) entM_0 rfl rfl rfl (Nat.le_of_ble_eq_true rfl) ⟨Nat.le_of_ble_eq_true rfl, Nat.le_of_ble_eq_true rfl⟩ dX12_run_2 ?_
  refine zr_if_eq (pc := 5) (tgt := 17) hC dX12_run_5 (by decide) (fun c2 => ?_) (fun c2 => ?_)
  · replace h := zip h c2
    refine zr_aload_n (pc := 17) hC 0 rfl rfl dX12_run_17 ?_
    refine zr_iconst (pc := 18) hC zki_m1 dX12_run_18 ?_
    obtain ⟨q3, hq3, h⟩ := zbd h
    refine zr_cVi (pc := 19) hC hEk [.int (-1 : Int32)] [] 0 1 (fun l D => tX12_no hEk hq3 l D) gX12_run_X12_no rfl rfl rfl ⟨Nat.le_of_ble_eq_true rfl, Nat.le_of_ble_eq_true rfl⟩ hyX12_no (by decide) entM_0 rfl rfl rfl (Nat.le_of_ble_eq_true rfl) ⟨Nat.le_of_ble_eq_true rfl, Nat.le_of_ble_eq_true rfl⟩ dX12_run_19 ?_
    obtain rfl := Option.some.inj h
    exact zr_iret hC hR ⟨rfl, rfl⟩ (Nat.le_refl _) (Nat.le_refl _) dX12_run_22
  · replace h := zin h c2
    refine zr_aload_n (pc := 8) hC 0 rfl rfl dX12_run_8 ?_
    refine zmg_3 (pc := 9) hC hinX12_run_X12 flX12_run_19 dX12_run_9 ?_
    refine zr_iload_n (pc := 12) hC 1 rfl rfl dX12_run_12 ?_
    obtain ⟨i4, h⟩ := zgd h
    refine zml_4 (pc := 13) hC i4 dX12_run_13 ?_
    refine zr_if_ne (pc := 14) (tgt := 23) hC dX12_run_14 (by decide) (fun c5 => ?_) (fun c5 => ?_)
    · replace h := zin h c5
      refine zr_iload_n (pc := 23) hC 2 rfl rfl dX12_run_23 ?_
      refine zr_iconst (pc := 24) hC zki_0 dX12_run_24 ?_
      refine zr_iconst (pc := 25) hC zki_2 dX12_run_25 ?_
      obtain ⟨q6, hq6, h⟩ := zbd h
      refine zr_cSi (pc := 26) hC hEk [.int v2, .int (0 : Int32), .int (2 : Int32)] [] 3 (fun l D => tX12_isIn hEk hq6 l D) gX12_run_X12_isIn rfl rfl rfl ⟨Nat.le_of_ble_eq_true rfl, Nat.le_of_ble_eq_true rfl⟩ hyX12_isIn rfl rfl (Nat.le_of_ble_eq_true rfl) ⟨Nat.le_of_ble_eq_true rfl, Nat.le_of_ble_eq_true rfl⟩ dX12_run_26 ?_
      refine zr_if_ne (pc := 29) (tgt := 39) hC dX12_run_29 (by decide) (fun c7 => ?_) (fun c7 => ?_)
      · replace h := zin h c7
        refine zr_aload_n (pc := 39) hC 0 rfl rfl dX12_run_39 ?_
        obtain ⟨q8, hq8, h⟩ := zbd h
        refine zr_cVi (pc := 40) hC hEk [] [] 0 0 (fun l D => tX12_isWhole hEk hq8 l D) gX12_run_X12_isWhole rfl rfl rfl ⟨Nat.le_of_ble_eq_true rfl, Nat.le_of_ble_eq_true rfl⟩ hyX12_isWhole (by decide) entM_0 rfl rfl rfl (Nat.le_of_ble_eq_true rfl) ⟨Nat.le_of_ble_eq_true rfl, Nat.le_of_ble_eq_true rfl⟩ dX12_run_40 ?_
        refine zr_if_ne (pc := 43) (tgt := 53) hC dX12_run_43 (by decide) (fun c9 => ?_) (fun c9 => ?_)
        · replace h := zin h c9
          refine zr_aload_n (pc := 53) hC 0 rfl rfl dX12_run_53 ?_
          obtain ⟨q10, hq10, h⟩ := zbd h
          refine zr_cVv (pc := 54) hC hEk [] [] 0 0 (fun l D => tX12_finds hEk hq10 l D) gX12_run_X12_finds rfl rfl rfl ⟨Nat.le_of_ble_eq_true rfl, Nat.le_of_ble_eq_true rfl⟩ hyX12_finds (by decide) entM_0 rfl rfl rfl (Nat.le_of_ble_eq_true rfl) ⟨Nat.le_of_ble_eq_true rfl, Nat.le_of_ble_eq_true rfl⟩ dX12_run_54 ?_
          refine zr_aload_n (pc := 57) hC 0 rfl rfl dX12_run_57 ?_
          refine zr_iload_n (pc := 58) hC 1 rfl rfl dX12_run_58 ?_
          obtain ⟨q11, hq11, h⟩ := zbd h
          refine zr_cVv (pc := 59) hC hEk [.int v1] [] 0 1 (fun l D => tX12_runs hEk hq11 l D) gX12_run_X12_runs rfl rfl rfl ⟨Nat.le_of_ble_eq_true rfl, Nat.le_of_ble_eq_true rfl⟩ hyX12_runs (by decide) entM_0 rfl rfl rfl (Nat.le_of_ble_eq_true rfl) ⟨Nat.le_of_ble_eq_true rfl, Nat.le_of_ble_eq_true rfl⟩ dX12_run_59 ?_
          refine zr_iload_n (pc := 62) hC 2 rfl rfl dX12_run_62 ?_
          refine zr_if_ne (pc := 63) (tgt := 73) hC dX12_run_63 (by decide) (fun c12 => ?_) (fun c12 => ?_)
          · replace h := zin h c12
            refine zr_iload_n (pc := 73) hC 2 rfl rfl dX12_run_73 ?_
            refine zr_iconst (pc := 74) hC zki_1 dX12_run_74 ?_
            refine zr_icmp_ne (pc := 75) (tgt := 85) hC dX12_run_75 (by decide) (fun c13 => ?_) (fun c13 => ?_)
            · replace h := zin h c13
              refine zr_aload_n (pc := 85) hC 0 rfl rfl dX12_run_85 ?_
              refine zmg_37 (pc := 86) hC hinX12_run_X12 flX12_run_250 dX12_run_86 ?_
              obtain rfl := Option.some.inj h
              exact zr_iret hC hR ⟨rfl, rfl⟩ (Nat.le_refl _) (Nat.le_refl _) dX12_run_89
            · replace h := zip h c13
              refine zr_aload_n (pc := 78) hC 0 rfl rfl dX12_run_78 ?_
              refine zmg_35 (pc := 79) hC hinX12_run_X12 flX12_run_259 dX12_run_79 ?_
              refine zr_goto (pc := 82) (tgt := 89) hC dX12_run_82 (by decide) ?_
              obtain rfl := Option.some.inj h
              exact zr_iret hC hR ⟨rfl, rfl⟩ (Nat.le_refl _) (Nat.le_refl _) dX12_run_89
          · replace h := zip h c12
            refine zr_aload_n (pc := 66) hC 0 rfl rfl dX12_run_66 ?_
            refine zmg_34 (pc := 67) hC hinX12_run_X12 flX12_run_262 dX12_run_67 ?_
            refine zr_goto (pc := 70) (tgt := 89) hC dX12_run_70 (by decide) ?_
            obtain rfl := Option.some.inj h
            exact zr_iret hC hR ⟨rfl, rfl⟩ (Nat.le_refl _) (Nat.le_refl _) dX12_run_89
        · replace h := zip h c9
          refine zr_aload_n (pc := 46) hC 0 rfl rfl dX12_run_46 ?_
          refine zr_bipush (pc := 47) hC zkb_m3 dX12_run_47 ?_
          obtain ⟨q14, hq14, h⟩ := zbd h
          refine zr_cVi (pc := 49) hC hEk [.int (-3 : Int32)] [] 0 1 (fun l D => tX12_no hEk hq14 l D) gX12_run_X12_no rfl rfl rfl ⟨Nat.le_of_ble_eq_true rfl, Nat.le_of_ble_eq_true rfl⟩ hyX12_no (by decide) entM_0 rfl rfl rfl (Nat.le_of_ble_eq_true rfl) ⟨Nat.le_of_ble_eq_true rfl, Nat.le_of_ble_eq_true rfl⟩ dX12_run_49 ?_
          obtain rfl := Option.some.inj h
          exact zr_iret hC hR ⟨rfl, rfl⟩ (Nat.le_refl _) (Nat.le_refl _) dX12_run_52
      · replace h := zip h c7
        refine zr_aload_n (pc := 32) hC 0 rfl rfl dX12_run_32 ?_
        refine zr_bipush (pc := 33) hC zkb_m2 dX12_run_33 ?_
        obtain ⟨q15, hq15, h⟩ := zbd h
        refine zr_cVi (pc := 35) hC hEk [.int (-2 : Int32)] [] 0 1 (fun l D => tX12_no hEk hq15 l D) gX12_run_X12_no rfl rfl rfl ⟨Nat.le_of_ble_eq_true rfl, Nat.le_of_ble_eq_true rfl⟩ hyX12_no (by decide) entM_0 rfl rfl rfl (Nat.le_of_ble_eq_true rfl) ⟨Nat.le_of_ble_eq_true rfl, Nat.le_of_ble_eq_true rfl⟩ dX12_run_35 ?_
        obtain rfl := Option.some.inj h
        exact zr_iret hC hR ⟨rfl, rfl⟩ (Nat.le_refl _) (Nat.le_refl _) dX12_run_38
    · replace h := zip h c5
      refine zr_aload_n (pc := 17) hC 0 rfl rfl dX12_run_17 ?_
      refine zr_iconst (pc := 18) hC zki_m1 dX12_run_18 ?_
      obtain ⟨q16, hq16, h⟩ := zbd h
      refine zr_cVi (pc := 19) hC hEk [.int (-1 : Int32)] [] 0 1 (fun l D => tX12_no hEk hq16 l D) gX12_run_X12_no rfl rfl rfl ⟨Nat.le_of_ble_eq_true rfl, Nat.le_of_ble_eq_true rfl⟩ hyX12_no (by decide) entM_0 rfl rfl rfl (Nat.le_of_ble_eq_true rfl) ⟨Nat.le_of_ble_eq_true rfl, Nat.le_of_ble_eq_true rfl⟩ dX12_run_19 ?_
      obtain rfl := Option.some.inj h
      exact zr_iret hC hR ⟨rfl, rfl⟩ (Nat.le_refl _) (Nat.le_refl _) dX12_run_22
/-! X12_sumOver -/
theorem hyX12_sumOver : yX12_sumOver.cls = RX12 ∧ yX12_sumOver.cls ≠ "java/lang/invoke/MethodHandle" ∧ yX12_sumOver.cls ≠ "java/lang/invoke/VarHandle" ∧ (parseMethodDescriptor yX12_sumOver.desc).map (fun d => d.parameters.length) = some 2 := by decide +kernel
theorem flX12_sumOver_19 : Cond.fieldLink RX12 19 "BeforeTheEndModel" "answer" "[I" ∈ wsX12_sumOver := by decide +kernel
theorem flX12_sumOver_259 : Cond.fieldLink RX12 259 "BeforeTheEndModel" "firstWord" "I" ∈ wsX12_sumOver := by decide +kernel
theorem flX12_sumOver_262 : Cond.fieldLink RX12 262 "BeforeTheEndModel" "winner" "I" ∈ wsX12_sumOver := by decide +kernel
theorem flX12_sumOver_46 : Cond.fieldLink RX12 46 "BeforeTheEndModel" "words" "I" ∈ wsX12_sumOver := by decide +kernel
theorem flX12_sumOver_71 : Cond.fieldLink RX12 71 "BeforeTheEndModel" "share" "[J" ∈ wsX12_sumOver := by decide +kernel
theorem flX12_sumOver_93 : Cond.fieldLink RX12 93 "BeforeTheEndModel" "gets" "[I" ∈ wsX12_sumOver := by decide +kernel
theorem hinX12_sumOver_X12 : ∀ w ∈ wsX120, w ∈ wsX12_sumOver := fun _ h => List.mem_cons_of_mem _ (List.mem_append_right _ h)
def xX12_sumOver_b82_5 (M : zM) (v1 : Int32) (v2 : Int32) (v3 : Int64) (v5 : Int32) : Option ((zM × Int64 × Int32) ⊕ (zM × Int64)) :=
  if v1 = (2 : Int32) then
  (if 0 ≤ (M.1 0 34) then
  (zlet (v3 + (0 : Int64)) fun z14 =>
  if v1 = (3 : Int32) then
  (if (M.1 0 35) < 0 then
  (if (v5 < 0 ∨ 24 ≤ v5.toNatClampNeg) then none else
  zlet (z14 + (M.2 20 v5.toNatClampNeg)) fun z19 =>
  some (.inl (M, z19, (v5 + (1 : Int32)))))
  else
  if (M.1 0 35) = v5 then
  (if (v5 < 0 ∨ 24 ≤ v5.toNatClampNeg) then none else
  zlet (z14 + (M.2 20 v5.toNatClampNeg)) fun z25 =>
  some (.inl (M, z25, (v5 + (1 : Int32)))))
  else
  zlet (z14 + (0 : Int64)) fun z22 =>
  some (.inl (M, z22, (v5 + (1 : Int32)))))
  else
  some (.inl (M, z14, (v5 + (1 : Int32)))))
  else
  if (v5 < 0 ∨ 24 ≤ v5.toNatClampNeg) then none else
  zlet (v3 + (M.2 20 v5.toNatClampNeg)) fun z28 =>
  if v1 = (3 : Int32) then
  (if (M.1 0 35) < 0 then
  (zlet (z28 + (M.2 20 v5.toNatClampNeg)) fun z32 =>
  some (.inl (M, z32, (v5 + (1 : Int32)))))
  else
  if (M.1 0 35) = v5 then
  (zlet (z28 + (M.2 20 v5.toNatClampNeg)) fun z37 =>
  some (.inl (M, z37, (v5 + (1 : Int32)))))
  else
  zlet (z28 + (0 : Int64)) fun z35 =>
  some (.inl (M, z35, (v5 + (1 : Int32)))))
  else
  some (.inl (M, z28, (v5 + (1 : Int32)))))
  else
  if v1 = (3 : Int32) then
  (if (M.1 0 35) < 0 then
  (if (v5 < 0 ∨ 24 ≤ v5.toNatClampNeg) then none else
  zlet (v3 + (M.2 20 v5.toNatClampNeg)) fun z5 =>
  some (.inl (M, z5, (v5 + (1 : Int32)))))
  else
  if (M.1 0 35) = v5 then
  (if (v5 < 0 ∨ 24 ≤ v5.toNatClampNeg) then none else
  zlet (v3 + (M.2 20 v5.toNatClampNeg)) fun z11 =>
  some (.inl (M, z11, (v5 + (1 : Int32)))))
  else
  zlet (v3 + (0 : Int64)) fun z8 =>
  some (.inl (M, z8, (v5 + (1 : Int32)))))
  else
  some (.inl (M, v3, (v5 + (1 : Int32))))
set_option maxHeartbeats 4000000 in
set_option maxRecDepth 100000 in
theorem tX12_sumOver_b82_5 {κ : Nat → ClassId} {E : zEn} {ad : Nat → Nat} {X : zX} {M : zM} {v1 : Int32} {v2 : Int32} {v3 : Int64} {v5 : Int32} {r : ((zM × Int64 × Int32) ⊕ (zM × Int64))} (hC : zC X cX12_sumOver RX12 wsX12_sumOver vwCl (zty κ) E 6 ({ frames := 2, cells := 0, slots := 0, locals := 48 } : Room)) (hEk : zEk E) (hin : ∀ (x0' : zM) (x1' : Int64) (x2' : Int32), r = .inl (x0', x1', x2') → zV X 0 0 (zwM κ ad x0') [(0, .ref (ad 0)), (1, .int v1), (2, .int v2), (3, .long x1'), (5, .int x2')] [] 5) (hout0 : ∀ (x0' : zM) (x1' : Int64), r = .inr (x0', x1') → zV X 0 0 (zwM κ ad x0') [(3, .long x1')] [] 149) (h : xX12_sumOver_b82_5 M v1 v2 v3 v5  = some r) : zV X 0 0 (zwM κ ad M) [(0, .ref (ad 0)), (1, .int v1), (2, .int v2), (3, .long v3), (5, .int v5)] [] 82 := by
  unfold xX12_sumOver_b82_5 at h
  refine zr_iload_n (pc := 82) hC 1 rfl rfl dX12_sumOver_82 ?_
  refine zr_iconst (pc := 83) hC zki_2 dX12_sumOver_83 ?_
  refine zr_icmp_ne (pc := 84) (tgt := 108) hC dX12_sumOver_84 (by decide) (fun c1 => ?_) (fun c1 => ?_)
  · replace h := zin h c1
    refine zr_iload_n (pc := 108) hC 1 rfl rfl dX12_sumOver_108 ?_
    refine zr_iconst (pc := 109) hC zki_3 dX12_sumOver_109 ?_
    refine zr_icmp_ne (pc := 110) (tgt := 143) hC dX12_sumOver_110 (by decide) (fun c2 => ?_) (fun c2 => ?_)
    · replace h := zin h c2
      refine zr_iinc (pc := 143) (k := 4) (lv' := [(5, .int (v5 + (1 : Int32))), (0, .ref (ad 0)), (1, .int v1), (2, .int v2), (3, .long v3)]) hC zki_1 (by decide) rfl rfl dX12_sumOver_143 ?_
      refine zr_goto (pc := 146) (tgt := 5) hC dX12_sumOver_146 (by decide) ?_
      obtain rfl := Option.some.inj h
      exact zV.sub (lv' := [(0, .ref (ad 0)), (1, .int v1), (2, .int v2), (3, .long v3), (5, .int (v5 + (1 : Int32)))]) [1, 2, 3, 4, 0] rfl (hin M v3 (v5 + (1 : Int32)) rfl)
    · replace h := zip h c2
      refine zr_lload_n (pc := 113) hC 3 rfl rfl dX12_sumOver_113 ?_
      refine zr_aload_n (pc := 114) hC 0 rfl rfl dX12_sumOver_114 ?_
      refine zmg_35 (pc := 115) hC hinX12_sumOver_X12 flX12_sumOver_259 dX12_sumOver_115 ?_
      refine zr_if_lt (pc := 118) (tgt := 130) hC dX12_sumOver_118 (by decide) (fun c3 => ?_) (fun c3 => ?_)
      · replace h := zip h c3
        refine zr_aload_n (pc := 130) hC 0 rfl rfl dX12_sumOver_130 ?_
        refine zmg_24 (pc := 131) hC hinX12_sumOver_X12 flX12_sumOver_71 dX12_sumOver_131 ?_
        refine zr_iload (pc := 134) hC 4 rfl dX12_sumOver_134 ?_
        obtain ⟨i4, h⟩ := zgd h
        refine zml_20 (pc := 136) hC i4 dX12_sumOver_136 ?_
        refine zr_goto (pc := 137) (tgt := 141) hC dX12_sumOver_137 (by decide) ?_
        refine zr_ladd (pc := 141) hC dX12_sumOver_141 ?_
        obtain ⟨z5, e6, h⟩ := zle h
        refine zr_topl e6 ?_
        refine zr_lstore_n (pc := 142) (lv' := [(3, .long z5), (0, .ref (ad 0)), (1, .int v1), (2, .int v2), (5, .int v5)]) hC rfl (by decide) rfl dX12_sumOver_142 ?_
        refine zr_iinc (pc := 143) (k := 4) (lv' := [(5, .int (v5 + (1 : Int32))), (3, .long z5), (0, .ref (ad 0)), (1, .int v1), (2, .int v2)]) hC zki_1 (by decide) rfl rfl dX12_sumOver_143 ?_
        refine zr_goto (pc := 146) (tgt := 5) hC dX12_sumOver_146 (by decide) ?_
        obtain rfl := Option.some.inj h
        exact zV.sub (lv' := [(0, .ref (ad 0)), (1, .int v1), (2, .int v2), (3, .long z5), (5, .int (v5 + (1 : Int32)))]) [2, 3, 4, 1, 0] rfl (hin M z5 (v5 + (1 : Int32)) rfl)
      · replace h := zin h c3
        refine zr_aload_n (pc := 121) hC 0 rfl rfl dX12_sumOver_121 ?_
        refine zmg_35 (pc := 122) hC hinX12_sumOver_X12 flX12_sumOver_259 dX12_sumOver_122 ?_
        refine zr_iload (pc := 125) hC 4 rfl dX12_sumOver_125 ?_
        refine zr_icmp_ne (pc := 127) (tgt := 140) hC dX12_sumOver_127 (by decide) (fun c7 => ?_) (fun c7 => ?_)
        · replace h := zin h c7
          refine zr_lconst (pc := 140) hC zkl_0 dX12_sumOver_140 ?_
          refine zr_ladd (pc := 141) hC dX12_sumOver_141 ?_
          obtain ⟨z8, e9, h⟩ := zle h
          refine zr_topl e9 ?_
          refine zr_lstore_n (pc := 142) (lv' := [(3, .long z8), (0, .ref (ad 0)), (1, .int v1), (2, .int v2), (5, .int v5)]) hC rfl (by decide) rfl dX12_sumOver_142 ?_
          refine zr_iinc (pc := 143) (k := 4) (lv' := [(5, .int (v5 + (1 : Int32))), (3, .long z8), (0, .ref (ad 0)), (1, .int v1), (2, .int v2)]) hC zki_1 (by decide) rfl rfl dX12_sumOver_143 ?_
          refine zr_goto (pc := 146) (tgt := 5) hC dX12_sumOver_146 (by decide) ?_
          obtain rfl := Option.some.inj h
          exact zV.sub (lv' := [(0, .ref (ad 0)), (1, .int v1), (2, .int v2), (3, .long z8), (5, .int (v5 + (1 : Int32)))]) [2, 3, 4, 1, 0] rfl (hin M z8 (v5 + (1 : Int32)) rfl)
        · replace h := zip h c7
          refine zr_aload_n (pc := 130) hC 0 rfl rfl dX12_sumOver_130 ?_
          refine zmg_24 (pc := 131) hC hinX12_sumOver_X12 flX12_sumOver_71 dX12_sumOver_131 ?_
          refine zr_iload (pc := 134) hC 4 rfl dX12_sumOver_134 ?_
          obtain ⟨i10, h⟩ := zgd h
          refine zml_20 (pc := 136) hC i10 dX12_sumOver_136 ?_
          refine zr_goto (pc := 137) (tgt := 141) hC dX12_sumOver_137 (by decide) ?_
          refine zr_ladd (pc := 141) hC dX12_sumOver_141 ?_
          obtain ⟨z11, e12, h⟩ := zle h
          refine zr_topl e12 ?_
          refine zr_lstore_n (pc := 142) (lv' := [(3, .long z11), (0, .ref (ad 0)), (1, .int v1), (2, .int v2), (5, .int v5)]) hC rfl (by decide) rfl dX12_sumOver_142 ?_
          refine zr_iinc (pc := 143) (k := 4) (lv' := [(5, .int (v5 + (1 : Int32))), (3, .long z11), (0, .ref (ad 0)), (1, .int v1), (2, .int v2)]) hC zki_1 (by decide) rfl rfl dX12_sumOver_143 ?_
          refine zr_goto (pc := 146) (tgt := 5) hC dX12_sumOver_146 (by decide) ?_
          obtain rfl := Option.some.inj h
          exact zV.sub (lv' := [(0, .ref (ad 0)), (1, .int v1), (2, .int v2), (3, .long z11), (5, .int (v5 + (1 : Int32)))]) [2, 3, 4, 1, 0] rfl (hin M z11 (v5 + (1 : Int32)) rfl)
  · replace h := zip h c1
    refine zr_lload_n (pc := 87) hC 3 rfl rfl dX12_sumOver_87 ?_
    refine zr_aload_n (pc := 88) hC 0 rfl rfl dX12_sumOver_88 ?_
    refine zmg_34 (pc := 89) hC hinX12_sumOver_X12 flX12_sumOver_262 dX12_sumOver_89 ?_
    refine zr_if_ge (pc := 92) (tgt := 105) hC dX12_sumOver_92 (by decide) (fun c13 => ?_) (fun c13 => ?_)
    · replace h := zip h c13
      refine zr_lconst (pc := 105) hC zkl_0 dX12_sumOver_105 ?_
      refine zr_ladd (pc := 106) hC dX12_sumOver_106 ?_
      obtain ⟨z14, e15, h⟩ := zle h
      refine zr_topl e15 ?_
      refine zr_lstore_n (pc := 107) (lv' := [(3, .long z14), (0, .ref (ad 0)), (1, .int v1), (2, .int v2), (5, .int v5)]) hC rfl (by decide) rfl dX12_sumOver_107 ?_
      refine zr_iload_n (pc := 108) hC 2 rfl rfl dX12_sumOver_108 ?_
      refine zr_iconst (pc := 109) hC zki_3 dX12_sumOver_109 ?_
      refine zr_icmp_ne (pc := 110) (tgt := 143) hC dX12_sumOver_110 (by decide) (fun c16 => ?_) (fun c16 => ?_)
      · replace h := zin h c16
        refine zr_iinc (pc := 143) (k := 4) (lv' := [(5, .int (v5 + (1 : Int32))), (3, .long z14), (0, .ref (ad 0)), (1, .int v1), (2, .int v2)]) hC zki_1 (by decide) rfl rfl dX12_sumOver_143 ?_
        refine zr_goto (pc := 146) (tgt := 5) hC dX12_sumOver_146 (by decide) ?_
        obtain rfl := Option.some.inj h
        exact zV.sub (lv' := [(0, .ref (ad 0)), (1, .int v1), (2, .int v2), (3, .long z14), (5, .int (v5 + (1 : Int32)))]) [2, 3, 4, 1, 0] rfl (hin M z14 (v5 + (1 : Int32)) rfl)
      · replace h := zip h c16
        refine zr_lload_n (pc := 113) hC 0 rfl rfl dX12_sumOver_113 ?_
        refine zr_aload_n (pc := 114) hC 1 rfl rfl dX12_sumOver_114 ?_
        refine zmg_35 (pc := 115) hC hinX12_sumOver_X12 flX12_sumOver_259 dX12_sumOver_115 ?_
        refine zr_if_lt (pc := 118) (tgt := 130) hC dX12_sumOver_118 (by decide) (fun c17 => ?_) (fun c17 => ?_)
        · replace h := zip h c17
          refine zr_aload_n (pc := 130) hC 1 rfl rfl dX12_sumOver_130 ?_
          refine zmg_24 (pc := 131) hC hinX12_sumOver_X12 flX12_sumOver_71 dX12_sumOver_131 ?_
          refine zr_iload (pc := 134) hC 4 rfl dX12_sumOver_134 ?_
          obtain ⟨i18, h⟩ := zgd h
          refine zml_20 (pc := 136) hC i18 dX12_sumOver_136 ?_
          refine zr_goto (pc := 137) (tgt := 141) hC dX12_sumOver_137 (by decide) ?_
          refine zr_ladd (pc := 141) hC dX12_sumOver_141 ?_
          obtain ⟨z19, e20, h⟩ := zle h
          refine zr_topl e20 ?_
          refine zr_lstore_n (pc := 142) (lv' := [(3, .long z19), (0, .ref (ad 0)), (1, .int v1), (2, .int v2), (5, .int v5)]) hC rfl (by decide) rfl dX12_sumOver_142 ?_
          refine zr_iinc (pc := 143) (k := 4) (lv' := [(5, .int (v5 + (1 : Int32))), (3, .long z19), (0, .ref (ad 0)), (1, .int v1), (2, .int v2)]) hC zki_1 (by decide) rfl rfl dX12_sumOver_143 ?_
          refine zr_goto (pc := 146) (tgt := 5) hC dX12_sumOver_146 (by decide) ?_
          obtain rfl := Option.some.inj h
          exact zV.sub (lv' := [(0, .ref (ad 0)), (1, .int v1), (2, .int v2), (3, .long z19), (5, .int (v5 + (1 : Int32)))]) [2, 3, 4, 1, 0] rfl (hin M z19 (v5 + (1 : Int32)) rfl)
        · replace h := zin h c17
          refine zr_aload_n (pc := 121) hC 1 rfl rfl dX12_sumOver_121 ?_
          refine zmg_35 (pc := 122) hC hinX12_sumOver_X12 flX12_sumOver_259 dX12_sumOver_122 ?_
          refine zr_iload (pc := 125) hC 4 rfl dX12_sumOver_125 ?_
          refine zr_icmp_ne (pc := 127) (tgt := 140) hC dX12_sumOver_127 (by decide) (fun c21 => ?_) (fun c21 => ?_)
          · replace h := zin h c21
            refine zr_lconst (pc := 140) hC zkl_0 dX12_sumOver_140 ?_
            refine zr_ladd (pc := 141) hC dX12_sumOver_141 ?_
            obtain ⟨z22, e23, h⟩ := zle h
            refine zr_topl e23 ?_
            refine zr_lstore_n (pc := 142) (lv' := [(3, .long z22), (0, .ref (ad 0)), (1, .int v1), (2, .int v2), (5, .int v5)]) hC rfl (by decide) rfl dX12_sumOver_142 ?_
            refine zr_iinc (pc := 143) (k := 4) (lv' := [(5, .int (v5 + (1 : Int32))), (3, .long z22), (0, .ref (ad 0)), (1, .int v1), (2, .int v2)]) hC zki_1 (by decide) rfl rfl dX12_sumOver_143 ?_
            refine zr_goto (pc := 146) (tgt := 5) hC dX12_sumOver_146 (by decide) ?_
            obtain rfl := Option.some.inj h
            exact zV.sub (lv' := [(0, .ref (ad 0)), (1, .int v1), (2, .int v2), (3, .long z22), (5, .int (v5 + (1 : Int32)))]) [2, 3, 4, 1, 0] rfl (hin M z22 (v5 + (1 : Int32)) rfl)
          · replace h := zip h c21
            refine zr_aload_n (pc := 130) hC 1 rfl rfl dX12_sumOver_130 ?_
            refine zmg_24 (pc := 131) hC hinX12_sumOver_X12 flX12_sumOver_71 dX12_sumOver_131 ?_
            refine zr_iload (pc := 134) hC 4 rfl dX12_sumOver_134 ?_
            obtain ⟨i24, h⟩ := zgd h
            refine zml_20 (pc := 136) hC i24 dX12_sumOver_136 ?_
            refine zr_goto (pc := 137) (tgt := 141) hC dX12_sumOver_137 (by decide) ?_
            refine zr_ladd (pc := 141) hC dX12_sumOver_141 ?_
            obtain ⟨z25, e26, h⟩ := zle h
            refine zr_topl e26 ?_
            refine zr_lstore_n (pc := 142) (lv' := [(3, .long z25), (0, .ref (ad 0)), (1, .int v1), (2, .int v2), (5, .int v5)]) hC rfl (by decide) rfl dX12_sumOver_142 ?_
            refine zr_iinc (pc := 143) (k := 4) (lv' := [(5, .int (v5 + (1 : Int32))), (3, .long z25), (0, .ref (ad 0)), (1, .int v1), (2, .int v2)]) hC zki_1 (by decide) rfl rfl dX12_sumOver_143 ?_
            refine zr_goto (pc := 146) (tgt := 5) hC dX12_sumOver_146 (by decide) ?_
            obtain rfl := Option.some.inj h
            exact zV.sub (lv' := [(0, .ref (ad 0)), (1, .int v1), (2, .int v2), (3, .long z25), (5, .int (v5 + (1 : Int32)))]) [2, 3, 4, 1, 0] rfl (hin M z25 (v5 + (1 : Int32)) rfl)
    · replace h := zin h c13
      refine zr_aload_n (pc := 95) hC 0 rfl rfl dX12_sumOver_95 ?_
      refine zmg_24 (pc := 96) hC hinX12_sumOver_X12 flX12_sumOver_71 dX12_sumOver_96 ?_
      refine zr_iload (pc := 99) hC 4 rfl dX12_sumOver_99 ?_
      obtain ⟨i27, h⟩ := zgd h
      refine zml_20 (pc := 101) hC i27 dX12_sumOver_101 ?_
      refine zr_goto (pc := 102) (tgt := 106) hC dX12_sumOver_102 (by decide) ?_
      refine zr_ladd (pc := 106) hC dX12_sumOver_106 ?_
      obtain ⟨z28, e29, h⟩ := zle h
      refine zr_topl e29 ?_
      refine zr_lstore_n (pc := 107) (lv' := [(3, .long z28), (0, .ref (ad 0)), (1, .int v1), (2, .int v2), (5, .int v5)]) hC rfl (by decide) rfl dX12_sumOver_107 ?_
      refine zr_iload_n (pc := 108) hC 2 rfl rfl dX12_sumOver_108 ?_
      refine zr_iconst (pc := 109) hC zki_3 dX12_sumOver_109 ?_
      refine zr_icmp_ne (pc := 110) (tgt := 143) hC dX12_sumOver_110 (by decide) (fun c30 => ?_) (fun c30 => ?_)
      · replace h := zin h c30
        refine zr_iinc (pc := 143) (k := 4) (lv' := [(5, .int (v5 + (1 : Int32))), (3, .long z28), (0, .ref (ad 0)), (1, .int v1), (2, .int v2)]) hC zki_1 (by decide) rfl rfl dX12_sumOver_143 ?_
        refine zr_goto (pc := 146) (tgt := 5) hC dX12_sumOver_146 (by decide) ?_
        obtain rfl := Option.some.inj h
        exact zV.sub (lv' := [(0, .ref (ad 0)), (1, .int v1), (2, .int v2), (3, .long z28), (5, .int (v5 + (1 : Int32)))]) [2, 3, 4, 1, 0] rfl (hin M z28 (v5 + (1 : Int32)) rfl)
      · replace h := zip h c30
        refine zr_lload_n (pc := 113) hC 0 rfl rfl dX12_sumOver_113 ?_
        refine zr_aload_n (pc := 114) hC 1 rfl rfl dX12_sumOver_114 ?_
        refine zmg_35 (pc := 115) hC hinX12_sumOver_X12 flX12_sumOver_259 dX12_sumOver_115 ?_
        refine zr_if_lt (pc := 118) (tgt := 130) hC dX12_sumOver_118 (by decide) (fun c31 => ?_) (fun c31 => ?_)
        · replace h := zip h c31
          refine zr_aload_n (pc := 130) hC 1 rfl rfl dX12_sumOver_130 ?_
          refine zmg_24 (pc := 131) hC hinX12_sumOver_X12 flX12_sumOver_71 dX12_sumOver_131 ?_
          refine zr_iload (pc := 134) hC 4 rfl dX12_sumOver_134 ?_
          refine zml_20 (pc := 136) hC i27 dX12_sumOver_136 ?_
          refine zr_goto (pc := 137) (tgt := 141) hC dX12_sumOver_137 (by decide) ?_
          refine zr_ladd (pc := 141) hC dX12_sumOver_141 ?_
          obtain ⟨z32, e33, h⟩ := zle h
          refine zr_topl e33 ?_
          refine zr_lstore_n (pc := 142) (lv' := [(3, .long z32), (0, .ref (ad 0)), (1, .int v1), (2, .int v2), (5, .int v5)]) hC rfl (by decide) rfl dX12_sumOver_142 ?_
          refine zr_iinc (pc := 143) (k := 4) (lv' := [(5, .int (v5 + (1 : Int32))), (3, .long z32), (0, .ref (ad 0)), (1, .int v1), (2, .int v2)]) hC zki_1 (by decide) rfl rfl dX12_sumOver_143 ?_
          refine zr_goto (pc := 146) (tgt := 5) hC dX12_sumOver_146 (by decide) ?_
          obtain rfl := Option.some.inj h
          exact zV.sub (lv' := [(0, .ref (ad 0)), (1, .int v1), (2, .int v2), (3, .long z32), (5, .int (v5 + (1 : Int32)))]) [2, 3, 4, 1, 0] rfl (hin M z32 (v5 + (1 : Int32)) rfl)
        · replace h := zin h c31
          refine zr_aload_n (pc := 121) hC 1 rfl rfl dX12_sumOver_121 ?_
          refine zmg_35 (pc := 122) hC hinX12_sumOver_X12 flX12_sumOver_259 dX12_sumOver_122 ?_
          refine zr_iload (pc := 125) hC 4 rfl dX12_sumOver_125 ?_
          refine zr_icmp_ne (pc := 127) (tgt := 140) hC dX12_sumOver_127 (by decide) (fun c34 => ?_) (fun c34 => ?_)
          · replace h := zin h c34
            refine zr_lconst (pc := 140) hC zkl_0 dX12_sumOver_140 ?_
            refine zr_ladd (pc := 141) hC dX12_sumOver_141 ?_
            obtain ⟨z35, e36, h⟩ := zle h
            refine zr_topl e36 ?_
            refine zr_lstore_n (pc := 142) (lv' := [(3, .long z35), (0, .ref (ad 0)), (1, .int v1), (2, .int v2), (5, .int v5)]) hC rfl (by decide) rfl dX12_sumOver_142 ?_
            refine zr_iinc (pc := 143) (k := 4) (lv' := [(5, .int (v5 + (1 : Int32))), (3, .long z35), (0, .ref (ad 0)), (1, .int v1), (2, .int v2)]) hC zki_1 (by decide) rfl rfl dX12_sumOver_143 ?_
            refine zr_goto (pc := 146) (tgt := 5) hC dX12_sumOver_146 (by decide) ?_
            obtain rfl := Option.some.inj h
            exact zV.sub (lv' := [(0, .ref (ad 0)), (1, .int v1), (2, .int v2), (3, .long z35), (5, .int (v5 + (1 : Int32)))]) [2, 3, 4, 1, 0] rfl (hin M z35 (v5 + (1 : Int32)) rfl)
          · replace h := zip h c34
            refine zr_aload_n (pc := 130) hC 1 rfl rfl dX12_sumOver_130 ?_
            refine zmg_24 (pc := 131) hC hinX12_sumOver_X12 flX12_sumOver_71 dX12_sumOver_131 ?_
            refine zr_iload (pc := 134) hC 4 rfl dX12_sumOver_134 ?_
            refine zml_20 (pc := 136) hC i27 dX12_sumOver_136 ?_
            refine zr_goto (pc := 137) (tgt := 141) hC dX12_sumOver_137 (by decide) ?_
            refine zr_ladd (pc := 141) hC dX12_sumOver_141 ?_
            obtain ⟨z37, e38, h⟩ := zle h
            refine zr_topl e38 ?_
            refine zr_lstore_n (pc := 142) (lv' := [(3, .long z37), (0, .ref (ad 0)), (1, .int v1), (2, .int v2), (5, .int v5)]) hC rfl (by decide) rfl dX12_sumOver_142 ?_
            refine zr_iinc (pc := 143) (k := 4) (lv' := [(5, .int (v5 + (1 : Int32))), (3, .long z37), (0, .ref (ad 0)), (1, .int v1), (2, .int v2)]) hC zki_1 (by decide) rfl rfl dX12_sumOver_143 ?_
            refine zr_goto (pc := 146) (tgt := 5) hC dX12_sumOver_146 (by decide) ?_
            obtain rfl := Option.some.inj h
            exact zV.sub (lv' := [(0, .ref (ad 0)), (1, .int v1), (2, .int v2), (3, .long z37), (5, .int (v5 + (1 : Int32)))]) [2, 3, 4, 1, 0] rfl (hin M z37 (v5 + (1 : Int32)) rfl)
def xX12_sumOver_b59_5 (M : zM) (v1 : Int32) (v2 : Int32) (v3 : Int64) (v5 : Int32) : Option ((zM × Int64 × Int32) ⊕ (zM × Int64)) :=
  if v1 = (1 : Int32) then
  (if (v5 < 0 ∨ 24 ≤ v5.toNatClampNeg) then none else
  if (v2 < 0 ∨ 4 ≤ v2.toNatClampNeg) then none else
  zlet (v3 + ((M.2 20 v5.toNatClampNeg) * (M.1 27 v2.toNatClampNeg).toInt64)) fun z4 =>
  xX12_sumOver_b82_5 M v1 v2 z4 v5)
  else
  xX12_sumOver_b82_5 M v1 v2 v3 v5
set_option maxHeartbeats 4000000 in
set_option maxRecDepth 100000 in
theorem tX12_sumOver_b59_5 {κ : Nat → ClassId} {E : zEn} {ad : Nat → Nat} {X : zX} {M : zM} {v1 : Int32} {v2 : Int32} {v3 : Int64} {v5 : Int32} {r : ((zM × Int64 × Int32) ⊕ (zM × Int64))} (hC : zC X cX12_sumOver RX12 wsX12_sumOver vwCl (zty κ) E 6 ({ frames := 2, cells := 0, slots := 0, locals := 48 } : Room)) (hEk : zEk E) (hin : ∀ (x0' : zM) (x1' : Int64) (x2' : Int32), r = .inl (x0', x1', x2') → zV X 0 0 (zwM κ ad x0') [(0, .ref (ad 0)), (1, .int v1), (2, .int v2), (3, .long x1'), (5, .int x2')] [] 5) (hout0 : ∀ (x0' : zM) (x1' : Int64), r = .inr (x0', x1') → zV X 0 0 (zwM κ ad x0') [(3, .long x1')] [] 149) (h : xX12_sumOver_b59_5 M v1 v2 v3 v5  = some r) : zV X 0 0 (zwM κ ad M) [(0, .ref (ad 0)), (1, .int v1), (2, .int v2), (3, .long v3), (5, .int v5)] [] 59 := by
  unfold xX12_sumOver_b59_5 at h
  refine zr_iload_n (pc := 59) hC 1 rfl rfl dX12_sumOver_59 ?_
  refine zr_iconst (pc := 60) hC zki_1 dX12_sumOver_60 ?_
  refine zr_icmp_ne (pc := 61) (tgt := 82) hC dX12_sumOver_61 (by decide) (fun c1 => ?_) (fun c1 => ?_)
  · replace h := zin h c1
    exact zV.sub (lv' := [(0, .ref (ad 0)), (1, .int v1), (2, .int v2), (3, .long v3), (5, .int v5)]) [0, 1, 2, 3, 4] rfl (tX12_sumOver_b82_5 hC hEk hin hout0 h)
  · replace h := zip h c1
    refine zr_lload_n (pc := 64) hC 3 rfl rfl dX12_sumOver_64 ?_
    refine zr_aload_n (pc := 65) hC 0 rfl rfl dX12_sumOver_65 ?_
    refine zmg_24 (pc := 66) hC hinX12_sumOver_X12 flX12_sumOver_71 dX12_sumOver_66 ?_
    refine zr_iload (pc := 69) hC 4 rfl dX12_sumOver_69 ?_
    obtain ⟨i2, h⟩ := zgd h
    refine zml_20 (pc := 71) hC i2 dX12_sumOver_71 ?_
    refine zr_aload_n (pc := 72) hC 0 rfl rfl dX12_sumOver_72 ?_
    refine zmg_33 (pc := 73) hC hinX12_sumOver_X12 flX12_sumOver_93 dX12_sumOver_73 ?_
    refine zr_iload_n (pc := 76) hC 2 rfl rfl dX12_sumOver_76 ?_
    obtain ⟨i3, h⟩ := zgd h
    refine zml_27 (pc := 77) hC i3 dX12_sumOver_77 ?_
    refine zr_i2l (pc := 78) hC dX12_sumOver_78 ?_
    refine zr_lmul (pc := 79) hC dX12_sumOver_79 ?_
    refine zr_ladd (pc := 80) hC dX12_sumOver_80 ?_
    obtain ⟨z4, e5, h⟩ := zle h
    refine zr_topl e5 ?_
    refine zr_lstore_n (pc := 81) (lv' := [(3, .long z4), (0, .ref (ad 0)), (1, .int v1), (2, .int v2), (5, .int v5)]) hC rfl (by decide) rfl dX12_sumOver_81 ?_
    exact zV.sub (lv' := [(0, .ref (ad 0)), (1, .int v1), (2, .int v2), (3, .long z4), (5, .int v5)]) [1, 2, 3, 0, 4] rfl (tX12_sumOver_b82_5 hC hEk hin hout0 h)
def xX12_sumOver_b57_5 (M : zM) (v1 : Int32) (v2 : Int32) (v5 : Int32) (s0 : Int64) (s1 : Int64) : Option ((zM × Int64 × Int32) ⊕ (zM × Int64)) :=
  zlet (s0 + s1) fun z1 =>
  xX12_sumOver_b59_5 M v1 v2 z1 v5
set_option maxHeartbeats 4000000 in
set_option maxRecDepth 100000 in
theorem tX12_sumOver_b57_5 {κ : Nat → ClassId} {E : zEn} {ad : Nat → Nat} {X : zX} {M : zM} {v1 : Int32} {v2 : Int32} {v5 : Int32} {s0 : Int64} {s1 : Int64} {r : ((zM × Int64 × Int32) ⊕ (zM × Int64))} (hC : zC X cX12_sumOver RX12 wsX12_sumOver vwCl (zty κ) E 6 ({ frames := 2, cells := 0, slots := 0, locals := 48 } : Room)) (hEk : zEk E) (hin : ∀ (x0' : zM) (x1' : Int64) (x2' : Int32), r = .inl (x0', x1', x2') → zV X 0 0 (zwM κ ad x0') [(0, .ref (ad 0)), (1, .int v1), (2, .int v2), (3, .long x1'), (5, .int x2')] [] 5) (hout0 : ∀ (x0' : zM) (x1' : Int64), r = .inr (x0', x1') → zV X 0 0 (zwM κ ad x0') [(3, .long x1')] [] 149) (h : xX12_sumOver_b57_5 M v1 v2 v5 s0 s1 = some r) : zV X 0 0 (zwM κ ad M) [(0, .ref (ad 0)), (1, .int v1), (2, .int v2), (5, .int v5)] [.long s1, .long s0] 57 := by
  unfold xX12_sumOver_b57_5 at h
  refine zr_ladd (pc := 57) hC dX12_sumOver_57 ?_
  obtain ⟨z1, e2, h⟩ := zle h
  refine zr_topl e2 ?_
  refine zr_lstore_n (pc := 58) (lv' := [(3, .long z1), (0, .ref (ad 0)), (1, .int v1), (2, .int v2), (5, .int v5)]) hC rfl (by decide) rfl dX12_sumOver_58 ?_
  exact zV.sub (lv' := [(0, .ref (ad 0)), (1, .int v1), (2, .int v2), (3, .long z1), (5, .int v5)]) [1, 2, 3, 0, 4] rfl (tX12_sumOver_b59_5 hC hEk hin hout0 h)
def xX12_sumOver_L5 (v1 : Int32) (v2 : Int32) (w0 : zM) (w1 : Int64) (w2 : Int32) : Option ((zM × Int64 × Int32) ⊕ (zM × Int64)) :=
  if (w0.1 0 12) ≤ w2 then
  (some (.inr (w0, w1)))
  else
  if (w2 < 0 ∨ 24 ≤ w2.toNatClampNeg) then none else
  if (w0.1 4 w2.toNatClampNeg) = 0 then
  (some (.inl (w0, w1, (w2 + (1 : Int32)))))
  else
  (xX12_runs w0 w2).bind fun q4 =>
  if v1 = 0 then
  (if (q4.1 0 34) = v2 then
  (xX12_sumOver_b57_5 q4 v1 v2 w2 w1 (q4.2 20 w2.toNatClampNeg))
  else
  xX12_sumOver_b57_5 q4 v1 v2 w2 w1 (0 : Int64))
  else
  xX12_sumOver_b59_5 q4 v1 v2 w1 w2
set_option maxHeartbeats 4000000 in
set_option maxRecDepth 100000 in
theorem tX12_sumOver_L5 {κ : Nat → ClassId} {E : zEn} {ad : Nat → Nat} {X : zX} {v1 : Int32} {v2 : Int32} {w0 : zM} {w1 : Int64} {w2 : Int32} {r : ((zM × Int64 × Int32) ⊕ (zM × Int64))} (hC : zC X cX12_sumOver RX12 wsX12_sumOver vwCl (zty κ) E 6 ({ frames := 2, cells := 0, slots := 0, locals := 48 } : Room)) (hEk : zEk E) (hin : ∀ (x0' : zM) (x1' : Int64) (x2' : Int32), r = .inl (x0', x1', x2') → zV X 0 0 (zwM κ ad x0') [(0, .ref (ad 0)), (1, .int v1), (2, .int v2), (3, .long x1'), (5, .int x2')] [] 5) (hout0 : ∀ (x0' : zM) (x1' : Int64), r = .inr (x0', x1') → zV X 0 0 (zwM κ ad x0') [(3, .long x1')] [] 149) (h : xX12_sumOver_L5  v1 v2 w0 w1 w2 = some r) : zV X 0 0 (zwM κ ad w0) [(0, .ref (ad 0)), (1, .int v1), (2, .int v2), (3, .long w1), (5, .int w2)] [] 5 := by
  unfold xX12_sumOver_L5 at h
  refine zr_iload (pc := 5) hC 4 rfl dX12_sumOver_5 ?_
  refine zr_aload_n (pc := 7) hC 0 rfl rfl dX12_sumOver_7 ?_
  refine zmg_12 (pc := 8) hC hinX12_sumOver_X12 flX12_sumOver_46 dX12_sumOver_8 ?_
  refine zr_icmp_ge (pc := 11) (tgt := 149) hC dX12_sumOver_11 (by decide) (fun c1 => ?_) (fun c1 => ?_)
  · replace h := zip h c1
    obtain rfl := Option.some.inj h
    exact zV.sub (lv' := [(3, .long w1)]) [3] rfl (hout0 w0 w1 rfl)
  · replace h := zin h c1
    refine zr_aload_n (pc := 14) hC 0 rfl rfl dX12_sumOver_14 ?_
    refine zmg_3 (pc := 15) hC hinX12_sumOver_X12 flX12_sumOver_19 dX12_sumOver_15 ?_
    refine zr_iload (pc := 18) hC 4 rfl dX12_sumOver_18 ?_
    obtain ⟨i2, h⟩ := zgd h
    refine zml_4 (pc := 20) hC i2 dX12_sumOver_20 ?_
    refine zr_if_ne (pc := 21) (tgt := 27) hC dX12_sumOver_21 (by decide) (fun c3 => ?_) (fun c3 => ?_)
    · replace h := zin h c3
      refine zr_aload_n (pc := 27) hC 0 rfl rfl dX12_sumOver_27 ?_
      refine zr_iload (pc := 28) hC 4 rfl dX12_sumOver_28 ?_
      obtain ⟨q4, hq4, h⟩ := zbd h
      refine zr_cVv (pc := 30) hC hEk [.int w2] [] 0 1 (fun l D => tX12_runs hEk hq4 l D) gX12_sumOver_X12_runs rfl rfl rfl ⟨Nat.le_of_ble_eq_true rfl, Nat.le_of_ble_eq_true rfl⟩ hyX12_runs (by decide) entM_0 rfl rfl rfl (Nat.le_of_ble_eq_true rfl) ⟨Nat.le_of_ble_eq_true rfl, Nat.le_of_ble_eq_true rfl⟩ dX12_sumOver_30 ?_
      refine zr_iload_n (pc := 33) hC 1 rfl rfl dX12_sumOver_33 ?_
      refine zr_if_ne (pc := 34) (tgt := 59) hC dX12_sumOver_34 (by decide) (fun c5 => ?_) (fun c5 => ?_)
      · replace h := zin h c5
        exact zV.sub (lv' := [(0, .ref (ad 0)), (1, .int v1), (2, .int v2), (3, .long w1), (5, .int w2)]) [0, 1, 2, 3, 4] rfl (tX12_sumOver_b59_5 hC hEk hin hout0 h)
      · replace h := zip h c5
        refine zr_lload_n (pc := 37) hC 3 rfl rfl dX12_sumOver_37 ?_
        refine zr_aload_n (pc := 38) hC 0 rfl rfl dX12_sumOver_38 ?_
        refine zmg_34 (pc := 39) hC hinX12_sumOver_X12 flX12_sumOver_262 dX12_sumOver_39 ?_
        refine zr_iload_n (pc := 42) hC 2 rfl rfl dX12_sumOver_42 ?_
        refine zr_icmp_ne (pc := 43) (tgt := 56) hC dX12_sumOver_43 (by decide) (fun c6 => ?_) (fun c6 => ?_)
        · replace h := zin h c6
          refine zr_lconst (pc := 56) hC zkl_0 dX12_sumOver_56 ?_
          exact zV.sub (lv' := [(0, .ref (ad 0)), (1, .int v1), (2, .int v2), (5, .int w2)]) [0, 1, 2, 4] rfl (tX12_sumOver_b57_5 hC hEk hin hout0 h)
        · replace h := zip h c6
          refine zr_aload_n (pc := 46) hC 0 rfl rfl dX12_sumOver_46 ?_
          refine zmg_24 (pc := 47) hC hinX12_sumOver_X12 flX12_sumOver_71 dX12_sumOver_47 ?_
          refine zr_iload (pc := 50) hC 4 rfl dX12_sumOver_50 ?_
          refine zml_20 (pc := 52) hC i2 dX12_sumOver_52 ?_
          refine zr_goto (pc := 53) (tgt := 57) hC dX12_sumOver_53 (by decide) ?_
          exact zV.sub (lv' := [(0, .ref (ad 0)), (1, .int v1), (2, .int v2), (5, .int w2)]) [0, 1, 2, 4] rfl (tX12_sumOver_b57_5 hC hEk hin hout0 h)
    · replace h := zip h c3
      refine zr_goto (pc := 24) (tgt := 143) hC dX12_sumOver_24 (by decide) ?_
      refine zr_iinc (pc := 143) (k := 4) (lv' := [(5, .int (w2 + (1 : Int32))), (0, .ref (ad 0)), (1, .int v1), (2, .int v2), (3, .long w1)]) hC zki_1 (by decide) rfl rfl dX12_sumOver_143 ?_
      refine zr_goto (pc := 146) (tgt := 5) hC dX12_sumOver_146 (by decide) ?_
      obtain rfl := Option.some.inj h
      exact zV.sub (lv' := [(0, .ref (ad 0)), (1, .int v1), (2, .int v2), (3, .long w1), (5, .int (w2 + (1 : Int32)))]) [1, 2, 3, 4, 0] rfl (hin w0 w1 (w2 + (1 : Int32)) rfl)
def xX12_sumOver (M : zM) (v1 : Int32) (v2 : Int32) : Option (Int64 × zM) :=
  (x_it (fun a9 => xX12_sumOver_L5 v1 v2 a9.1 a9.2.1 a9.2.2) zFU (M, (0 : Int64), (1 : Int32))).bind fun q1 =>
  some (q1.2, q1.1)
set_option maxHeartbeats 4000000 in
set_option maxRecDepth 100000 in
theorem tX12_sumOver {κ : Nat → ClassId} {E : zEn} {ad : Nat → Nat} (hEk : zEk E) {M : zM} {v1 : Int32} {v2 : Int32} {res : (Int64 × zM)} (h : xX12_sumOver M v1 v2 = some res) (l : Launch) (D : va_G) : zCT E D vwCl (zty κ) l yX12_sumOver wsX12_sumOver ({ frames := 2, cells := 0, slots := 0, locals := 48 } : Room) 0 0 [.ref (ad 0), .int v1, .int v2] (zwM κ ad M) (zPd (some (.long res.1)) (zwM κ ad res.2)) := by
  refine zCT.of (cc := cX12_sumOver) (maxL := 6) (ret := (some .long)) (by decide) rfl (Nat.le_of_ble_eq_true rfl) ?_
  intro X hC hR
  unfold xX12_sumOver at h
  refine zV.sub (lv' := [(0, .ref (ad 0)), (1, .int v1), (2, .int v2)]) [0, 1, 2] rfl ?_
  refine zr_lconst (pc := 0) hC zkl_0 dX12_sumOver_0 ?_
  refine zr_lstore_n (pc := 1) (lv' := [(3, .long (0 : Int64)), (0, .ref (ad 0)), (1, .int v1), (2, .int v2)]) hC rfl (by decide) rfl dX12_sumOver_1 ?_
  refine zr_iconst (pc := 2) hC zki_1 dX12_sumOver_2 ?_
  refine zr_istore (pc := 3) (lv' := [(5, .int (1 : Int32)), (3, .long (0 : Int64)), (0, .ref (ad 0)), (1, .int v1), (2, .int v2)]) hC (by decide) rfl dX12_sumOver_3 ?_
  obtain ⟨q1, hq1, h⟩ := zbd h
  refine zV.sub (lv' := [(0, .ref (ad 0)), (1, .int v1), (2, .int v2), (3, .long (0 : Int64)), (5, .int (1 : Int32))]) [2, 3, 4, 1, 0] rfl ?_
  refine zit3 (Wp := fun (y0 : zM) (y1 : Int64) (y2 : Int32) => zV X 0 0 (zwM κ ad y0) [(0, .ref (ad 0)), (1, .int v1), (2, .int v2), (3, .long y1), (5, .int y2)] [] 5) (Ex := fun (b9 : (zM × Int64)) => zV X 0 0 (zwM κ ad b9.1) [(3, .long b9.2)] [] 149) (fun y0 y1 y2 r9 hr hin hout => tX12_sumOver_L5 hC hEk hin (fun z0 z1 e9 => hout (z0, z1) e9) hr) zFU M (0 : Int64) (1 : Int32) q1 hq1 ?_
  show zV X 0 0 (zwM κ ad q1.1) [(3, .long q1.2)] [] 149
  refine zr_lload_n (pc := 149) hC 0 rfl rfl dX12_sumOver_149 ?_
  obtain rfl := Option.some.inj h
  exact zr_lret hC hR ⟨rfl, rfl⟩ (Nat.le_refl _) (Nat.le_refl _) dX12_sumOver_150
/-! X12_inAll -/
theorem hyX12_inAll : yX12_inAll.cls = RX12 ∧ yX12_inAll.cls ≠ "java/lang/invoke/MethodHandle" ∧ yX12_inAll.cls ≠ "java/lang/invoke/VarHandle" ∧ (parseMethodDescriptor yX12_inAll.desc).map (fun d => d.parameters.length) = some 3 := by decide +kernel
theorem flX12_inAll_194 : Cond.fieldLink RX12 194 "BeforeTheEndModel" "unit" "J" ∈ wsX12_inAll := by decide +kernel
theorem hinX12_inAll_X12 : ∀ w ∈ wsX120, w ∈ wsX12_inAll := fun _ h => List.mem_cons_of_mem _ (List.mem_append_right _ h)
def xX12_inAll (M : zM) (v1 : Int32) (v2 : Int32) (v3 : Int32) : Option (Int64 × zM) :=
  if (2 : Int32) ≤ v1 then
  ((xX12_isIn v3 (0 : Int32) (1 : Int32)).bind fun q2 =>
  if q2 = 0 then
  ((xX12_noLong M (-2 : Int32)).bind fun q10 =>
  some (q10.1, q10.2))
  else
  (xX12_isWhole M).bind fun q4 =>
  if q4 = 0 then
  ((xX12_noLong M (-3 : Int32)).bind fun q9 =>
  some (q9.1, q9.2))
  else
  (xX12_finds M).bind fun q6 =>
  (xX12_sumOver q6 v1 v2).bind fun q7 =>
  (xX12_inLeast q7.1 (q7.2.2 0 29) v3).bind fun q8 =>
  some (q8, q7.2))
  else
  (xX12_isPlayer M v2).bind fun q11 =>
  if q11 = 0 then
  ((xX12_noLong M (-1 : Int32)).bind fun q22 =>
  some (q22.1, q22.2))
  else
  (xX12_isIn v3 (0 : Int32) (1 : Int32)).bind fun q13 =>
  if q13 = 0 then
  ((xX12_noLong M (-2 : Int32)).bind fun q21 =>
  some (q21.1, q21.2))
  else
  (xX12_isWhole M).bind fun q15 =>
  if q15 = 0 then
  ((xX12_noLong M (-3 : Int32)).bind fun q20 =>
  some (q20.1, q20.2))
  else
  (xX12_finds M).bind fun q17 =>
  (xX12_sumOver q17 v1 v2).bind fun q18 =>
  (xX12_inLeast q18.1 (q18.2.2 0 29) v3).bind fun q19 =>
  some (q19, q18.2)
set_option maxHeartbeats 4000000 in
set_option maxRecDepth 100000 in
theorem tX12_inAll {κ : Nat → ClassId} {E : zEn} {ad : Nat → Nat} (hEk : zEk E) {M : zM} {v1 : Int32} {v2 : Int32} {v3 : Int32} {res : (Int64 × zM)} (h : xX12_inAll M v1 v2 v3 = some res) (l : Launch) (D : va_G) : zCT E D vwCl (zty κ) l yX12_inAll wsX12_inAll ({ frames := 5, cells := 0, slots := 0, locals := 115 } : Room) 0 0 [.ref (ad 0), .int v1, .int v2, .int v3] (zwM κ ad M) (zPd (some (.long res.1)) (zwM κ ad res.2)) := by
  refine zCT.of (cc := cX12_inAll) (maxL := 4) (ret := (some .long)) (by decide) rfl (Nat.le_of_ble_eq_true rfl) ?_
  intro X hC hR
  unfold xX12_inAll at h
  refine zV.sub (lv' := [(0, .ref (ad 0)), (1, .int v1), (2, .int v2), (3, .int v3)]) [0, 1, 2, 3] rfl ?_
  refine zr_iload_n (pc := 0) hC 1 rfl rfl dX12_inAll_0 ?_
  refine zr_iconst (pc := 1) hC zki_2 dX12_inAll_1 ?_
  refine zr_icmp_ge (pc := 2) (tgt := 19) hC dX12_inAll_2 (by decide) (fun c1 => ?_) (fun c1 => ?_)
  · replace h := zip h c1
    refine zr_iload_n (pc := 19) hC 3 rfl rfl dX12_inAll_19 ?_
    refine zr_iconst (pc := 20) hC zki_0 dX12_inAll_20 ?_
    refine zr_iconst (pc := 21) hC zki_1 dX12_inAll_21 ?_
    obtain ⟨q2, hq2, h⟩ := zbd h
    refine zr_cSi (pc := 22) hC hEk [.int v3, .int (0 : Int32), .int (1 : Int32)] [] 3 (fun l D => tX12_isIn hEk hq2 l D) gX12_inAll_X12_isIn rfl rfl rfl ⟨Nat.le_of_ble_eq_true rfl, Nat.le_of_ble_eq_true rfl⟩ hyX12_isIn rfl rfl (Nat.le_of_ble_eq_true rfl) ⟨Nat.le_of_ble_eq_true rfl, Nat.le_of_ble_eq_true rfl⟩ dX12_inAll_22 ?_
    refine zr_if_ne (pc := 25) (tgt := 35) hC dX12_inAll_25 (by decide) (fun c3 => ?_) (fun c3 => ?_)
    · replace h := zin h c3
      refine zr_aload_n (pc := 35) hC 0 rfl rfl dX12_inAll_35 ?_
      obtain ⟨q4, hq4, h⟩ := zbd h
      refine zr_cVi (pc := 36) hC hEk [] [] 0 0 (fun l D => tX12_isWhole hEk hq4 l D) gX12_inAll_X12_isWhole rfl rfl rfl ⟨Nat.le_of_ble_eq_true rfl, Nat.le_of_ble_eq_true rfl⟩ hyX12_isWhole (by decide) entM_0 rfl rfl rfl (Nat.le_of_ble_eq_true rfl) ⟨Nat.le_of_ble_eq_true rfl, Nat.le_of_ble_eq_true rfl⟩ dX12_inAll_36 ?_
      refine zr_if_ne (pc := 39) (tgt := 49) hC dX12_inAll_39 (by decide) (fun c5 => ?_) (fun c5 => ?_)
      · replace h := zin h c5
        refine zr_aload_n (pc := 49) hC 0 rfl rfl dX12_inAll_49 ?_
        obtain ⟨q6, hq6, h⟩ := zbd h
        refine zr_cVv (pc := 50) hC hEk [] [] 0 0 (fun l D => tX12_finds hEk hq6 l D) gX12_inAll_X12_finds rfl rfl rfl ⟨Nat.le_of_ble_eq_true rfl, Nat.le_of_ble_eq_true rfl⟩ hyX12_finds (by decide) entM_0 rfl rfl rfl (Nat.le_of_ble_eq_true rfl) ⟨Nat.le_of_ble_eq_true rfl, Nat.le_of_ble_eq_true rfl⟩ dX12_inAll_50 ?_
        refine zr_aload_n (pc := 53) hC 0 rfl rfl dX12_inAll_53 ?_
        refine zr_iload_n (pc := 54) hC 1 rfl rfl dX12_inAll_54 ?_
        refine zr_iload_n (pc := 55) hC 2 rfl rfl dX12_inAll_55 ?_
        obtain ⟨q7, hq7, h⟩ := zbd h
        refine zr_cVl (pc := 56) hC hEk [.int v1, .int v2] [] 0 2 (fun l D => tX12_sumOver hEk hq7 l D) gX12_inAll_X12_sumOver rfl rfl rfl ⟨Nat.le_of_ble_eq_true rfl, Nat.le_of_ble_eq_true rfl⟩ hyX12_sumOver (by decide) entM_0 rfl rfl rfl (Nat.le_of_ble_eq_true rfl) ⟨Nat.le_of_ble_eq_true rfl, Nat.le_of_ble_eq_true rfl⟩ dX12_inAll_56 ?_
        refine zr_aload_n (pc := 59) hC 0 rfl rfl dX12_inAll_59 ?_
        refine zmg_29 (pc := 60) hC hinX12_inAll_X12 flX12_inAll_194 dX12_inAll_60 ?_
        refine zr_iload_n (pc := 63) hC 3 rfl rfl dX12_inAll_63 ?_
        obtain ⟨q8, hq8, h⟩ := zbd h
        refine zr_cSl (pc := 64) hC hEk [.long q7.1, .long (q7.2.2 0 29), .int v3] [] 3 (fun l D => tX12_inLeast hEk hq8 l D) gX12_inAll_X12_inLeast rfl rfl rfl ⟨Nat.le_of_ble_eq_true rfl, Nat.le_of_ble_eq_true rfl⟩ hyX12_inLeast rfl rfl (Nat.le_of_ble_eq_true rfl) ⟨Nat.le_of_ble_eq_true rfl, Nat.le_of_ble_eq_true rfl⟩ dX12_inAll_64 ?_
        obtain rfl := Option.some.inj h
        exact zr_lret hC hR ⟨rfl, rfl⟩ (Nat.le_refl _) (Nat.le_refl _) dX12_inAll_67
      · replace h := zip h c5
        refine zr_aload_n (pc := 42) hC 0 rfl rfl dX12_inAll_42 ?_
        refine zr_bipush (pc := 43) hC zkb_m3 dX12_inAll_43 ?_
        obtain ⟨q9, hq9, h⟩ := zbd h
        refine zr_cVl (pc := 45) hC hEk [.int (-3 : Int32)] [] 0 1 (fun l D => tX12_noLong hEk hq9 l D) gX12_inAll_X12_noLong rfl rfl rfl ⟨Nat.le_of_ble_eq_true rfl, Nat.le_of_ble_eq_true rfl⟩ hyX12_noLong (by decide) entM_0 rfl rfl rfl (Nat.le_of_ble_eq_true rfl) ⟨Nat.le_of_ble_eq_true rfl, Nat.le_of_ble_eq_true rfl⟩ dX12_inAll_45 ?_
        obtain rfl := Option.some.inj h
        exact zr_lret hC hR ⟨rfl, rfl⟩ (Nat.le_refl _) (Nat.le_refl _) dX12_inAll_48
    · replace h := zip h c3
      refine zr_aload_n (pc := 28) hC 0 rfl rfl dX12_inAll_28 ?_
      refine zr_bipush (pc := 29) hC zkb_m2 dX12_inAll_29 ?_
      obtain ⟨q10, hq10, h⟩ := zbd h
      refine zr_cVl (pc := 31) hC hEk [.int (-2 : Int32)] [] 0 1 (fun l D => tX12_noLong hEk hq10 l D) gX12_inAll_X12_noLong rfl rfl rfl ⟨Nat.le_of_ble_eq_true rfl, Nat.le_of_ble_eq_true rfl⟩ hyX12_noLong (by decide) entM_0 rfl rfl rfl (Nat.le_of_ble_eq_true rfl) ⟨Nat.le_of_ble_eq_true rfl, Nat.le_of_ble_eq_true rfl⟩ dX12_inAll_31 ?_
      obtain rfl := Option.some.inj h
      exact zr_lret hC hR ⟨rfl, rfl⟩ (Nat.le_refl _) (Nat.le_refl _) dX12_inAll_34
  · replace h := zin h c1
    refine zr_aload_n (pc := 5) hC 0 rfl rfl dX12_inAll_5 ?_
    refine zr_iload_n (pc := 6) hC 2 rfl rfl dX12_inAll_6 ?_
    obtain ⟨q11, hq11, h⟩ := zbd h
    refine zr_cVi (pc := 7) hC hEk [.int v2] [] 0 1 (fun l D => tX12_isPlayer hEk hq11 l D) gX12_inAll_X12_isPlayer rfl rfl rfl ⟨Nat.le_of_ble_eq_true rfl, Nat.le_of_ble_eq_true rfl⟩ hyX12_isPlayer (by decide) entM_0 rfl rfl rfl (Nat.le_of_ble_eq_true rfl) ⟨Nat.le_of_ble_eq_true rfl, Nat.le_of_ble_eq_true rfl⟩ dX12_inAll_7 ?_
    refine zr_if_ne (pc := 10) (tgt := 19) hC dX12_inAll_10 (by decide) (fun c12 => ?_) (fun c12 => ?_)
    · replace h := zin h c12
      refine zr_iload_n (pc := 19) hC 3 rfl rfl dX12_inAll_19 ?_
      refine zr_iconst (pc := 20) hC zki_0 dX12_inAll_20 ?_
      refine zr_iconst (pc := 21) hC zki_1 dX12_inAll_21 ?_
      obtain ⟨q13, hq13, h⟩ := zbd h
      refine zr_cSi (pc := 22) hC hEk [.int v3, .int (0 : Int32), .int (1 : Int32)] [] 3 (fun l D => tX12_isIn hEk hq13 l D) gX12_inAll_X12_isIn rfl rfl rfl ⟨Nat.le_of_ble_eq_true rfl, Nat.le_of_ble_eq_true rfl⟩ hyX12_isIn rfl rfl (Nat.le_of_ble_eq_true rfl) ⟨Nat.le_of_ble_eq_true rfl, Nat.le_of_ble_eq_true rfl⟩ dX12_inAll_22 ?_
      refine zr_if_ne (pc := 25) (tgt := 35) hC dX12_inAll_25 (by decide) (fun c14 => ?_) (fun c14 => ?_)
      · replace h := zin h c14
        refine zr_aload_n (pc := 35) hC 0 rfl rfl dX12_inAll_35 ?_
        obtain ⟨q15, hq15, h⟩ := zbd h
        refine zr_cVi (pc := 36) hC hEk [] [] 0 0 (fun l D => tX12_isWhole hEk hq15 l D) gX12_inAll_X12_isWhole rfl rfl rfl ⟨Nat.le_of_ble_eq_true rfl, Nat.le_of_ble_eq_true rfl⟩ hyX12_isWhole (by decide) entM_0 rfl rfl rfl (Nat.le_of_ble_eq_true rfl) ⟨Nat.le_of_ble_eq_true rfl, Nat.le_of_ble_eq_true rfl⟩ dX12_inAll_36 ?_
        refine zr_if_ne (pc := 39) (tgt := 49) hC dX12_inAll_39 (by decide) (fun c16 => ?_) (fun c16 => ?_)
        · replace h := zin h c16
          refine zr_aload_n (pc := 49) hC 0 rfl rfl dX12_inAll_49 ?_
          obtain ⟨q17, hq17, h⟩ := zbd h
          refine zr_cVv (pc := 50) hC hEk [] [] 0 0 (fun l D => tX12_finds hEk hq17 l D) gX12_inAll_X12_finds rfl rfl rfl ⟨Nat.le_of_ble_eq_true rfl, Nat.le_of_ble_eq_true rfl⟩ hyX12_finds (by decide) entM_0 rfl rfl rfl (Nat.le_of_ble_eq_true rfl) ⟨Nat.le_of_ble_eq_true rfl, Nat.le_of_ble_eq_true rfl⟩ dX12_inAll_50 ?_
          refine zr_aload_n (pc := 53) hC 0 rfl rfl dX12_inAll_53 ?_
          refine zr_iload_n (pc := 54) hC 1 rfl rfl dX12_inAll_54 ?_
          refine zr_iload_n (pc := 55) hC 2 rfl rfl dX12_inAll_55 ?_
          obtain ⟨q18, hq18, h⟩ := zbd h
          refine zr_cVl (pc := 56) hC hEk [.int v1, .int v2] [] 0 2 (fun l D => tX12_sumOver hEk hq18 l D) gX12_inAll_X12_sumOver rfl rfl rfl ⟨Nat.le_of_ble_eq_true rfl, Nat.le_of_ble_eq_true rfl⟩ hyX12_sumOver (by decide) entM_0 rfl rfl rfl (Nat.le_of_ble_eq_true rfl) ⟨Nat.le_of_ble_eq_true rfl, Nat.le_of_ble_eq_true rfl⟩ dX12_inAll_56 ?_
          refine zr_aload_n (pc := 59) hC 0 rfl rfl dX12_inAll_59 ?_
          refine zmg_29 (pc := 60) hC hinX12_inAll_X12 flX12_inAll_194 dX12_inAll_60 ?_
          refine zr_iload_n (pc := 63) hC 3 rfl rfl dX12_inAll_63 ?_
          obtain ⟨q19, hq19, h⟩ := zbd h
          refine zr_cSl (pc := 64) hC hEk [.long q18.1, .long (q18.2.2 0 29), .int v3] [] 3 (fun l D => tX12_inLeast hEk hq19 l D) gX12_inAll_X12_inLeast rfl rfl rfl ⟨Nat.le_of_ble_eq_true rfl, Nat.le_of_ble_eq_true rfl⟩ hyX12_inLeast rfl rfl (Nat.le_of_ble_eq_true rfl) ⟨Nat.le_of_ble_eq_true rfl, Nat.le_of_ble_eq_true rfl⟩ dX12_inAll_64 ?_
          obtain rfl := Option.some.inj h
          exact zr_lret hC hR ⟨rfl, rfl⟩ (Nat.le_refl _) (Nat.le_refl _) dX12_inAll_67
        · replace h := zip h c16
          refine zr_aload_n (pc := 42) hC 0 rfl rfl dX12_inAll_42 ?_
          refine zr_bipush (pc := 43) hC zkb_m3 dX12_inAll_43 ?_
          obtain ⟨q20, hq20, h⟩ := zbd h
          refine zr_cVl (pc := 45) hC hEk [.int (-3 : Int32)] [] 0 1 (fun l D => tX12_noLong hEk hq20 l D) gX12_inAll_X12_noLong rfl rfl rfl ⟨Nat.le_of_ble_eq_true rfl, Nat.le_of_ble_eq_true rfl⟩ hyX12_noLong (by decide) entM_0 rfl rfl rfl (Nat.le_of_ble_eq_true rfl) ⟨Nat.le_of_ble_eq_true rfl, Nat.le_of_ble_eq_true rfl⟩ dX12_inAll_45 ?_
          obtain rfl := Option.some.inj h
          exact zr_lret hC hR ⟨rfl, rfl⟩ (Nat.le_refl _) (Nat.le_refl _) dX12_inAll_48
      · replace h := zip h c14
        refine zr_aload_n (pc := 28) hC 0 rfl rfl dX12_inAll_28 ?_
        refine zr_bipush (pc := 29) hC zkb_m2 dX12_inAll_29 ?_
        obtain ⟨q21, hq21, h⟩ := zbd h
        refine zr_cVl (pc := 31) hC hEk [.int (-2 : Int32)] [] 0 1 (fun l D => tX12_noLong hEk hq21 l D) gX12_inAll_X12_noLong rfl rfl rfl ⟨Nat.le_of_ble_eq_true rfl, Nat.le_of_ble_eq_true rfl⟩ hyX12_noLong (by decide) entM_0 rfl rfl rfl (Nat.le_of_ble_eq_true rfl) ⟨Nat.le_of_ble_eq_true rfl, Nat.le_of_ble_eq_true rfl⟩ dX12_inAll_31 ?_
        obtain rfl := Option.some.inj h
        exact zr_lret hC hR ⟨rfl, rfl⟩ (Nat.le_refl _) (Nat.le_refl _) dX12_inAll_34
    · replace h := zip h c12
      refine zr_aload_n (pc := 13) hC 0 rfl rfl dX12_inAll_13 ?_
      refine zr_iconst (pc := 14) hC zki_m1 dX12_inAll_14 ?_
      obtain ⟨q22, hq22, h⟩ := zbd h
      refine zr_cVl (pc := 15) hC hEk [.int (-1 : Int32)] [] 0 1 (fun l D => tX12_noLong hEk hq22 l D) gX12_inAll_X12_noLong rfl rfl rfl ⟨Nat.le_of_ble_eq_true rfl, Nat.le_of_ble_eq_true rfl⟩ hyX12_noLong (by decide) entM_0 rfl rfl rfl (Nat.le_of_ble_eq_true rfl) ⟨Nat.le_of_ble_eq_true rfl, Nat.le_of_ble_eq_true rfl⟩ dX12_inAll_15 ?_
      obtain rfl := Option.some.inj h
      exact zr_lret hC hR ⟨rfl, rfl⟩ (Nat.le_refl _) (Nat.le_refl _) dX12_inAll_18
/-! X12_wins -/
theorem hyX12_wins : yX12_wins.cls = RX12 ∧ yX12_wins.cls ≠ "java/lang/invoke/MethodHandle" ∧ yX12_wins.cls ≠ "java/lang/invoke/VarHandle" ∧ (parseMethodDescriptor yX12_wins.desc).map (fun d => d.parameters.length) = some 2 := by decide +kernel
theorem hinX12_wins_X12 : ∀ w ∈ wsX120, w ∈ wsX12_wins := fun _ h => List.mem_cons_of_mem _ (List.mem_append_right _ h)
def xX12_wins (M : zM) (v1 : Int32) (v2 : Int32) : Option (Int64 × zM) :=
  (xX12_inAll M (0 : Int32) v1 v2).bind fun q1 =>
  some (q1.1, q1.2)
set_option maxHeartbeats 4000000 in
set_option maxRecDepth 100000 in
theorem tX12_wins {κ : Nat → ClassId} {E : zEn} {ad : Nat → Nat} (hEk : zEk E) {M : zM} {v1 : Int32} {v2 : Int32} {res : (Int64 × zM)} (h : xX12_wins M v1 v2 = some res) (l : Launch) (D : va_G) : zCT E D vwCl (zty κ) l yX12_wins wsX12_wins ({ frames := 6, cells := 0, slots := 0, locals := 138 } : Room) 0 0 [.ref (ad 0), .int v1, .int v2] (zwM κ ad M) (zPd (some (.long res.1)) (zwM κ ad res.2)) := by
  refine zCT.of (cc := cX12_wins) (maxL := 3) (ret := (some .long)) (by decide) rfl (Nat.le_of_ble_eq_true rfl) ?_
  intro X hC hR
  unfold xX12_wins at h
  refine zV.sub (lv' := [(0, .ref (ad 0)), (1, .int v1), (2, .int v2)]) [0, 1, 2] rfl ?_
  refine zr_aload_n (pc := 0) hC 0 rfl rfl dX12_wins_0 ?_
  refine zr_iconst (pc := 1) hC zki_0 dX12_wins_1 ?_
  refine zr_iload_n (pc := 2) hC 1 rfl rfl dX12_wins_2 ?_
  refine zr_iload_n (pc := 3) hC 2 rfl rfl dX12_wins_3 ?_
  obtain ⟨q1, hq1, h⟩ := zbd h
  refine zr_cVl (pc := 4) hC hEk [.int (0 : Int32), .int v1, .int v2] [] 0 3 (fun l D => tX12_inAll hEk hq1 l D) gX12_wins_X12_inAll rfl rfl rfl ⟨Nat.le_of_ble_eq_true rfl, Nat.le_of_ble_eq_true rfl⟩ hyX12_inAll (by decide) entM_0 rfl rfl rfl (Nat.le_of_ble_eq_true rfl) ⟨Nat.le_of_ble_eq_true rfl, Nat.le_of_ble_eq_true rfl⟩ dX12_wins_4 ?_
  obtain rfl := Option.some.inj h
  exact zr_lret hC hR ⟨rfl, rfl⟩ (Nat.le_refl _) (Nat.le_refl _) dX12_wins_7
/-! X12_worth -/
theorem hyX12_worth : yX12_worth.cls = RX12 ∧ yX12_worth.cls ≠ "java/lang/invoke/MethodHandle" ∧ yX12_worth.cls ≠ "java/lang/invoke/VarHandle" ∧ (parseMethodDescriptor yX12_worth.desc).map (fun d => d.parameters.length) = some 2 := by decide +kernel
theorem hinX12_worth_X12 : ∀ w ∈ wsX120, w ∈ wsX12_worth := fun _ h => List.mem_cons_of_mem _ (List.mem_append_right _ h)
def xX12_worth (M : zM) (v1 : Int32) (v2 : Int32) : Option (Int64 × zM) :=
  (xX12_inAll M (1 : Int32) v1 v2).bind fun q1 =>
  some (q1.1, q1.2)
set_option maxHeartbeats 4000000 in
set_option maxRecDepth 100000 in
theorem tX12_worth {κ : Nat → ClassId} {E : zEn} {ad : Nat → Nat} (hEk : zEk E) {M : zM} {v1 : Int32} {v2 : Int32} {res : (Int64 × zM)} (h : xX12_worth M v1 v2 = some res) (l : Launch) (D : va_G) : zCT E D vwCl (zty κ) l yX12_worth wsX12_worth ({ frames := 6, cells := 0, slots := 0, locals := 138 } : Room) 0 0 [.ref (ad 0), .int v1, .int v2] (zwM κ ad M) (zPd (some (.long res.1)) (zwM κ ad res.2)) := by
  refine zCT.of (cc := cX12_worth) (maxL := 3) (ret := (some .long)) (by decide) rfl (Nat.le_of_ble_eq_true rfl) ?_
  intro X hC hR
  unfold xX12_worth at h
  refine zV.sub (lv' := [(0, .ref (ad 0)), (1, .int v1), (2, .int v2)]) [0, 1, 2] rfl ?_
  refine zr_aload_n (pc := 0) hC 0 rfl rfl dX12_worth_0 ?_
  refine zr_iconst (pc := 1) hC zki_1 dX12_worth_1 ?_
  refine zr_iload_n (pc := 2) hC 1 rfl rfl dX12_worth_2 ?_
  refine zr_iload_n (pc := 3) hC 2 rfl rfl dX12_worth_3 ?_
  obtain ⟨q1, hq1, h⟩ := zbd h
  refine zr_cVl (pc := 4) hC hEk [.int (1 : Int32), .int v1, .int v2] [] 0 3 (fun l D => tX12_inAll hEk hq1 l D) gX12_worth_X12_inAll rfl rfl rfl ⟨Nat.le_of_ble_eq_true rfl, Nat.le_of_ble_eq_true rfl⟩ hyX12_inAll (by decide) entM_0 rfl rfl rfl (Nat.le_of_ble_eq_true rfl) ⟨Nat.le_of_ble_eq_true rfl, Nat.le_of_ble_eq_true rfl⟩ dX12_worth_4 ?_
  obtain rfl := Option.some.inj h
  exact zr_lret hC hR ⟨rfl, rfl⟩ (Nat.le_refl _) (Nat.le_refl _) dX12_worth_7
/-! X12_nobody -/
theorem hyX12_nobody : yX12_nobody.cls = RX12 ∧ yX12_nobody.cls ≠ "java/lang/invoke/MethodHandle" ∧ yX12_nobody.cls ≠ "java/lang/invoke/VarHandle" ∧ (parseMethodDescriptor yX12_nobody.desc).map (fun d => d.parameters.length) = some 1 := by decide +kernel
theorem hinX12_nobody_X12 : ∀ w ∈ wsX120, w ∈ wsX12_nobody := fun _ h => List.mem_cons_of_mem _ (List.mem_append_right _ h)
def xX12_nobody (M : zM) (v1 : Int32) : Option (Int64 × zM) :=
  (xX12_inAll M (2 : Int32) (0 : Int32) v1).bind fun q1 =>
  some (q1.1, q1.2)
set_option maxHeartbeats 4000000 in
set_option maxRecDepth 100000 in
theorem tX12_nobody {κ : Nat → ClassId} {E : zEn} {ad : Nat → Nat} (hEk : zEk E) {M : zM} {v1 : Int32} {res : (Int64 × zM)} (h : xX12_nobody M v1 = some res) (l : Launch) (D : va_G) : zCT E D vwCl (zty κ) l yX12_nobody wsX12_nobody ({ frames := 6, cells := 0, slots := 0, locals := 138 } : Room) 0 0 [.ref (ad 0), .int v1] (zwM κ ad M) (zPd (some (.long res.1)) (zwM κ ad res.2)) := by
  refine zCT.of (cc := cX12_nobody) (maxL := 2) (ret := (some .long)) (by decide) rfl (Nat.le_of_ble_eq_true rfl) ?_
  intro X hC hR
  unfold xX12_nobody at h
  refine zV.sub (lv' := [(0, .ref (ad 0)), (1, .int v1)]) [0, 1] rfl ?_
  refine zr_aload_n (pc := 0) hC 0 rfl rfl dX12_nobody_0 ?_
  refine zr_iconst (pc := 1) hC zki_2 dX12_nobody_1 ?_
  refine zr_iconst (pc := 2) hC zki_0 dX12_nobody_2 ?_
  refine zr_iload_n (pc := 3) hC 1 rfl rfl dX12_nobody_3 ?_
  obtain ⟨q1, hq1, h⟩ := zbd h
  refine zr_cVl (pc := 4) hC hEk [.int (2 : Int32), .int (0 : Int32), .int v1] [] 0 3 (fun l D => tX12_inAll hEk hq1 l D) gX12_nobody_X12_inAll rfl rfl rfl ⟨Nat.le_of_ble_eq_true rfl, Nat.le_of_ble_eq_true rfl⟩ hyX12_inAll (by decide) entM_0 rfl rfl rfl (Nat.le_of_ble_eq_true rfl) ⟨Nat.le_of_ble_eq_true rfl, Nat.le_of_ble_eq_true rfl⟩ dX12_nobody_4 ?_
  obtain rfl := Option.some.inj h
  exact zr_lret hC hR ⟨rfl, rfl⟩ (Nat.le_refl _) (Nat.le_refl _) dX12_nobody_7
/-! X12_dull -/
theorem hyX12_dull : yX12_dull.cls = RX12 ∧ yX12_dull.cls ≠ "java/lang/invoke/MethodHandle" ∧ yX12_dull.cls ≠ "java/lang/invoke/VarHandle" ∧ (parseMethodDescriptor yX12_dull.desc).map (fun d => d.parameters.length) = some 1 := by decide +kernel
theorem hinX12_dull_X12 : ∀ w ∈ wsX120, w ∈ wsX12_dull := fun _ h => List.mem_cons_of_mem _ (List.mem_append_right _ h)
def xX12_dull (M : zM) (v1 : Int32) : Option (Int64 × zM) :=
  (xX12_inAll M (3 : Int32) (0 : Int32) v1).bind fun q1 =>
  some (q1.1, q1.2)
set_option maxHeartbeats 4000000 in
set_option maxRecDepth 100000 in
theorem tX12_dull {κ : Nat → ClassId} {E : zEn} {ad : Nat → Nat} (hEk : zEk E) {M : zM} {v1 : Int32} {res : (Int64 × zM)} (h : xX12_dull M v1 = some res) (l : Launch) (D : va_G) : zCT E D vwCl (zty κ) l yX12_dull wsX12_dull ({ frames := 6, cells := 0, slots := 0, locals := 138 } : Room) 0 0 [.ref (ad 0), .int v1] (zwM κ ad M) (zPd (some (.long res.1)) (zwM κ ad res.2)) := by
  refine zCT.of (cc := cX12_dull) (maxL := 2) (ret := (some .long)) (by decide) rfl (Nat.le_of_ble_eq_true rfl) ?_
  intro X hC hR
  unfold xX12_dull at h
  refine zV.sub (lv' := [(0, .ref (ad 0)), (1, .int v1)]) [0, 1] rfl ?_
  refine zr_aload_n (pc := 0) hC 0 rfl rfl dX12_dull_0 ?_
  refine zr_iconst (pc := 1) hC zki_3 dX12_dull_1 ?_
  refine zr_iconst (pc := 2) hC zki_0 dX12_dull_2 ?_
  refine zr_iload_n (pc := 3) hC 1 rfl rfl dX12_dull_3 ?_
  obtain ⟨q1, hq1, h⟩ := zbd h
  refine zr_cVl (pc := 4) hC hEk [.int (3 : Int32), .int (0 : Int32), .int v1] [] 0 3 (fun l D => tX12_inAll hEk hq1 l D) gX12_dull_X12_inAll rfl rfl rfl ⟨Nat.le_of_ble_eq_true rfl, Nat.le_of_ble_eq_true rfl⟩ hyX12_inAll (by decide) entM_0 rfl rfl rfl (Nat.le_of_ble_eq_true rfl) ⟨Nat.le_of_ble_eq_true rfl, Nat.le_of_ble_eq_true rfl⟩ dX12_dull_4 ?_
  obtain rfl := Option.some.inj h
  exact zr_lret hC hR ⟨rfl, rfl⟩ (Nat.le_refl _) (Nat.le_refl _) dX12_dull_7
/-! X12_value -/
theorem hyX12_value : yX12_value.cls = RX12 ∧ yX12_value.cls ≠ "java/lang/invoke/MethodHandle" ∧ yX12_value.cls ≠ "java/lang/invoke/VarHandle" ∧ (parseMethodDescriptor yX12_value.desc).map (fun d => d.parameters.length) = some 3 := by decide +kernel
theorem flX12_value_71 : Cond.fieldLink RX12 71 "BeforeTheEndModel" "share" "[J" ∈ wsX12_value := by decide +kernel
theorem flX12_value_87 : Cond.fieldLink RX12 87 "BeforeTheEndModel" "worthAt" "[J" ∈ wsX12_value := by decide +kernel
theorem hinX12_value_X12 : ∀ w ∈ wsX120, w ∈ wsX12_value := fun _ h => List.mem_cons_of_mem _ (List.mem_append_right _ h)
def xX12_value (M : zM) (v1 : Int32) (v2 : Int32) (v3 : Int32) : Option (Int64 × zM) :=
  (xX12_isPlayer M v1).bind fun q1 =>
  if q1 = 0 then
  ((xX12_noLong M (-1 : Int32)).bind fun q3 =>
  some (q3.1, q3.2))
  else
  (xX12_isWord M v2).bind fun q4 =>
  if q4 = 0 then
  ((xX12_noLong M (-1 : Int32)).bind fun q16 =>
  some (q16.1, q16.2))
  else
  (xX12_isIn v3 (0 : Int32) (1 : Int32)).bind fun q6 =>
  if q6 = 0 then
  ((xX12_noLong M (-2 : Int32)).bind fun q15 =>
  some (q15.1, q15.2))
  else
  (xX12_isWhole M).bind fun q8 =>
  if q8 = 0 then
  ((xX12_noLong M (-3 : Int32)).bind fun q14 =>
  some (q14.1, q14.2))
  else
  (xX12_finds M).bind fun q10 =>
  (xX12_findAlone q10 v1).bind fun q11 =>
  if (v2 < 0 ∨ 24 ≤ v2.toNatClampNeg) then none else
  (xX12_inLeast (q11.2 25 v2.toNatClampNeg) (q11.2 20 v2.toNatClampNeg) v3).bind fun q13 =>
  some (q13, q11)
set_option maxHeartbeats 4000000 in
set_option maxRecDepth 100000 in
theorem tX12_value {κ : Nat → ClassId} {E : zEn} {ad : Nat → Nat} (hEk : zEk E) {M : zM} {v1 : Int32} {v2 : Int32} {v3 : Int32} {res : (Int64 × zM)} (h : xX12_value M v1 v2 v3 = some res) (l : Launch) (D : va_G) : zCT E D vwCl (zty κ) l yX12_value wsX12_value ({ frames := 5, cells := 0, slots := 0, locals := 115 } : Room) 0 0 [.ref (ad 0), .int v1, .int v2, .int v3] (zwM κ ad M) (zPd (some (.long res.1)) (zwM κ ad res.2)) := by
  refine zCT.of (cc := cX12_value) (maxL := 4) (ret := (some .long)) (by decide) rfl (Nat.le_of_ble_eq_true rfl) ?_
  intro X hC hR
  unfold xX12_value at h
  refine zV.sub (lv' := [(0, .ref (ad 0)), (1, .int v1), (2, .int v2), (3, .int v3)]) [0, 1, 2, 3] rfl ?_
  refine zr_aload_n (pc := 0) hC 0 rfl rfl dX12_value_0 ?_
  refine zr_iload_n (pc := 1) hC 1 rfl rfl dX12_value_1 ?_
  obtain ⟨q1, hq1, h⟩ := zbd h
  refine zr_cVi (pc := 2) hC hEk [.int v1] [] 0 1 (fun l D => tX12_isPlayer hEk hq1 l D) gX12_value_X12_isPlayer rfl rfl rfl ⟨Nat.le_of_ble_eq_true rfl, Nat.le_of_ble_eq_true rfl⟩ hyX12_isPlayer (by decide) entM_0 rfl rfl rfl (Nat.le_of_ble_eq_true rfl) ⟨Nat.le_of_ble_eq_true rfl, Nat.le_of_ble_eq_true rfl⟩ dX12_value_2 ?_
  refine zr_if_eq (pc := 5) (tgt := 16) hC dX12_value_5 (by decide) (fun c2 => ?_) (fun c2 => ?_)
  · replace h := zip h c2
    refine zr_aload_n (pc := 16) hC 0 rfl rfl dX12_value_16 ?_
    refine zr_iconst (pc := 17) hC zki_m1 dX12_value_17 ?_
    obtain ⟨q3, hq3, h⟩ := zbd h
    refine zr_cVl (pc := 18) hC hEk [.int (-1 : Int32)] [] 0 1 (fun l D => tX12_noLong hEk hq3 l D) gX12_value_X12_noLong rfl rfl rfl ⟨Nat.le_of_ble_eq_true rfl, Nat.le_of_ble_eq_true rfl⟩ hyX12_noLong (by decide) entM_0 rfl rfl rfl (Nat.le_of_ble_eq_true rfl) ⟨Nat.le_of_ble_eq_true rfl, Nat.le_of_ble_eq_true rfl⟩ dX12_value_18 ?_
    obtain rfl := Option.some.inj h
    exact zr_lret hC hR ⟨rfl, rfl⟩ (Nat.le_refl _) (Nat.le_refl _) dX12_value_21
  · replace h := zin h c2
    refine zr_aload_n (pc := 8) hC 0 rfl rfl dX12_value_8 ?_
    refine zr_iload_n (pc := 9) hC 2 rfl rfl dX12_value_9 ?_
    obtain ⟨q4, hq4, h⟩ := zbd h
    refine zr_cVi (pc := 10) hC hEk [.int v2] [] 0 1 (fun l D => tX12_isWord hEk hq4 l D) gX12_value_X12_isWord rfl rfl rfl ⟨Nat.le_of_ble_eq_true rfl, Nat.le_of_ble_eq_true rfl⟩ hyX12_isWord (by decide) entM_0 rfl rfl rfl (Nat.le_of_ble_eq_true rfl) ⟨Nat.le_of_ble_eq_true rfl, Nat.le_of_ble_eq_true rfl⟩ dX12_value_10 ?_
    refine zr_if_ne (pc := 13) (tgt := 22) hC dX12_value_13 (by decide) (fun c5 => ?_) (fun c5 => ?_)
    · replace h := zin h c5
      refine zr_iload_n (pc := 22) hC 3 rfl rfl dX12_value_22 ?_
      refine zr_iconst (pc := 23) hC zki_0 dX12_value_23 ?_
      refine zr_iconst (pc := 24) hC zki_1 dX12_value_24 ?_
      obtain ⟨q6, hq6, h⟩ := zbd h
      refine zr_cSi (pc := 25) hC hEk [.int v3, .int (0 : Int32), .int (1 : Int32)] [] 3 (fun l D => tX12_isIn hEk hq6 l D) gX12_value_X12_isIn rfl rfl rfl ⟨Nat.le_of_ble_eq_true rfl, Nat.le_of_ble_eq_true rfl⟩ hyX12_isIn rfl rfl (Nat.le_of_ble_eq_true rfl) ⟨Nat.le_of_ble_eq_true rfl, Nat.le_of_ble_eq_true rfl⟩ dX12_value_25 ?_
      refine zr_if_ne (pc := 28) (tgt := 38) hC dX12_value_28 (by decide) (fun c7 => ?_) (fun c7 => ?_)
      · replace h := zin h c7
        refine zr_aload_n (pc := 38) hC 0 rfl rfl dX12_value_38 ?_
        obtain ⟨q8, hq8, h⟩ := zbd h
        refine zr_cVi (pc := 39) hC hEk [] [] 0 0 (fun l D => tX12_isWhole hEk hq8 l D) gX12_value_X12_isWhole rfl rfl rfl ⟨Nat.le_of_ble_eq_true rfl, Nat.le_of_ble_eq_true rfl⟩ hyX12_isWhole (by decide) entM_0 rfl rfl rfl (Nat.le_of_ble_eq_true rfl) ⟨Nat.le_of_ble_eq_true rfl, Nat.le_of_ble_eq_true rfl⟩ dX12_value_39 ?_
        refine zr_if_ne (pc := 42) (tgt := 52) hC dX12_value_42 (by decide) (fun c9 => ?_) (fun c9 => ?_)
        · replace h := zin h c9
          refine zr_aload_n (pc := 52) hC 0 rfl rfl dX12_value_52 ?_
          obtain ⟨q10, hq10, h⟩ := zbd h
          refine zr_cVv (pc := 53) hC hEk [] [] 0 0 (fun l D => tX12_finds hEk hq10 l D) gX12_value_X12_finds rfl rfl rfl ⟨Nat.le_of_ble_eq_true rfl, Nat.le_of_ble_eq_true rfl⟩ hyX12_finds (by decide) entM_0 rfl rfl rfl (Nat.le_of_ble_eq_true rfl) ⟨Nat.le_of_ble_eq_true rfl, Nat.le_of_ble_eq_true rfl⟩ dX12_value_53 ?_
          refine zr_aload_n (pc := 56) hC 0 rfl rfl dX12_value_56 ?_
          refine zr_iload_n (pc := 57) hC 1 rfl rfl dX12_value_57 ?_
          obtain ⟨q11, hq11, h⟩ := zbd h
          refine zr_cVv (pc := 58) hC hEk [.int v1] [] 0 1 (fun l D => tX12_findAlone hEk hq11 l D) gX12_value_X12_findAlone rfl rfl rfl ⟨Nat.le_of_ble_eq_true rfl, Nat.le_of_ble_eq_true rfl⟩ hyX12_findAlone (by decide) entM_0 rfl rfl rfl (Nat.le_of_ble_eq_true rfl) ⟨Nat.le_of_ble_eq_true rfl, Nat.le_of_ble_eq_true rfl⟩ dX12_value_58 ?_
          refine zr_aload_n (pc := 61) hC 0 rfl rfl dX12_value_61 ?_
          refine zmg_30 (pc := 62) hC hinX12_value_X12 flX12_value_87 dX12_value_62 ?_
          refine zr_iload_n (pc := 65) hC 2 rfl rfl dX12_value_65 ?_
          obtain ⟨i12, h⟩ := zgd h
          refine zml_25 (pc := 66) hC i12 dX12_value_66 ?_
          refine zr_aload_n (pc := 67) hC 0 rfl rfl dX12_value_67 ?_
          refine zmg_24 (pc := 68) hC hinX12_value_X12 flX12_value_71 dX12_value_68 ?_
          refine zr_iload_n (pc := 71) hC 2 rfl rfl dX12_value_71 ?_
          refine zml_20 (pc := 72) hC i12 dX12_value_72 ?_
          refine zr_iload_n (pc := 73) hC 3 rfl rfl dX12_value_73 ?_
          obtain ⟨q13, hq13, h⟩ := zbd h
          refine zr_cSl (pc := 74) hC hEk [.long (q11.2 25 v2.toNatClampNeg), .long (q11.2 20 v2.toNatClampNeg), .int v3] [] 3 (fun l D => tX12_inLeast hEk hq13 l D) gX12_value_X12_inLeast rfl rfl rfl ⟨Nat.le_of_ble_eq_true rfl, Nat.le_of_ble_eq_true rfl⟩ hyX12_inLeast rfl rfl (Nat.le_of_ble_eq_true rfl) ⟨Nat.le_of_ble_eq_true rfl, Nat.le_of_ble_eq_true rfl⟩ dX12_value_74 ?_
          obtain rfl := Option.some.inj h
          exact zr_lret hC hR ⟨rfl, rfl⟩ (Nat.le_refl _) (Nat.le_refl _) dX12_value_77
        · replace h := zip h c9
          refine zr_aload_n (pc := 45) hC 0 rfl rfl dX12_value_45 ?_
          refine zr_bipush (pc := 46) hC zkb_m3 dX12_value_46 ?_
          obtain ⟨q14, hq14, h⟩ := zbd h
          refine zr_cVl (pc := 48) hC hEk [.int (-3 : Int32)] [] 0 1 (fun l D => tX12_noLong hEk hq14 l D) gX12_value_X12_noLong rfl rfl rfl ⟨Nat.le_of_ble_eq_true rfl, Nat.le_of_ble_eq_true rfl⟩ hyX12_noLong (by decide) entM_0 rfl rfl rfl (Nat.le_of_ble_eq_true rfl) ⟨Nat.le_of_ble_eq_true rfl, Nat.le_of_ble_eq_true rfl⟩ dX12_value_48 ?_
          obtain rfl := Option.some.inj h
          exact zr_lret hC hR ⟨rfl, rfl⟩ (Nat.le_refl _) (Nat.le_refl _) dX12_value_51
      · replace h := zip h c7
        refine zr_aload_n (pc := 31) hC 0 rfl rfl dX12_value_31 ?_
        refine zr_bipush (pc := 32) hC zkb_m2 dX12_value_32 ?_
        obtain ⟨q15, hq15, h⟩ := zbd h
        refine zr_cVl (pc := 34) hC hEk [.int (-2 : Int32)] [] 0 1 (fun l D => tX12_noLong hEk hq15 l D) gX12_value_X12_noLong rfl rfl rfl ⟨Nat.le_of_ble_eq_true rfl, Nat.le_of_ble_eq_true rfl⟩ hyX12_noLong (by decide) entM_0 rfl rfl rfl (Nat.le_of_ble_eq_true rfl) ⟨Nat.le_of_ble_eq_true rfl, Nat.le_of_ble_eq_true rfl⟩ dX12_value_34 ?_
        obtain rfl := Option.some.inj h
        exact zr_lret hC hR ⟨rfl, rfl⟩ (Nat.le_refl _) (Nat.le_refl _) dX12_value_37
    · replace h := zip h c5
      refine zr_aload_n (pc := 16) hC 0 rfl rfl dX12_value_16 ?_
      refine zr_iconst (pc := 17) hC zki_m1 dX12_value_17 ?_
      obtain ⟨q16, hq16, h⟩ := zbd h
      refine zr_cVl (pc := 18) hC hEk [.int (-1 : Int32)] [] 0 1 (fun l D => tX12_noLong hEk hq16 l D) gX12_value_X12_noLong rfl rfl rfl ⟨Nat.le_of_ble_eq_true rfl, Nat.le_of_ble_eq_true rfl⟩ hyX12_noLong (by decide) entM_0 rfl rfl rfl (Nat.le_of_ble_eq_true rfl) ⟨Nat.le_of_ble_eq_true rfl, Nat.le_of_ble_eq_true rfl⟩ dX12_value_18 ?_
      obtain rfl := Option.some.inj h
      exact zr_lret hC hR ⟨rfl, rfl⟩ (Nat.le_refl _) (Nat.le_refl _) dX12_value_21
/-! X12_alone -/
theorem hyX12_alone : yX12_alone.cls = RX12 ∧ yX12_alone.cls ≠ "java/lang/invoke/MethodHandle" ∧ yX12_alone.cls ≠ "java/lang/invoke/VarHandle" ∧ (parseMethodDescriptor yX12_alone.desc).map (fun d => d.parameters.length) = some 1 := by decide +kernel
theorem flX12_alone_212 : Cond.fieldLink RX12 212 "BeforeTheEndModel" "aloneSet" "I" ∈ wsX12_alone := by decide +kernel
theorem hinX12_alone_X12 : ∀ w ∈ wsX120, w ∈ wsX12_alone := fun _ h => List.mem_cons_of_mem _ (List.mem_append_right _ h)
def xX12_alone (M : zM) (v1 : Int32) : Option (Int32 × zM) :=
  (xX12_isPlayer M v1).bind fun q1 =>
  if q1 = 0 then
  ((xX12_no M (-1 : Int32)).bind fun q8 =>
  some (q8.1, q8.2))
  else
  (xX12_isWhole M).bind fun q3 =>
  if q3 = 0 then
  ((xX12_no M (-3 : Int32)).bind fun q7 =>
  some (q7.1, q7.2))
  else
  (xX12_finds M).bind fun q5 =>
  (xX12_findAlone q5 v1).bind fun q6 =>
  some ((q6.1 0 31), q6)
set_option maxHeartbeats 4000000 in
set_option maxRecDepth 100000 in
theorem tX12_alone {κ : Nat → ClassId} {E : zEn} {ad : Nat → Nat} (hEk : zEk E) {M : zM} {v1 : Int32} {res : (Int32 × zM)} (h : xX12_alone M v1 = some res) (l : Launch) (D : va_G) : zCT E D vwCl (zty κ) l yX12_alone wsX12_alone ({ frames := 5, cells := 0, slots := 0, locals := 115 } : Room) 0 0 [.ref (ad 0), .int v1] (zwM κ ad M) (zPd (some (.int res.1)) (zwM κ ad res.2)) := by
  refine zCT.of (cc := cX12_alone) (maxL := 2) (ret := (some .int)) (by decide) rfl (Nat.le_of_ble_eq_true rfl) ?_
  intro X hC hR
  unfold xX12_alone at h
  refine zV.sub (lv' := [(0, .ref (ad 0)), (1, .int v1)]) [0, 1] rfl ?_
  refine zr_aload_n (pc := 0) hC 0 rfl rfl dX12_alone_0 ?_
  refine zr_iload_n (pc := 1) hC 1 rfl rfl dX12_alone_1 ?_
  obtain ⟨q1, hq1, h⟩ := zbd h
  refine zr_cVi (pc := 2) hC hEk [.int v1] [] 0 1 (fun l D => tX12_isPlayer hEk hq1 l D) gX12_alone_X12_isPlayer rfl rfl rfl ⟨Nat.le_of_ble_eq_true rfl, Nat.le_of_ble_eq_true rfl⟩ hyX12_isPlayer (by decide) entM_0 rfl rfl rfl (Nat.le_of_ble_eq_true rfl) ⟨Nat.le_of_ble_eq_true rfl, Nat.le_of_ble_eq_true rfl⟩ dX12_alone_2 ?_
  refine zr_if_ne (pc := 5) (tgt := 14) hC dX12_alone_5 (by decide) (fun c2 => ?_) (fun c2 => ?_)
  · replace h := zin h c2
    refine zr_aload_n (pc := 14) hC 0 rfl rfl dX12_alone_14 ?_
    obtain ⟨q3, hq3, h⟩ := zbd h
    refine zr_cVi (pc := 15) hC hEk [] [] 0 0 (fun l D => tX12_isWhole hEk hq3 l D) gX12_alone_X12_isWhole rfl rfl rfl ⟨Nat.le_of_ble_eq_true rfl, Nat.le_of_ble_eq_true rfl⟩ hyX12_isWhole (by decide) entM_0 rfl rfl rfl (Nat.le_of_ble_eq_true rfl) ⟨Nat.le_of_ble_eq_true rfl, Nat.le_of_ble_eq_true rfl⟩ dX12_alone_15 ?_
    refine zr_if_ne (pc := 18) (tgt := 28) hC dX12_alone_18 (by decide) (fun c4 => ?_) (fun c4 => ?_)
    · replace h := zin h c4
      refine zr_aload_n (pc := 28) hC 0 rfl rfl dX12_alone_28 ?_
      obtain ⟨q5, hq5, h⟩ := zbd h
      refine zr_cVv (pc := 29) hC hEk [] [] 0 0 (fun l D => tX12_finds hEk hq5 l D) gX12_alone_X12_finds rfl rfl rfl ⟨Nat.le_of_ble_eq_true rfl, Nat.le_of_ble_eq_true rfl⟩ hyX12_finds (by decide) entM_0 rfl rfl rfl (Nat.le_of_ble_eq_true rfl) ⟨Nat.le_of_ble_eq_true rfl, Nat.le_of_ble_eq_true rfl⟩ dX12_alone_29 ?_
      refine zr_aload_n (pc := 32) hC 0 rfl rfl dX12_alone_32 ?_
      refine zr_iload_n (pc := 33) hC 1 rfl rfl dX12_alone_33 ?_
      obtain ⟨q6, hq6, h⟩ := zbd h
      refine zr_cVv (pc := 34) hC hEk [.int v1] [] 0 1 (fun l D => tX12_findAlone hEk hq6 l D) gX12_alone_X12_findAlone rfl rfl rfl ⟨Nat.le_of_ble_eq_true rfl, Nat.le_of_ble_eq_true rfl⟩ hyX12_findAlone (by decide) entM_0 rfl rfl rfl (Nat.le_of_ble_eq_true rfl) ⟨Nat.le_of_ble_eq_true rfl, Nat.le_of_ble_eq_true rfl⟩ dX12_alone_34 ?_
      refine zr_aload_n (pc := 37) hC 0 rfl rfl dX12_alone_37 ?_
      refine zmg_31 (pc := 38) hC hinX12_alone_X12 flX12_alone_212 dX12_alone_38 ?_
      obtain rfl := Option.some.inj h
      exact zr_iret hC hR ⟨rfl, rfl⟩ (Nat.le_refl _) (Nat.le_refl _) dX12_alone_41
    · replace h := zip h c4
      refine zr_aload_n (pc := 21) hC 0 rfl rfl dX12_alone_21 ?_
      refine zr_bipush (pc := 22) hC zkb_m3 dX12_alone_22 ?_
      obtain ⟨q7, hq7, h⟩ := zbd h
      refine zr_cVi (pc := 24) hC hEk [.int (-3 : Int32)] [] 0 1 (fun l D => tX12_no hEk hq7 l D) gX12_alone_X12_no rfl rfl rfl ⟨Nat.le_of_ble_eq_true rfl, Nat.le_of_ble_eq_true rfl⟩ hyX12_no (by decide) entM_0 rfl rfl rfl (Nat.le_of_ble_eq_true rfl) ⟨Nat.le_of_ble_eq_true rfl, Nat.le_of_ble_eq_true rfl⟩ dX12_alone_24 ?_
      obtain rfl := Option.some.inj h
      exact zr_iret hC hR ⟨rfl, rfl⟩ (Nat.le_refl _) (Nat.le_refl _) dX12_alone_27
  · replace h := zip h c2
    refine zr_aload_n (pc := 8) hC 0 rfl rfl dX12_alone_8 ?_
    refine zr_iconst (pc := 9) hC zki_m1 dX12_alone_9 ?_
    obtain ⟨q8, hq8, h⟩ := zbd h
    refine zr_cVi (pc := 10) hC hEk [.int (-1 : Int32)] [] 0 1 (fun l D => tX12_no hEk hq8 l D) gX12_alone_X12_no rfl rfl rfl ⟨Nat.le_of_ble_eq_true rfl, Nat.le_of_ble_eq_true rfl⟩ hyX12_no (by decide) entM_0 rfl rfl rfl (Nat.le_of_ble_eq_true rfl) ⟨Nat.le_of_ble_eq_true rfl, Nat.le_of_ble_eq_true rfl⟩ dX12_alone_10 ?_
    obtain rfl := Option.some.inj h
    exact zr_iret hC hR ⟨rfl, rfl⟩ (Nat.le_refl _) (Nat.le_refl _) dX12_alone_13
/-! X12_tries -/
theorem hyX12_tries : yX12_tries.cls = RX12 ∧ yX12_tries.cls ≠ "java/lang/invoke/MethodHandle" ∧ yX12_tries.cls ≠ "java/lang/invoke/VarHandle" ∧ (parseMethodDescriptor yX12_tries.desc).map (fun d => d.parameters.length) = some 2 := by decide +kernel
theorem flX12_tries_281 : Cond.fieldLink RX12 281 "BeforeTheEndModel" "bestSet" "I" ∈ wsX12_tries := by decide +kernel
theorem flX12_tries_284 : Cond.fieldLink RX12 284 "BeforeTheEndModel" "bestWorth" "J" ∈ wsX12_tries := by decide +kernel
theorem flX12_tries_46 : Cond.fieldLink RX12 46 "BeforeTheEndModel" "words" "I" ∈ wsX12_tries := by decide +kernel
theorem flX12_tries_78 : Cond.fieldLink RX12 78 "BeforeTheEndModel" "guessAt" "[I" ∈ wsX12_tries := by decide +kernel
theorem flX12_tries_81 : Cond.fieldLink RX12 81 "BeforeTheEndModel" "presses" "[I" ∈ wsX12_tries := by decide +kernel
theorem flX12_tries_84 : Cond.fieldLink RX12 84 "BeforeTheEndModel" "learnt" "[I" ∈ wsX12_tries := by decide +kernel
theorem hinX12_tries_X12 : ∀ w ∈ wsX120, w ∈ wsX12_tries := fun _ h => List.mem_cons_of_mem _ (List.mem_append_right _ h)
def xX12_tries_L5 (M : zM) (v1 : Int32) (v2 : Int32) (w0 : Int32) (w1 : Int32) : Option ((Int32 × Int32) ⊕ Int32) :=
  if (M.1 0 12) ≤ w1 then
  (some (.inr w0))
  else
  if ((v2 >>> (w1 &&& 31)) &&& (1 : Int32)) = (1 : Int32) then
  (if ((((24 : Int32) * v1) + w1) < 0 ∨ 96 ≤ (((24 : Int32) * v1) + w1).toNatClampNeg) then none else
  if (M.1 22 (((24 : Int32) * v1) + w1).toNatClampNeg) = 0 then
  (zlet (w0 ||| (0 : Int32)) fun z7 =>
  some (.inl (z7, (w1 + (1 : Int32)))))
  else
  zlet (w0 ||| ((1 : Int32) <<< (w1 &&& 31))) fun z9 =>
  some (.inl (z9, (w1 + (1 : Int32)))))
  else
  zlet (w0 ||| (0 : Int32)) fun z3 =>
  some (.inl (z3, (w1 + (1 : Int32))))
set_option maxHeartbeats 4000000 in
set_option maxRecDepth 100000 in
theorem tX12_tries_L5 {κ : Nat → ClassId} {E : zEn} {ad : Nat → Nat} {X : zX} {M : zM} {v1 : Int32} {v2 : Int32} {w0 : Int32} {w1 : Int32} {r : ((Int32 × Int32) ⊕ Int32)} (hC : zC X cX12_tries RX12 wsX12_tries vwCl (zty κ) E 6 ({ frames := 3, cells := 0, slots := 0, locals := 73 } : Room)) (hEk : zEk E) (hin : ∀ (x0' : Int32) (x1' : Int32), r = .inl (x0', x1') → zV X 0 0 (zwM κ ad M) [(0, .ref (ad 0)), (1, .int v1), (2, .int v2), (3, .int x0'), (4, .int x1')] [] 5) (hout0 : ∀ (x0' : Int32), r = .inr x0' → zV X 0 0 (zwM κ ad M) [(0, .ref (ad 0)), (1, .int v1), (2, .int v2), (3, .int x0')] [] 56) (h : xX12_tries_L5 M v1 v2 w0 w1 = some r) : zV X 0 0 (zwM κ ad M) [(0, .ref (ad 0)), (1, .int v1), (2, .int v2), (3, .int w0), (4, .int w1)] [] 5 := by
  unfold xX12_tries_L5 at h
  refine zr_iload (pc := 5) hC 4 rfl dX12_tries_5 ?_
  refine zr_aload_n (pc := 7) hC 0 rfl rfl dX12_tries_7 ?_
  refine zmg_12 (pc := 8) hC hinX12_tries_X12 flX12_tries_46 dX12_tries_8 ?_
  refine zr_icmp_ge (pc := 11) (tgt := 56) hC dX12_tries_11 (by decide) (fun c1 => ?_) (fun c1 => ?_)
  · replace h := zip h c1
    obtain rfl := Option.some.inj h
    exact zV.sub (lv' := [(0, .ref (ad 0)), (1, .int v1), (2, .int v2), (3, .int w0)]) [0, 1, 2, 3] rfl (hout0 w0 rfl)
  · replace h := zin h c1
    refine zr_iload_n (pc := 14) hC 3 rfl rfl dX12_tries_14 ?_
    refine zr_iload_n (pc := 15) hC 2 rfl rfl dX12_tries_15 ?_
    refine zr_iload (pc := 16) hC 4 rfl dX12_tries_16 ?_
    refine zr_ishr (pc := 18) hC dX12_tries_18 ?_
    refine zr_iconst (pc := 19) hC zki_1 dX12_tries_19 ?_
    refine zr_iand (pc := 20) hC dX12_tries_20 ?_
    refine zr_iconst (pc := 21) hC zki_1 dX12_tries_21 ?_
    refine zr_icmp_ne (pc := 22) (tgt := 47) hC dX12_tries_22 (by decide) (fun c2 => ?_) (fun c2 => ?_)
    · replace h := zin h c2
      refine zr_iconst (pc := 47) hC zki_0 dX12_tries_47 ?_
      refine zr_ior (pc := 48) hC dX12_tries_48 ?_
      obtain ⟨z3, e4, h⟩ := zle h
      refine zr_topi e4 ?_
      refine zr_istore_n (pc := 49) (lv' := [(3, .int z3), (0, .ref (ad 0)), (1, .int v1), (2, .int v2), (4, .int w1)]) hC rfl (by decide) rfl dX12_tries_49 ?_
      refine zr_iinc (pc := 50) (k := 4) (lv' := [(4, .int (w1 + (1 : Int32))), (3, .int z3), (0, .ref (ad 0)), (1, .int v1), (2, .int v2)]) hC zki_1 (by decide) rfl rfl dX12_tries_50 ?_
      refine zr_goto (pc := 53) (tgt := 5) hC dX12_tries_53 (by decide) ?_
      obtain rfl := Option.some.inj h
      exact zV.sub (lv' := [(0, .ref (ad 0)), (1, .int v1), (2, .int v2), (3, .int z3), (4, .int (w1 + (1 : Int32)))]) [2, 3, 4, 1, 0] rfl (hin z3 (w1 + (1 : Int32)) rfl)
    · replace h := zip h c2
      refine zr_aload_n (pc := 25) hC 0 rfl rfl dX12_tries_25 ?_
      refine zmg_26 (pc := 26) hC hinX12_tries_X12 flX12_tries_78 dX12_tries_26 ?_
      refine zr_bipush (pc := 29) hC zkb_24 dX12_tries_29 ?_
      refine zr_iload_n (pc := 31) hC 1 rfl rfl dX12_tries_31 ?_
      refine zr_imul (pc := 32) hC dX12_tries_32 ?_
      refine zr_iload (pc := 33) hC 4 rfl dX12_tries_33 ?_
      refine zr_iadd (pc := 35) hC dX12_tries_35 ?_
      obtain ⟨i5, h⟩ := zgd h
      refine zml_22 (pc := 36) hC i5 dX12_tries_36 ?_
      refine zr_if_eq (pc := 37) (tgt := 47) hC dX12_tries_37 (by decide) (fun c6 => ?_) (fun c6 => ?_)
      · replace h := zip h c6
        refine zr_iconst (pc := 47) hC zki_0 dX12_tries_47 ?_
        refine zr_ior (pc := 48) hC dX12_tries_48 ?_
        obtain ⟨z7, e8, h⟩ := zle h
        refine zr_topi e8 ?_
        refine zr_istore_n (pc := 49) (lv' := [(3, .int z7), (0, .ref (ad 0)), (1, .int v1), (2, .int v2), (4, .int w1)]) hC rfl (by decide) rfl dX12_tries_49 ?_
        refine zr_iinc (pc := 50) (k := 4) (lv' := [(4, .int (w1 + (1 : Int32))), (3, .int z7), (0, .ref (ad 0)), (1, .int v1), (2, .int v2)]) hC zki_1 (by decide) rfl rfl dX12_tries_50 ?_
        refine zr_goto (pc := 53) (tgt := 5) hC dX12_tries_53 (by decide) ?_
        obtain rfl := Option.some.inj h
        exact zV.sub (lv' := [(0, .ref (ad 0)), (1, .int v1), (2, .int v2), (3, .int z7), (4, .int (w1 + (1 : Int32)))]) [2, 3, 4, 1, 0] rfl (hin z7 (w1 + (1 : Int32)) rfl)
      · replace h := zin h c6
        refine zr_iconst (pc := 40) hC zki_1 dX12_tries_40 ?_
        refine zr_iload (pc := 41) hC 4 rfl dX12_tries_41 ?_
        refine zr_ishl (pc := 43) hC dX12_tries_43 ?_
        refine zr_goto (pc := 44) (tgt := 48) hC dX12_tries_44 (by decide) ?_
        refine zr_ior (pc := 48) hC dX12_tries_48 ?_
        obtain ⟨z9, e10, h⟩ := zle h
        refine zr_topi e10 ?_
        refine zr_istore_n (pc := 49) (lv' := [(3, .int z9), (0, .ref (ad 0)), (1, .int v1), (2, .int v2), (4, .int w1)]) hC rfl (by decide) rfl dX12_tries_49 ?_
        refine zr_iinc (pc := 50) (k := 4) (lv' := [(4, .int (w1 + (1 : Int32))), (3, .int z9), (0, .ref (ad 0)), (1, .int v1), (2, .int v2)]) hC zki_1 (by decide) rfl rfl dX12_tries_50 ?_
        refine zr_goto (pc := 53) (tgt := 5) hC dX12_tries_53 (by decide) ?_
        obtain rfl := Option.some.inj h
        exact zV.sub (lv' := [(0, .ref (ad 0)), (1, .int v1), (2, .int v2), (3, .int z9), (4, .int (w1 + (1 : Int32)))]) [2, 3, 4, 1, 0] rfl (hin z9 (w1 + (1 : Int32)) rfl)
def xX12_tries (M : zM) (v1 : Int32) (v2 : Int32) : Option zM :=
  (x_it (fun a9 => xX12_tries_L5 M v1 v2 a9.1 a9.2) zFU ((0 : Int32), (1 : Int32))).bind fun q1 =>
  if (v1 < 0 ∨ 4 ≤ v1.toNatClampNeg) then none else
  zlet (zsi M 23 v1.toNatClampNeg q1) fun M3 =>
  zlet (zsi M3 24 v1.toNatClampNeg q1) fun M5 =>
  (xX12_sumOver M5 (1 : Int32) v1).bind fun q7 =>
  if (q7.2.1 0 40) < 0 then
  (zlet (zsj q7.2 0 39 q7.1) fun M9 =>
  zlet (zsi M9 0 40 v2) fun M11 =>
  some M11)
  else
  if 0 < (lg_cmp q7.1 (q7.2.2 0 39)) then
  (zlet (zsj q7.2 0 39 q7.1) fun M14 =>
  zlet (zsi M14 0 40 v2) fun M16 =>
  some M16)
  else
  some q7.2
set_option maxHeartbeats 4000000 in
set_option maxRecDepth 100000 in
theorem tX12_tries {κ : Nat → ClassId} {E : zEn} {ad : Nat → Nat} (hEk : zEk E) {M : zM} {v1 : Int32} {v2 : Int32} {res : zM} (h : xX12_tries M v1 v2 = some res) (l : Launch) (D : va_G) : zCT E D vwCl (zty κ) l yX12_tries wsX12_tries ({ frames := 3, cells := 0, slots := 0, locals := 73 } : Room) 0 0 [.ref (ad 0), .int v1, .int v2] (zwM κ ad M) (zPd none (zwM κ ad res)) := by
  refine zCT.of (cc := cX12_tries) (maxL := 6) (ret := none) (by decide) rfl (Nat.le_of_ble_eq_true rfl) ?_
  intro X hC hR
  unfold xX12_tries at h
  refine zV.sub (lv' := [(0, .ref (ad 0)), (1, .int v1), (2, .int v2)]) [0, 1, 2] rfl ?_
  refine zr_iconst (pc := 0) hC zki_0 dX12_tries_0 ?_
  refine zr_istore_n (pc := 1) (lv' := [(3, .int (0 : Int32)), (0, .ref (ad 0)), (1, .int v1), (2, .int v2)]) hC rfl (by decide) rfl dX12_tries_1 ?_
  refine zr_iconst (pc := 2) hC zki_1 dX12_tries_2 ?_
  refine zr_istore (pc := 3) (lv' := [(4, .int (1 : Int32)), (3, .int (0 : Int32)), (0, .ref (ad 0)), (1, .int v1), (2, .int v2)]) hC (by decide) rfl dX12_tries_3 ?_
  obtain ⟨q1, hq1, h⟩ := zbd h
  refine zV.sub (lv' := [(0, .ref (ad 0)), (1, .int v1), (2, .int v2), (3, .int (0 : Int32)), (4, .int (1 : Int32))]) [2, 3, 4, 1, 0] rfl ?_
  refine zit2 (Wp := fun (y0 : Int32) (y1 : Int32) => zV X 0 0 (zwM κ ad M) [(0, .ref (ad 0)), (1, .int v1), (2, .int v2), (3, .int y0), (4, .int y1)] [] 5) (Ex := fun (b9 : Int32) => zV X 0 0 (zwM κ ad M) [(0, .ref (ad 0)), (1, .int v1), (2, .int v2), (3, .int b9)] [] 56) (fun y0 y1 r9 hr hin hout => tX12_tries_L5 hC hEk hin (fun z0 e9 => hout z0 e9) hr) zFU (0 : Int32) (1 : Int32) q1 hq1 ?_
  show zV X 0 0 (zwM κ ad M) [(0, .ref (ad 0)), (1, .int v1), (2, .int v2), (3, .int q1)] [] 56
  refine zr_aload_n (pc := 56) hC 0 rfl rfl dX12_tries_56 ?_
  refine zmg_27 (pc := 57) hC hinX12_tries_X12 flX12_tries_81 dX12_tries_57 ?_
  refine zr_iload_n (pc := 60) hC 1 rfl rfl dX12_tries_60 ?_
  refine zr_iload_n (pc := 61) hC 3 rfl rfl dX12_tries_61 ?_
  obtain ⟨i2, h⟩ := zgd h
  obtain ⟨M3, e4, h⟩ := zle h
  refine zms_23 (pc := 62) hC i2 e4 dX12_tries_62 ?_
  refine zr_aload_n (pc := 63) hC 0 rfl rfl dX12_tries_63 ?_
  refine zmg_28 (pc := 64) hC hinX12_tries_X12 flX12_tries_84 dX12_tries_64 ?_
  refine zr_iload_n (pc := 67) hC 1 rfl rfl dX12_tries_67 ?_
  refine zr_iload_n (pc := 68) hC 3 rfl rfl dX12_tries_68 ?_
  obtain ⟨M5, e6, h⟩ := zle h
  refine zms_24 (pc := 69) hC i2 e6 dX12_tries_69 ?_
  refine zr_aload_n (pc := 70) hC 0 rfl rfl dX12_tries_70 ?_
  refine zr_iconst (pc := 71) hC zki_1 dX12_tries_71 ?_
  refine zr_iload_n (pc := 72) hC 1 rfl rfl dX12_tries_72 ?_
  obtain ⟨q7, hq7, h⟩ := zbd h
  refine zr_cVl (pc := 73) hC hEk [.int (1 : Int32), .int v1] [] 0 2 (fun l D => tX12_sumOver hEk hq7 l D) gX12_tries_X12_sumOver rfl rfl rfl ⟨Nat.le_of_ble_eq_true rfl, Nat.le_of_ble_eq_true rfl⟩ hyX12_sumOver (by decide) entM_0 rfl rfl rfl (Nat.le_of_ble_eq_true rfl) ⟨Nat.le_of_ble_eq_true rfl, Nat.le_of_ble_eq_true rfl⟩ dX12_tries_73 ?_
  refine zr_lstore (pc := 76) (lv' := [(4, .long q7.1), (0, .ref (ad 0)), (1, .int v1), (2, .int v2), (3, .int q1)]) hC (by decide) rfl dX12_tries_76 ?_
  refine zr_aload_n (pc := 78) hC 1 rfl rfl dX12_tries_78 ?_
  refine zmg_40 (pc := 79) hC hinX12_tries_X12 flX12_tries_281 dX12_tries_79 ?_
  refine zr_if_lt (pc := 82) (tgt := 96) hC dX12_tries_82 (by decide) (fun c8 => ?_) (fun c8 => ?_)
  · replace h := zip h c8
    refine zr_aload_n (pc := 96) hC 1 rfl rfl dX12_tries_96 ?_
    refine zr_lload (pc := 97) hC 0 rfl dX12_tries_97 ?_
    obtain ⟨M9, e10, h⟩ := zle h
    refine zmp_39 (pc := 99) hC hinX12_tries_X12 flX12_tries_284 e10 dX12_tries_99 ?_
    refine zr_aload_n (pc := 102) hC 1 rfl rfl dX12_tries_102 ?_
    refine zr_iload_n (pc := 103) hC 3 rfl rfl dX12_tries_103 ?_
    obtain ⟨M11, e12, h⟩ := zle h
    refine zmp_40 (pc := 104) hC hinX12_tries_X12 flX12_tries_281 e12 dX12_tries_104 ?_
    obtain rfl := Option.some.inj h
    exact zr_vret hC hR ⟨rfl, rfl⟩ (Nat.le_refl _) (Nat.le_refl _) dX12_tries_107
  · replace h := zin h c8
    refine zr_lload (pc := 85) hC 0 rfl dX12_tries_85 ?_
    refine zr_aload_n (pc := 87) hC 1 rfl rfl dX12_tries_87 ?_
    refine zmg_39 (pc := 88) hC hinX12_tries_X12 flX12_tries_284 dX12_tries_88 ?_
    refine zr_lcmp (pc := 91) hC dX12_tries_91 ?_
    refine zr_if_gt (pc := 92) (tgt := 96) hC dX12_tries_92 (by decide) (fun c13 => ?_) (fun c13 => ?_)
    · replace h := zip h c13
      refine zr_aload_n (pc := 96) hC 1 rfl rfl dX12_tries_96 ?_
      refine zr_lload (pc := 97) hC 0 rfl dX12_tries_97 ?_
      obtain ⟨M14, e15, h⟩ := zle h
      refine zmp_39 (pc := 99) hC hinX12_tries_X12 flX12_tries_284 e15 dX12_tries_99 ?_
      refine zr_aload_n (pc := 102) hC 1 rfl rfl dX12_tries_102 ?_
      refine zr_iload_n (pc := 103) hC 3 rfl rfl dX12_tries_103 ?_
      obtain ⟨M16, e17, h⟩ := zle h
      refine zmp_40 (pc := 104) hC hinX12_tries_X12 flX12_tries_281 e17 dX12_tries_104 ?_
      obtain rfl := Option.some.inj h
      exact zr_vret hC hR ⟨rfl, rfl⟩ (Nat.le_refl _) (Nat.le_refl _) dX12_tries_107
    · replace h := zin h c13
      obtain rfl := Option.some.inj h
      exact zr_vret hC hR ⟨rfl, rfl⟩ (Nat.le_refl _) (Nat.le_refl _) dX12_tries_95
/-! X12_replyOf -/
theorem hyX12_replyOf : yX12_replyOf.cls = RX12 ∧ yX12_replyOf.cls ≠ "java/lang/invoke/MethodHandle" ∧ yX12_replyOf.cls ≠ "java/lang/invoke/VarHandle" ∧ (parseMethodDescriptor yX12_replyOf.desc).map (fun d => d.parameters.length) = some 2 := by decide +kernel
theorem flX12_replyOf_281 : Cond.fieldLink RX12 281 "BeforeTheEndModel" "bestSet" "I" ∈ wsX12_replyOf := by decide +kernel
theorem flX12_replyOf_46 : Cond.fieldLink RX12 46 "BeforeTheEndModel" "words" "I" ∈ wsX12_replyOf := by decide +kernel
theorem hinX12_replyOf_X12 : ∀ w ∈ wsX120, w ∈ wsX12_replyOf := fun _ h => List.mem_cons_of_mem _ (List.mem_append_right _ h)
def xX12_replyOf_L13 (v1 : Int32) (v2 : Int32) (w0 : zM) (w1 : Int32) : Option ((zM × Int32) ⊕ zM) :=
  if (w0.1 0 12) ≤ w1 then
  (some (.inr w0))
  else
  if v2 ≤ 0 then
  (some (.inr w0))
  else
  (xX12_tries w0 v1 ((1 : Int32) <<< (w1 &&& 31))).bind fun q3 =>
  some (.inl (q3, (w1 + (1 : Int32))))
set_option maxHeartbeats 4000000 in
set_option maxRecDepth 100000 in
theorem tX12_replyOf_L13 {κ : Nat → ClassId} {E : zEn} {ad : Nat → Nat} {X : zX} {v1 : Int32} {v2 : Int32} {w0 : zM} {w1 : Int32} {r : ((zM × Int32) ⊕ zM)} (hC : zC X cX12_replyOf RX12 wsX12_replyOf vwCl (zty κ) E 5 ({ frames := 4, cells := 0, slots := 0, locals := 98 } : Room)) (hEk : zEk E) (hin : ∀ (x0' : zM) (x1' : Int32), r = .inl (x0', x1') → zV X 0 0 (zwM κ ad x0') [(0, .ref (ad 0)), (1, .int v1), (2, .int v2), (3, .int x1')] [] 13) (hout0 : ∀ (x0' : zM), r = .inr x0' → zV X 0 0 (zwM κ ad x0') [(0, .ref (ad 0)), (1, .int v1), (2, .int v2)] [] 39) (h : xX12_replyOf_L13  v1 v2 w0 w1 = some r) : zV X 0 0 (zwM κ ad w0) [(0, .ref (ad 0)), (1, .int v1), (2, .int v2), (3, .int w1)] [] 13 := by
  unfold xX12_replyOf_L13 at h
  refine zr_iload_n (pc := 13) hC 3 rfl rfl dX12_replyOf_13 ?_
  refine zr_aload_n (pc := 14) hC 0 rfl rfl dX12_replyOf_14 ?_
  refine zmg_12 (pc := 15) hC hinX12_replyOf_X12 flX12_replyOf_46 dX12_replyOf_15 ?_
  refine zr_icmp_ge (pc := 18) (tgt := 39) hC dX12_replyOf_18 (by decide) (fun c1 => ?_) (fun c1 => ?_)
  · replace h := zip h c1
    obtain rfl := Option.some.inj h
    exact zV.sub (lv' := [(0, .ref (ad 0)), (1, .int v1), (2, .int v2)]) [0, 1, 2] rfl (hout0 w0 rfl)
  · replace h := zin h c1
    refine zr_iload_n (pc := 21) hC 2 rfl rfl dX12_replyOf_21 ?_
    refine zr_if_le (pc := 22) (tgt := 39) hC dX12_replyOf_22 (by decide) (fun c2 => ?_) (fun c2 => ?_)
    · replace h := zip h c2
      obtain rfl := Option.some.inj h
      exact zV.sub (lv' := [(0, .ref (ad 0)), (1, .int v1), (2, .int v2)]) [0, 1, 2] rfl (hout0 w0 rfl)
    · replace h := zin h c2
      refine zr_aload_n (pc := 25) hC 0 rfl rfl dX12_replyOf_25 ?_
      refine zr_iload_n (pc := 26) hC 1 rfl rfl dX12_replyOf_26 ?_
      refine zr_iconst (pc := 27) hC zki_1 dX12_replyOf_27 ?_
      refine zr_iload_n (pc := 28) hC 3 rfl rfl dX12_replyOf_28 ?_
      refine zr_ishl (pc := 29) hC dX12_replyOf_29 ?_
      obtain ⟨q3, hq3, h⟩ := zbd h
      refine zr_cVv (pc := 30) hC hEk [.int v1, .int ((1 : Int32) <<< (w1 &&& 31))] [] 0 2 (fun l D => tX12_tries hEk hq3 l D) gX12_replyOf_X12_tries rfl rfl rfl ⟨Nat.le_of_ble_eq_true rfl, Nat.le_of_ble_eq_true rfl⟩ hyX12_tries (by decide) entM_0 rfl rfl rfl (Nat.le_of_ble_eq_true rfl) ⟨Nat.le_of_ble_eq_true rfl, Nat.le_of_ble_eq_true rfl⟩ dX12_replyOf_30 ?_
      refine zr_iinc (pc := 33) (k := 3) (lv' := [(3, .int (w1 + (1 : Int32))), (0, .ref (ad 0)), (1, .int v1), (2, .int v2)]) hC zki_1 (by decide) rfl rfl dX12_replyOf_33 ?_
      refine zr_goto (pc := 36) (tgt := 13) hC dX12_replyOf_36 (by decide) ?_
      obtain rfl := Option.some.inj h
      exact zV.sub (lv' := [(0, .ref (ad 0)), (1, .int v1), (2, .int v2), (3, .int (w1 + (1 : Int32)))]) [1, 2, 3, 0] rfl (hin q3 (w1 + (1 : Int32)) rfl)
def xX12_replyOf_L57_L41 (v1 : Int32) (v2 : Int32) (v3 : Int32) (w0 : zM) (w1 : Int32) : Option ((zM × Int32) ⊕ zM) :=
  if v3 ≤ w1 then
  (some (.inr w0))
  else
  (xX12_tries w0 v1 (((1 : Int32) <<< (w1 &&& 31)) ||| ((1 : Int32) <<< (v3 &&& 31)))).bind fun q2 =>
  some (.inl (q2, (w1 + (1 : Int32))))
set_option maxHeartbeats 4000000 in
set_option maxRecDepth 100000 in
theorem tX12_replyOf_L57_L41 {κ : Nat → ClassId} {E : zEn} {ad : Nat → Nat} {X : zX} {v1 : Int32} {v2 : Int32} {v3 : Int32} {w0 : zM} {w1 : Int32} {r : ((zM × Int32) ⊕ zM)} (hC : zC X cX12_replyOf RX12 wsX12_replyOf vwCl (zty κ) E 5 ({ frames := 4, cells := 0, slots := 0, locals := 98 } : Room)) (hEk : zEk E) (hin : ∀ (x0' : zM) (x1' : Int32), r = .inl (x0', x1') → zV X 0 0 (zwM κ ad x0') [(0, .ref (ad 0)), (1, .int v1), (2, .int v2), (3, .int v3), (4, .int x1')] [] 57) (hout0 : ∀ (x0' : zM), r = .inr x0' → zV X 0 0 (zwM κ ad x0') [(0, .ref (ad 0)), (1, .int v1), (2, .int v2), (3, .int v3)] [] 82) (h : xX12_replyOf_L57_L41  v1 v2 v3 w0 w1 = some r) : zV X 0 0 (zwM κ ad w0) [(0, .ref (ad 0)), (1, .int v1), (2, .int v2), (3, .int v3), (4, .int w1)] [] 57 := by
  unfold xX12_replyOf_L57_L41 at h
  refine zr_iload (pc := 57) hC 4 rfl dX12_replyOf_57 ?_
  refine zr_iload_n (pc := 59) hC 3 rfl rfl dX12_replyOf_59 ?_
  refine zr_icmp_ge (pc := 60) (tgt := 82) hC dX12_replyOf_60 (by decide) (fun c1 => ?_) (fun c1 => ?_)
  · replace h := zip h c1
    obtain rfl := Option.some.inj h
    exact zV.sub (lv' := [(0, .ref (ad 0)), (1, .int v1), (2, .int v2), (3, .int v3)]) [0, 1, 2, 3] rfl (hout0 w0 rfl)
  · replace h := zin h c1
    refine zr_aload_n (pc := 63) hC 0 rfl rfl dX12_replyOf_63 ?_
    refine zr_iload_n (pc := 64) hC 1 rfl rfl dX12_replyOf_64 ?_
    refine zr_iconst (pc := 65) hC zki_1 dX12_replyOf_65 ?_
    refine zr_iload (pc := 66) hC 4 rfl dX12_replyOf_66 ?_
    refine zr_ishl (pc := 68) hC dX12_replyOf_68 ?_
    refine zr_iconst (pc := 69) hC zki_1 dX12_replyOf_69 ?_
    refine zr_iload_n (pc := 70) hC 3 rfl rfl dX12_replyOf_70 ?_
    refine zr_ishl (pc := 71) hC dX12_replyOf_71 ?_
    refine zr_ior (pc := 72) hC dX12_replyOf_72 ?_
    obtain ⟨q2, hq2, h⟩ := zbd h
    refine zr_cVv (pc := 73) hC hEk [.int v1, .int (((1 : Int32) <<< (w1 &&& 31)) ||| ((1 : Int32) <<< (v3 &&& 31)))] [] 0 2 (fun l D => tX12_tries hEk hq2 l D) gX12_replyOf_X12_tries rfl rfl rfl ⟨Nat.le_of_ble_eq_true rfl, Nat.le_of_ble_eq_true rfl⟩ hyX12_tries (by decide) entM_0 rfl rfl rfl (Nat.le_of_ble_eq_true rfl) ⟨Nat.le_of_ble_eq_true rfl, Nat.le_of_ble_eq_true rfl⟩ dX12_replyOf_73 ?_
    refine zr_iinc (pc := 76) (k := 4) (lv' := [(4, .int (w1 + (1 : Int32))), (0, .ref (ad 0)), (1, .int v1), (2, .int v2), (3, .int v3)]) hC zki_1 (by decide) rfl rfl dX12_replyOf_76 ?_
    refine zr_goto (pc := 79) (tgt := 57) hC dX12_replyOf_79 (by decide) ?_
    obtain rfl := Option.some.inj h
    exact zV.sub (lv' := [(0, .ref (ad 0)), (1, .int v1), (2, .int v2), (3, .int v3), (4, .int (w1 + (1 : Int32)))]) [1, 2, 3, 4, 0] rfl (hin q2 (w1 + (1 : Int32)) rfl)
def xX12_replyOf_L41 (v1 : Int32) (v2 : Int32) (w0 : zM) (w1 : Int32) : Option ((zM × Int32) ⊕ zM) :=
  if (w0.1 0 12) ≤ w1 then
  (some (.inr w0))
  else
  if v2 ≤ (1 : Int32) then
  (some (.inr w0))
  else
  (x_it (fun a9 => xX12_replyOf_L57_L41 v1 v2 w1 a9.1 a9.2) zFU (w0, (0 : Int32))).bind fun q3 =>
  some (.inl (q3, (w1 + (1 : Int32))))
set_option maxHeartbeats 4000000 in
set_option maxRecDepth 100000 in
theorem tX12_replyOf_L41 {κ : Nat → ClassId} {E : zEn} {ad : Nat → Nat} {X : zX} {v1 : Int32} {v2 : Int32} {w0 : zM} {w1 : Int32} {r : ((zM × Int32) ⊕ zM)} (hC : zC X cX12_replyOf RX12 wsX12_replyOf vwCl (zty κ) E 5 ({ frames := 4, cells := 0, slots := 0, locals := 98 } : Room)) (hEk : zEk E) (hin : ∀ (x0' : zM) (x1' : Int32), r = .inl (x0', x1') → zV X 0 0 (zwM κ ad x0') [(0, .ref (ad 0)), (1, .int v1), (2, .int v2), (3, .int x1')] [] 41) (hout0 : ∀ (x0' : zM), r = .inr x0' → zV X 0 0 (zwM κ ad x0') [(0, .ref (ad 0))] [] 88) (h : xX12_replyOf_L41  v1 v2 w0 w1 = some r) : zV X 0 0 (zwM κ ad w0) [(0, .ref (ad 0)), (1, .int v1), (2, .int v2), (3, .int w1)] [] 41 := by
  unfold xX12_replyOf_L41 at h
  refine zr_iload_n (pc := 41) hC 3 rfl rfl dX12_replyOf_41 ?_
  refine zr_aload_n (pc := 42) hC 0 rfl rfl dX12_replyOf_42 ?_
  refine zmg_12 (pc := 43) hC hinX12_replyOf_X12 flX12_replyOf_46 dX12_replyOf_43 ?_
  refine zr_icmp_ge (pc := 46) (tgt := 88) hC dX12_replyOf_46 (by decide) (fun c1 => ?_) (fun c1 => ?_)
  · replace h := zip h c1
    obtain rfl := Option.some.inj h
    exact zV.sub (lv' := [(0, .ref (ad 0))]) [0] rfl (hout0 w0 rfl)
  · replace h := zin h c1
    refine zr_iload_n (pc := 49) hC 2 rfl rfl dX12_replyOf_49 ?_
    refine zr_iconst (pc := 50) hC zki_1 dX12_replyOf_50 ?_
    refine zr_icmp_le (pc := 51) (tgt := 88) hC dX12_replyOf_51 (by decide) (fun c2 => ?_) (fun c2 => ?_)
    · replace h := zip h c2
      obtain rfl := Option.some.inj h
      exact zV.sub (lv' := [(0, .ref (ad 0))]) [0] rfl (hout0 w0 rfl)
    · replace h := zin h c2
      refine zr_iconst (pc := 54) hC zki_0 dX12_replyOf_54 ?_
      refine zr_istore (pc := 55) (lv' := [(4, .int (0 : Int32)), (0, .ref (ad 0)), (1, .int v1), (2, .int v2), (3, .int w1)]) hC (by decide) rfl dX12_replyOf_55 ?_
      obtain ⟨q3, hq3, h⟩ := zbd h
      refine zV.sub (lv' := [(0, .ref (ad 0)), (1, .int v1), (2, .int v2), (3, .int w1), (4, .int (0 : Int32))]) [1, 2, 3, 4, 0] rfl ?_
      refine zit2 (Wp := fun (y0 : zM) (y1 : Int32) => zV X 0 0 (zwM κ ad y0) [(0, .ref (ad 0)), (1, .int v1), (2, .int v2), (3, .int w1), (4, .int y1)] [] 57) (Ex := fun (b9 : zM) => zV X 0 0 (zwM κ ad b9) [(0, .ref (ad 0)), (1, .int v1), (2, .int v2), (3, .int w1)] [] 82) (fun y0 y1 r9 hr hin hout => tX12_replyOf_L57_L41 hC hEk hin (fun z0 e9 => hout z0 e9) hr) zFU w0 (0 : Int32) q3 hq3 ?_
      show zV X 0 0 (zwM κ ad q3) [(0, .ref (ad 0)), (1, .int v1), (2, .int v2), (3, .int w1)] [] 82
      refine zr_iinc (pc := 82) (k := 3) (lv' := [(3, .int (w1 + (1 : Int32))), (0, .ref (ad 0)), (1, .int v1), (2, .int v2)]) hC zki_1 (by decide) rfl rfl dX12_replyOf_82 ?_
      refine zr_goto (pc := 85) (tgt := 41) hC dX12_replyOf_85 (by decide) ?_
      obtain rfl := Option.some.inj h
      exact zV.sub (lv' := [(0, .ref (ad 0)), (1, .int v1), (2, .int v2), (3, .int (w1 + (1 : Int32)))]) [1, 2, 3, 0] rfl (hin q3 (w1 + (1 : Int32)) rfl)
def xX12_replyOf (M : zM) (v1 : Int32) (v2 : Int32) : Option (Int32 × zM) :=
  zlet (zsi M 0 40 (-1 : Int32)) fun M1 =>
  (xX12_tries M1 v1 (0 : Int32)).bind fun q3 =>
  (x_it (fun a9 => xX12_replyOf_L13 v1 v2 a9.1 a9.2) zFU (q3, (0 : Int32))).bind fun q4 =>
  (x_it (fun a9 => xX12_replyOf_L41 v1 v2 a9.1 a9.2) zFU (q4, (1 : Int32))).bind fun q5 =>
  some ((q5.1 0 40), q5)
set_option maxHeartbeats 4000000 in
set_option maxRecDepth 100000 in
theorem tX12_replyOf {κ : Nat → ClassId} {E : zEn} {ad : Nat → Nat} (hEk : zEk E) {M : zM} {v1 : Int32} {v2 : Int32} {res : (Int32 × zM)} (h : xX12_replyOf M v1 v2 = some res) (l : Launch) (D : va_G) : zCT E D vwCl (zty κ) l yX12_replyOf wsX12_replyOf ({ frames := 4, cells := 0, slots := 0, locals := 98 } : Room) 0 0 [.ref (ad 0), .int v1, .int v2] (zwM κ ad M) (zPd (some (.int res.1)) (zwM κ ad res.2)) := by
  refine zCT.of (cc := cX12_replyOf) (maxL := 5) (ret := (some .int)) (by decide) rfl (Nat.le_of_ble_eq_true rfl) ?_
  intro X hC hR
  unfold xX12_replyOf at h
  refine zV.sub (lv' := [(0, .ref (ad 0)), (1, .int v1), (2, .int v2)]) [0, 1, 2] rfl ?_
  refine zr_aload_n (pc := 0) hC 0 rfl rfl dX12_replyOf_0 ?_
  refine zr_iconst (pc := 1) hC zki_m1 dX12_replyOf_1 ?_
  obtain ⟨M1, e2, h⟩ := zle h
  refine zmp_40 (pc := 2) hC hinX12_replyOf_X12 flX12_replyOf_281 e2 dX12_replyOf_2 ?_
  refine zr_aload_n (pc := 5) hC 0 rfl rfl dX12_replyOf_5 ?_
  refine zr_iload_n (pc := 6) hC 1 rfl rfl dX12_replyOf_6 ?_
  refine zr_iconst (pc := 7) hC zki_0 dX12_replyOf_7 ?_
  obtain ⟨q3, hq3, h⟩ := zbd h
  refine zr_cVv (pc := 8) hC hEk [.int v1, .int (0 : Int32)] [] 0 2 (fun l D => tX12_tries hEk hq3 l D) gX12_replyOf_X12_tries rfl rfl rfl ⟨Nat.le_of_ble_eq_true rfl, Nat.le_of_ble_eq_true rfl⟩ hyX12_tries (by decide) entM_0 rfl rfl rfl (Nat.le_of_ble_eq_true rfl) ⟨Nat.le_of_ble_eq_true rfl, Nat.le_of_ble_eq_true rfl⟩ dX12_replyOf_8 ?_
  refine zr_iconst (pc := 11) hC zki_0 dX12_replyOf_11 ?_
  refine zr_istore_n (pc := 12) (lv' := [(3, .int (0 : Int32)), (0, .ref (ad 0)), (1, .int v1), (2, .int v2)]) hC rfl (by decide) rfl dX12_replyOf_12 ?_
  obtain ⟨q4, hq4, h⟩ := zbd h
  refine zV.sub (lv' := [(0, .ref (ad 0)), (1, .int v1), (2, .int v2), (3, .int (0 : Int32))]) [1, 2, 3, 0] rfl ?_
  refine zit2 (Wp := fun (y0 : zM) (y1 : Int32) => zV X 0 0 (zwM κ ad y0) [(0, .ref (ad 0)), (1, .int v1), (2, .int v2), (3, .int y1)] [] 13) (Ex := fun (b9 : zM) => zV X 0 0 (zwM κ ad b9) [(0, .ref (ad 0)), (1, .int v1), (2, .int v2)] [] 39) (fun y0 y1 r9 hr hin hout => tX12_replyOf_L13 hC hEk hin (fun z0 e9 => hout z0 e9) hr) zFU q3 (0 : Int32) q4 hq4 ?_
  show zV X 0 0 (zwM κ ad q4) [(0, .ref (ad 0)), (1, .int v1), (2, .int v2)] [] 39
  refine zr_iconst (pc := 39) hC zki_1 dX12_replyOf_39 ?_
  refine zr_istore_n (pc := 40) (lv' := [(3, .int (1 : Int32)), (0, .ref (ad 0)), (1, .int v1), (2, .int v2)]) hC rfl (by decide) rfl dX12_replyOf_40 ?_
  obtain ⟨q5, hq5, h⟩ := zbd h
  refine zV.sub (lv' := [(0, .ref (ad 0)), (1, .int v1), (2, .int v2), (3, .int (1 : Int32))]) [1, 2, 3, 0] rfl ?_
  refine zit2 (Wp := fun (y0 : zM) (y1 : Int32) => zV X 0 0 (zwM κ ad y0) [(0, .ref (ad 0)), (1, .int v1), (2, .int v2), (3, .int y1)] [] 41) (Ex := fun (b9 : zM) => zV X 0 0 (zwM κ ad b9) [(0, .ref (ad 0))] [] 88) (fun y0 y1 r9 hr hin hout => tX12_replyOf_L41 hC hEk hin (fun z0 e9 => hout z0 e9) hr) zFU q4 (1 : Int32) q5 hq5 ?_
  show zV X 0 0 (zwM κ ad q5) [(0, .ref (ad 0))] [] 88
  refine zr_aload_n (pc := 88) hC 0 rfl rfl dX12_replyOf_88 ?_
  refine zmg_40 (pc := 89) hC hinX12_replyOf_X12 flX12_replyOf_281 dX12_replyOf_89 ?_
  obtain rfl := Option.some.inj h
  exact zr_iret hC hR ⟨rfl, rfl⟩ (Nat.le_refl _) (Nat.le_refl _) dX12_replyOf_92
/-! X12_reply -/
theorem hyX12_reply : yX12_reply.cls = RX12 ∧ yX12_reply.cls ≠ "java/lang/invoke/MethodHandle" ∧ yX12_reply.cls ≠ "java/lang/invoke/VarHandle" ∧ (parseMethodDescriptor yX12_reply.desc).map (fun d => d.parameters.length) = some 2 := by decide +kernel
theorem hinX12_reply_X12 : ∀ w ∈ wsX120, w ∈ wsX12_reply := fun _ h => List.mem_cons_of_mem _ (List.mem_append_right _ h)
def xX12_reply (M : zM) (v1 : Int32) (v2 : Int32) : Option (Int32 × zM) :=
  (xX12_isPlayer M v1).bind fun q1 =>
  if q1 = 0 then
  ((xX12_no M (-1 : Int32)).bind fun q16 =>
  some (q16.1, q16.2))
  else
  (xX12_bound v2 (0 : Int32) (2 : Int32)).bind fun q3 =>
  if q3 = 0 then
  ((xX12_isWhole M).bind fun q9 =>
  if q9 = 0 then
  ((xX12_no M (-3 : Int32)).bind fun q15 =>
  some (q15.1, q15.2))
  else
  if q3 = 0 then
  ((xX12_finds M).bind fun q12 =>
  (xX12_replyOf q12 v1 v2).bind fun q13 =>
  some (q13.1, q13.2))
  else
  (xX12_no M q3).bind fun q14 =>
  some (q14.1, q14.2))
  else
  if q3 = 0 then
  ((xX12_finds M).bind fun q6 =>
  (xX12_replyOf q6 v1 v2).bind fun q7 =>
  some (q7.1, q7.2))
  else
  (xX12_no M q3).bind fun q8 =>
  some (q8.1, q8.2)
set_option maxHeartbeats 4000000 in
set_option maxRecDepth 100000 in
theorem tX12_reply {κ : Nat → ClassId} {E : zEn} {ad : Nat → Nat} (hEk : zEk E) {M : zM} {v1 : Int32} {v2 : Int32} {res : (Int32 × zM)} (h : xX12_reply M v1 v2 = some res) (l : Launch) (D : va_G) : zCT E D vwCl (zty κ) l yX12_reply wsX12_reply ({ frames := 5, cells := 0, slots := 0, locals := 122 } : Room) 0 0 [.ref (ad 0), .int v1, .int v2] (zwM κ ad M) (zPd (some (.int res.1)) (zwM κ ad res.2)) := by
  refine zCT.of (cc := cX12_reply) (maxL := 4) (ret := (some .int)) (by decide) rfl (Nat.le_of_ble_eq_true rfl) ?_
  intro X hC hR
  unfold xX12_reply at h
  refine zV.sub (lv' := [(0, .ref (ad 0)), (1, .int v1), (2, .int v2)]) [0, 1, 2] rfl ?_
  refine zr_aload_n (pc := 0) hC 0 rfl rfl dX12_reply_0 ?_
  refine zr_iload_n (pc := 1) hC 1 rfl rfl dX12_reply_1 ?_
  obtain ⟨q1, hq1, h⟩ := zbd h
  refine zr_cVi (pc := 2) hC hEk [.int v1] [] 0 1 (fun l D => tX12_isPlayer hEk hq1 l D) gX12_reply_X12_isPlayer rfl rfl rfl ⟨Nat.le_of_ble_eq_true rfl, Nat.le_of_ble_eq_true rfl⟩ hyX12_isPlayer (by decide) entM_0 rfl rfl rfl (Nat.le_of_ble_eq_true rfl) ⟨Nat.le_of_ble_eq_true rfl, Nat.le_of_ble_eq_true rfl⟩ dX12_reply_2 ?_
  refine zr_if_ne (pc := 5) (tgt := 14) hC dX12_reply_5 (by decide) (fun c2 => ?_) (fun c2 => ?_)
  · replace h := zin h c2
    refine zr_iload_n (pc := 14) hC 2 rfl rfl dX12_reply_14 ?_
    refine zr_iconst (pc := 15) hC zki_0 dX12_reply_15 ?_
    refine zr_iconst (pc := 16) hC zki_2 dX12_reply_16 ?_
    obtain ⟨q3, hq3, h⟩ := zbd h
    refine zr_cSi (pc := 17) hC hEk [.int v2, .int (0 : Int32), .int (2 : Int32)] [] 3 (fun l D => tX12_bound hEk hq3 l D) gX12_reply_X12_bound rfl rfl rfl ⟨Nat.le_of_ble_eq_true rfl, Nat.le_of_ble_eq_true rfl⟩ hyX12_bound rfl rfl (Nat.le_of_ble_eq_true rfl) ⟨Nat.le_of_ble_eq_true rfl, Nat.le_of_ble_eq_true rfl⟩ dX12_reply_17 ?_
    refine zr_istore_n (pc := 20) (lv' := [(3, .int q3), (0, .ref (ad 0)), (1, .int v1), (2, .int v2)]) hC rfl (by decide) rfl dX12_reply_20 ?_
    refine zr_iload_n (pc := 21) hC 0 rfl rfl dX12_reply_21 ?_
    refine zr_if_ne (pc := 22) (tgt := 35) hC dX12_reply_22 (by decide) (fun c4 => ?_) (fun c4 => ?_)
    · replace h := zin h c4
      refine zr_iload_n (pc := 35) hC 0 rfl rfl dX12_reply_35 ?_
      refine zr_if_eq (pc := 36) (tgt := 45) hC dX12_reply_36 (by decide) (fun c5 => ?_) (fun c5 => ?_)
      · replace h := zip h c5
        refine zr_aload_n (pc := 45) hC 1 rfl rfl dX12_reply_45 ?_
        obtain ⟨q6, hq6, h⟩ := zbd h
        refine zr_cVv (pc := 46) hC hEk [] [] 0 0 (fun l D => tX12_finds hEk hq6 l D) gX12_reply_X12_finds rfl rfl rfl ⟨Nat.le_of_ble_eq_true rfl, Nat.le_of_ble_eq_true rfl⟩ hyX12_finds (by decide) entM_0 rfl rfl rfl (Nat.le_of_ble_eq_true rfl) ⟨Nat.le_of_ble_eq_true rfl, Nat.le_of_ble_eq_true rfl⟩ dX12_reply_46 ?_
        refine zr_aload_n (pc := 49) hC 1 rfl rfl dX12_reply_49 ?_
        refine zr_iload_n (pc := 50) hC 2 rfl rfl dX12_reply_50 ?_
        refine zr_iload_n (pc := 51) hC 3 rfl rfl dX12_reply_51 ?_
        obtain ⟨q7, hq7, h⟩ := zbd h
        refine zr_cVi (pc := 52) hC hEk [.int v1, .int v2] [] 0 2 (fun l D => tX12_replyOf hEk hq7 l D) gX12_reply_X12_replyOf rfl rfl rfl ⟨Nat.le_of_ble_eq_true rfl, Nat.le_of_ble_eq_true rfl⟩ hyX12_replyOf (by decide) entM_0 rfl rfl rfl (Nat.le_of_ble_eq_true rfl) ⟨Nat.le_of_ble_eq_true rfl, Nat.le_of_ble_eq_true rfl⟩ dX12_reply_52 ?_
        obtain rfl := Option.some.inj h
        exact zr_iret hC hR ⟨rfl, rfl⟩ (Nat.le_refl _) (Nat.le_refl _) dX12_reply_55
      · replace h := zin h c5
        refine zr_aload_n (pc := 39) hC 1 rfl rfl dX12_reply_39 ?_
        refine zr_iload_n (pc := 40) hC 0 rfl rfl dX12_reply_40 ?_
        obtain ⟨q8, hq8, h⟩ := zbd h
        refine zr_cVi (pc := 41) hC hEk [.int q3] [] 0 1 (fun l D => tX12_no hEk hq8 l D) gX12_reply_X12_no rfl rfl rfl ⟨Nat.le_of_ble_eq_true rfl, Nat.le_of_ble_eq_true rfl⟩ hyX12_no (by decide) entM_0 rfl rfl rfl (Nat.le_of_ble_eq_true rfl) ⟨Nat.le_of_ble_eq_true rfl, Nat.le_of_ble_eq_true rfl⟩ dX12_reply_41 ?_
        obtain rfl := Option.some.inj h
        exact zr_iret hC hR ⟨rfl, rfl⟩ (Nat.le_refl _) (Nat.le_refl _) dX12_reply_44
    · replace h := zip h c4
      refine zr_aload_n (pc := 25) hC 1 rfl rfl dX12_reply_25 ?_
      obtain ⟨q9, hq9, h⟩ := zbd h
      refine zr_cVi (pc := 26) hC hEk [] [] 0 0 (fun l D => tX12_isWhole hEk hq9 l D) gX12_reply_X12_isWhole rfl rfl rfl ⟨Nat.le_of_ble_eq_true rfl, Nat.le_of_ble_eq_true rfl⟩ hyX12_isWhole (by decide) entM_0 rfl rfl rfl (Nat.le_of_ble_eq_true rfl) ⟨Nat.le_of_ble_eq_true rfl, Nat.le_of_ble_eq_true rfl⟩ dX12_reply_26 ?_
      refine zr_if_ne (pc := 29) (tgt := 35) hC dX12_reply_29 (by decide) (fun c10 => ?_) (fun c10 => ?_)
      · replace h := zin h c10
        refine zr_iload_n (pc := 35) hC 0 rfl rfl dX12_reply_35 ?_
        refine zr_if_eq (pc := 36) (tgt := 45) hC dX12_reply_36 (by decide) (fun c11 => ?_) (fun c11 => ?_)
        · replace h := zip h c11
          refine zr_aload_n (pc := 45) hC 1 rfl rfl dX12_reply_45 ?_
          obtain ⟨q12, hq12, h⟩ := zbd h
          refine zr_cVv (pc := 46) hC hEk [] [] 0 0 (fun l D => tX12_finds hEk hq12 l D) gX12_reply_X12_finds rfl rfl rfl ⟨Nat.le_of_ble_eq_true rfl, Nat.le_of_ble_eq_true rfl⟩ hyX12_finds (by decide) entM_0 rfl rfl rfl (Nat.le_of_ble_eq_true rfl) ⟨Nat.le_of_ble_eq_true rfl, Nat.le_of_ble_eq_true rfl⟩ dX12_reply_46 ?_
          refine zr_aload_n (pc := 49) hC 1 rfl rfl dX12_reply_49 ?_
          refine zr_iload_n (pc := 50) hC 2 rfl rfl dX12_reply_50 ?_
          refine zr_iload_n (pc := 51) hC 3 rfl rfl dX12_reply_51 ?_
          obtain ⟨q13, hq13, h⟩ := zbd h
          refine zr_cVi (pc := 52) hC hEk [.int v1, .int v2] [] 0 2 (fun l D => tX12_replyOf hEk hq13 l D) gX12_reply_X12_replyOf rfl rfl rfl ⟨Nat.le_of_ble_eq_true rfl, Nat.le_of_ble_eq_true rfl⟩ hyX12_replyOf (by decide) entM_0 rfl rfl rfl (Nat.le_of_ble_eq_true rfl) ⟨Nat.le_of_ble_eq_true rfl, Nat.le_of_ble_eq_true rfl⟩ dX12_reply_52 ?_
          obtain rfl := Option.some.inj h
          exact zr_iret hC hR ⟨rfl, rfl⟩ (Nat.le_refl _) (Nat.le_refl _) dX12_reply_55
        · replace h := zin h c11
          refine zr_aload_n (pc := 39) hC 1 rfl rfl dX12_reply_39 ?_
          refine zr_iload_n (pc := 40) hC 0 rfl rfl dX12_reply_40 ?_
          obtain ⟨q14, hq14, h⟩ := zbd h
          refine zr_cVi (pc := 41) hC hEk [.int q3] [] 0 1 (fun l D => tX12_no hEk hq14 l D) gX12_reply_X12_no rfl rfl rfl ⟨Nat.le_of_ble_eq_true rfl, Nat.le_of_ble_eq_true rfl⟩ hyX12_no (by decide) entM_0 rfl rfl rfl (Nat.le_of_ble_eq_true rfl) ⟨Nat.le_of_ble_eq_true rfl, Nat.le_of_ble_eq_true rfl⟩ dX12_reply_41 ?_
          obtain rfl := Option.some.inj h
          exact zr_iret hC hR ⟨rfl, rfl⟩ (Nat.le_refl _) (Nat.le_refl _) dX12_reply_44
      · replace h := zip h c10
        refine zr_bipush (pc := 32) hC zkb_m3 dX12_reply_32 ?_
        refine zr_istore_n (pc := 34) (lv' := [(3, .int (-3 : Int32)), (0, .ref (ad 0)), (1, .int v1), (2, .int v2)]) hC rfl (by decide) rfl dX12_reply_34 ?_
        refine zr_iload_n (pc := 35) hC 0 rfl rfl dX12_reply_35 ?_
        refine zr_if_eq (pc := 36) (tgt := 45) hC dX12_reply_36 (by decide) (fun c => absurd c (by decide)) (fun _ => ?_)
        refine zr_aload_n (pc := 39) hC 1 rfl rfl dX12_reply_39 ?_
        refine zr_iload_n (pc := 40) hC 0 rfl rfl dX12_reply_40 ?_
        obtain ⟨q15, hq15, h⟩ := zbd h
        refine zr_cVi (pc := 41) hC hEk [.int (-3 : Int32)] [] 0 1 (fun l D => tX12_no hEk hq15 l D) gX12_reply_X12_no rfl rfl rfl ⟨Nat.le_of_ble_eq_true rfl, Nat.le_of_ble_eq_true rfl⟩ hyX12_no (by decide) entM_0 rfl rfl rfl (Nat.le_of_ble_eq_true rfl) ⟨Nat.le_of_ble_eq_true rfl, Nat.le_of_ble_eq_true rfl⟩ dX12_reply_41 ?_
        obtain rfl := Option.some.inj h
        exact zr_iret hC hR ⟨rfl, rfl⟩ (Nat.le_refl _) (Nat.le_refl _) dX12_reply_44
  · replace h := zip h c2
    refine zr_aload_n (pc := 8) hC 0 rfl rfl dX12_reply_8 ?_
    refine zr_iconst (pc := 9) hC zki_m1 dX12_reply_9 ?_
    obtain ⟨q16, hq16, h⟩ := zbd h
    refine zr_cVi (pc := 10) hC hEk [.int (-1 : Int32)] [] 0 1 (fun l D => tX12_no hEk hq16 l D) gX12_reply_X12_no rfl rfl rfl ⟨Nat.le_of_ble_eq_true rfl, Nat.le_of_ble_eq_true rfl⟩ hyX12_no (by decide) entM_0 rfl rfl rfl (Nat.le_of_ble_eq_true rfl) ⟨Nat.le_of_ble_eq_true rfl, Nat.le_of_ble_eq_true rfl⟩ dX12_reply_10 ?_
    obtain rfl := Option.some.inj h
    exact zr_iret hC hR ⟨rfl, rfl⟩ (Nat.le_refl _) (Nat.le_refl _) dX12_reply_13
/-! X12_takesReply -/
theorem hyX12_takesReply : yX12_takesReply.cls = RX12 ∧ yX12_takesReply.cls ≠ "java/lang/invoke/MethodHandle" ∧ yX12_takesReply.cls ≠ "java/lang/invoke/VarHandle" ∧ (parseMethodDescriptor yX12_takesReply.desc).map (fun d => d.parameters.length) = some 1 := by decide +kernel
theorem flX12_takesReply_37 : Cond.fieldLink RX12 37 "BeforeTheEndModel" "told" "[I" ∈ wsX12_takesReply := by decide +kernel
theorem hinX12_takesReply_X12 : ∀ w ∈ wsX120, w ∈ wsX12_takesReply := fun _ h => List.mem_cons_of_mem _ (List.mem_append_right _ h)
def xX12_takesReply (M : zM) (v1 : Int32) : Option (Int32 × zM) :=
  (xX12_finds M).bind fun q1 =>
  (xX12_replyOf q1 v1 (2 : Int32)).bind fun q2 =>
  if (v1 < 0 ∨ 4 ≤ v1.toNatClampNeg) then none else
  if q2.1 = (q2.2.1 10 v1.toNatClampNeg) then
  (zlet (zsi q2.2 10 v1.toNatClampNeg q2.1) fun M5 =>
  some ((0 : Int32), M5))
  else
  zlet (zsi q2.2 10 v1.toNatClampNeg q2.1) fun M7 =>
  some ((1 : Int32), M7)
set_option maxHeartbeats 4000000 in
set_option maxRecDepth 100000 in
theorem tX12_takesReply {κ : Nat → ClassId} {E : zEn} {ad : Nat → Nat} (hEk : zEk E) {M : zM} {v1 : Int32} {res : (Int32 × zM)} (h : xX12_takesReply M v1 = some res) (l : Launch) (D : va_G) : zCT E D vwCl (zty κ) l yX12_takesReply wsX12_takesReply ({ frames := 5, cells := 0, slots := 0, locals := 122 } : Room) 0 0 [.ref (ad 0), .int v1] (zwM κ ad M) (zPd (some (.int res.1)) (zwM κ ad res.2)) := by
  refine zCT.of (cc := cX12_takesReply) (maxL := 4) (ret := (some .boolean)) (by decide) rfl (Nat.le_of_ble_eq_true rfl) ?_
  intro X hC hR
  unfold xX12_takesReply at h
  refine zV.sub (lv' := [(0, .ref (ad 0)), (1, .int v1)]) [0, 1] rfl ?_
  refine zr_aload_n (pc := 0) hC 0 rfl rfl dX12_takesReply_0 ?_
  obtain ⟨q1, hq1, h⟩ := zbd h
  refine zr_cVv (pc := 1) hC hEk [] [] 0 0 (fun l D => tX12_finds hEk hq1 l D) gX12_takesReply_X12_finds rfl rfl rfl ⟨Nat.le_of_ble_eq_true rfl, Nat.le_of_ble_eq_true rfl⟩ hyX12_finds (by decide) entM_0 rfl rfl rfl (Nat.le_of_ble_eq_true rfl) ⟨Nat.le_of_ble_eq_true rfl, Nat.le_of_ble_eq_true rfl⟩ dX12_takesReply_1 ?_
  refine zr_aload_n (pc := 4) hC 0 rfl rfl dX12_takesReply_4 ?_
  refine zr_iload_n (pc := 5) hC 1 rfl rfl dX12_takesReply_5 ?_
  refine zr_iconst (pc := 6) hC zki_2 dX12_takesReply_6 ?_
  obtain ⟨q2, hq2, h⟩ := zbd h
  refine zr_cVi (pc := 7) hC hEk [.int v1, .int (2 : Int32)] [] 0 2 (fun l D => tX12_replyOf hEk hq2 l D) gX12_takesReply_X12_replyOf rfl rfl rfl ⟨Nat.le_of_ble_eq_true rfl, Nat.le_of_ble_eq_true rfl⟩ hyX12_replyOf (by decide) entM_0 rfl rfl rfl (Nat.le_of_ble_eq_true rfl) ⟨Nat.le_of_ble_eq_true rfl, Nat.le_of_ble_eq_true rfl⟩ dX12_takesReply_7 ?_
  refine zr_istore_n (pc := 10) (lv' := [(2, .int q2.1), (0, .ref (ad 0)), (1, .int v1)]) hC rfl (by decide) rfl dX12_takesReply_10 ?_
  refine zr_iload_n (pc := 11) hC 0 rfl rfl dX12_takesReply_11 ?_
  refine zr_aload_n (pc := 12) hC 1 rfl rfl dX12_takesReply_12 ?_
  refine zmg_9 (pc := 13) hC hinX12_takesReply_X12 flX12_takesReply_37 dX12_takesReply_13 ?_
  refine zr_iload_n (pc := 16) hC 2 rfl rfl dX12_takesReply_16 ?_
  obtain ⟨i3, h⟩ := zgd h
  refine zml_10 (pc := 17) hC i3 dX12_takesReply_17 ?_
  refine zr_icmp_eq (pc := 18) (tgt := 25) hC dX12_takesReply_18 (by decide) (fun c4 => ?_) (fun c4 => ?_)
  · replace h := zip h c4
    refine zr_iconst (pc := 25) hC zki_0 dX12_takesReply_25 ?_
    refine zr_istore_n (pc := 26) (lv' := [(3, .int (0 : Int32)), (2, .int q2.1), (0, .ref (ad 0)), (1, .int v1)]) hC rfl (by decide) rfl dX12_takesReply_26 ?_
    refine zr_aload_n (pc := 27) hC 2 rfl rfl dX12_takesReply_27 ?_
    refine zmg_9 (pc := 28) hC hinX12_takesReply_X12 flX12_takesReply_37 dX12_takesReply_28 ?_
    refine zr_iload_n (pc := 31) hC 3 rfl rfl dX12_takesReply_31 ?_
    refine zr_iload_n (pc := 32) hC 1 rfl rfl dX12_takesReply_32 ?_
    obtain ⟨M5, e6, h⟩ := zle h
    refine zms_10 (pc := 33) hC i3 e6 dX12_takesReply_33 ?_
    refine zr_iload_n (pc := 34) hC 0 rfl rfl dX12_takesReply_34 ?_
    obtain rfl := Option.some.inj h
    exact zr_zret hC hR (by decide) ⟨rfl, rfl⟩ (Nat.le_refl _) (Nat.le_refl _) dX12_takesReply_35
  · replace h := zin h c4
    refine zr_iconst (pc := 21) hC zki_1 dX12_takesReply_21 ?_
    refine zr_goto (pc := 22) (tgt := 26) hC dX12_takesReply_22 (by decide) ?_
    refine zr_istore_n (pc := 26) (lv' := [(3, .int (1 : Int32)), (2, .int q2.1), (0, .ref (ad 0)), (1, .int v1)]) hC rfl (by decide) rfl dX12_takesReply_26 ?_
    refine zr_aload_n (pc := 27) hC 2 rfl rfl dX12_takesReply_27 ?_
    refine zmg_9 (pc := 28) hC hinX12_takesReply_X12 flX12_takesReply_37 dX12_takesReply_28 ?_
    refine zr_iload_n (pc := 31) hC 3 rfl rfl dX12_takesReply_31 ?_
    refine zr_iload_n (pc := 32) hC 1 rfl rfl dX12_takesReply_32 ?_
    obtain ⟨M7, e8, h⟩ := zle h
    refine zms_10 (pc := 33) hC i3 e8 dX12_takesReply_33 ?_
    refine zr_iload_n (pc := 34) hC 0 rfl rfl dX12_takesReply_34 ?_
    obtain rfl := Option.some.inj h
    exact zr_zret hC hR (by decide) ⟨rfl, rfl⟩ (Nat.le_refl _) (Nat.le_refl _) dX12_takesReply_35
/-! X12_rest -/
theorem hyX12_rest : yX12_rest.cls = RX12 ∧ yX12_rest.cls ≠ "java/lang/invoke/MethodHandle" ∧ yX12_rest.cls ≠ "java/lang/invoke/VarHandle" ∧ (parseMethodDescriptor yX12_rest.desc).map (fun d => d.parameters.length) = some 2 := by decide +kernel
theorem flX12_rest_25 : Cond.fieldLink RX12 25 "BeforeTheEndModel" "kind" "[I" ∈ wsX12_rest := by decide +kernel
theorem hinX12_rest_X12 : ∀ w ∈ wsX120, w ∈ wsX12_rest := fun _ h => List.mem_cons_of_mem _ (List.mem_append_right _ h)
def xX12_rest_L70 (v1 : Int32) (v2 : Int32) (w0 : zM) (w1 : Int32) : Option ((zM × Int32) ⊕ ((zM × Int32) ⊕ zM)) :=
  if (10 : Int32) < w1 then
  (some (.inr (.inr w0)))
  else
  (xX12_takesReply w0 v1).bind fun q2 =>
  (xX12_takesReply q2.2 v2).bind fun q3 =>
  if q2.1 = 0 then
  (if q3.1 = 0 then
  (some (.inr (.inl (q3.2, w1))))
  else
  some (.inl (q3.2, (w1 + (1 : Int32)))))
  else
  some (.inl (q3.2, (w1 + (1 : Int32))))
set_option maxHeartbeats 4000000 in
set_option maxRecDepth 100000 in
theorem tX12_rest_L70 {κ : Nat → ClassId} {E : zEn} {ad : Nat → Nat} {X : zX} {v1 : Int32} {v2 : Int32} {w0 : zM} {w1 : Int32} {r : ((zM × Int32) ⊕ ((zM × Int32) ⊕ zM))} (hC : zC X cX12_rest RX12 wsX12_rest vwCl (zty κ) E 6 ({ frames := 6, cells := 0, slots := 0, locals := 145 } : Room)) (hEk : zEk E) (hin : ∀ (x0' : zM) (x1' : Int32), r = .inl (x0', x1') → zV X 0 0 (zwM κ ad x0') [(0, .ref (ad 0)), (1, .int v1), (2, .int v2), (3, .int x1')] [] 70) (hout0 : ∀ (x0' : zM) (x1' : Int32), r = .inr (.inl (x0', x1')) → zV X 0 0 (zwM κ ad x0') [(3, .int x1')] [] 100) (hout1 : ∀ (x0' : zM), r = .inr (.inr x0') → zV X 0 0 (zwM κ ad x0') [] [] 108) (h : xX12_rest_L70  v1 v2 w0 w1 = some r) : zV X 0 0 (zwM κ ad w0) [(0, .ref (ad 0)), (1, .int v1), (2, .int v2), (3, .int w1)] [] 70 := by
  unfold xX12_rest_L70 at h
  refine zr_iload_n (pc := 70) hC 3 rfl rfl dX12_rest_70 ?_
  refine zr_bipush (pc := 71) hC zkb_10 dX12_rest_71 ?_
  refine zr_icmp_gt (pc := 73) (tgt := 108) hC dX12_rest_73 (by decide) (fun c1 => ?_) (fun c1 => ?_)
  · replace h := zip h c1
    obtain rfl := Option.some.inj h
    exact zV.sub (lv' := []) [] rfl (hout1 w0 rfl)
  · replace h := zin h c1
    refine zr_aload_n (pc := 76) hC 0 rfl rfl dX12_rest_76 ?_
    refine zr_iload_n (pc := 77) hC 1 rfl rfl dX12_rest_77 ?_
    obtain ⟨q2, hq2, h⟩ := zbd h
    refine zr_cVi (pc := 78) hC hEk [.int v1] [] 0 1 (fun l D => tX12_takesReply hEk hq2 l D) gX12_rest_X12_takesReply rfl rfl rfl ⟨Nat.le_of_ble_eq_true rfl, Nat.le_of_ble_eq_true rfl⟩ hyX12_takesReply (by decide) entM_0 rfl rfl rfl (Nat.le_of_ble_eq_true rfl) ⟨Nat.le_of_ble_eq_true rfl, Nat.le_of_ble_eq_true rfl⟩ dX12_rest_78 ?_
    refine zr_istore (pc := 81) (lv' := [(4, .int q2.1), (0, .ref (ad 0)), (1, .int v1), (2, .int v2), (3, .int w1)]) hC (by decide) rfl dX12_rest_81 ?_
    refine zr_aload_n (pc := 83) hC 1 rfl rfl dX12_rest_83 ?_
    refine zr_iload_n (pc := 84) hC 3 rfl rfl dX12_rest_84 ?_
    obtain ⟨q3, hq3, h⟩ := zbd h
    refine zr_cVi (pc := 85) hC hEk [.int v2] [] 0 1 (fun l D => tX12_takesReply hEk hq3 l D) gX12_rest_X12_takesReply rfl rfl rfl ⟨Nat.le_of_ble_eq_true rfl, Nat.le_of_ble_eq_true rfl⟩ hyX12_takesReply (by decide) entM_0 rfl rfl rfl (Nat.le_of_ble_eq_true rfl) ⟨Nat.le_of_ble_eq_true rfl, Nat.le_of_ble_eq_true rfl⟩ dX12_rest_85 ?_
    refine zr_istore (pc := 88) (lv' := [(5, .int q3.1), (4, .int q2.1), (0, .ref (ad 0)), (1, .int v1), (2, .int v2), (3, .int w1)]) hC (by decide) rfl dX12_rest_88 ?_
    refine zr_iload (pc := 90) hC 1 rfl dX12_rest_90 ?_
    refine zr_if_ne (pc := 92) (tgt := 102) hC dX12_rest_92 (by decide) (fun c4 => ?_) (fun c4 => ?_)
    · replace h := zin h c4
      refine zr_iinc (pc := 102) (k := 5) (lv' := [(3, .int (w1 + (1 : Int32))), (5, .int q3.1), (4, .int q2.1), (0, .ref (ad 0)), (1, .int v1), (2, .int v2)]) hC zki_1 (by decide) rfl rfl dX12_rest_102 ?_
      refine zr_goto (pc := 105) (tgt := 70) hC dX12_rest_105 (by decide) ?_
      obtain rfl := Option.some.inj h
      exact zV.sub (lv' := [(0, .ref (ad 0)), (1, .int v1), (2, .int v2), (3, .int (w1 + (1 : Int32)))]) [3, 4, 5, 0] rfl (hin q3.2 (w1 + (1 : Int32)) rfl)
    · replace h := zip h c4
      refine zr_iload (pc := 95) hC 0 rfl dX12_rest_95 ?_
      refine zr_if_ne (pc := 97) (tgt := 102) hC dX12_rest_97 (by decide) (fun c5 => ?_) (fun c5 => ?_)
      · replace h := zin h c5
        refine zr_iinc (pc := 102) (k := 5) (lv' := [(3, .int (w1 + (1 : Int32))), (5, .int q3.1), (4, .int q2.1), (0, .ref (ad 0)), (1, .int v1), (2, .int v2)]) hC zki_1 (by decide) rfl rfl dX12_rest_102 ?_
        refine zr_goto (pc := 105) (tgt := 70) hC dX12_rest_105 (by decide) ?_
        obtain rfl := Option.some.inj h
        exact zV.sub (lv' := [(0, .ref (ad 0)), (1, .int v1), (2, .int v2), (3, .int (w1 + (1 : Int32)))]) [3, 4, 5, 0] rfl (hin q3.2 (w1 + (1 : Int32)) rfl)
      · replace h := zip h c5
        obtain rfl := Option.some.inj h
        exact zV.sub (lv' := [(3, .int w1)]) [5] rfl (hout0 q3.2 w1 rfl)
def xX12_rest (M : zM) (v1 : Int32) (v2 : Int32) : Option (Int32 × zM) :=
  (xX12_isPlayer M v1).bind fun q1 =>
  if q1 = 0 then
  ((xX12_no M (-1 : Int32)).bind fun q3 =>
  some (q3.1, q3.2))
  else
  (xX12_isPlayer M v2).bind fun q4 =>
  if q4 = 0 then
  ((xX12_no M (-1 : Int32)).bind fun q6 =>
  some (q6.1, q6.2))
  else
  if v1 = v2 then
  ((xX12_no M (-1 : Int32)).bind fun q20 =>
  some (q20.1, q20.2))
  else
  if (v1 < 0 ∨ 4 ≤ v1.toNatClampNeg) then none else
  if (M.1 6 v1.toNatClampNeg) = (4 : Int32) then
  (if (v2 < 0 ∨ 4 ≤ v2.toNatClampNeg) then none else
  if (M.1 6 v2.toNatClampNeg) = (4 : Int32) then
  ((xX12_isWhole M).bind fun q13 =>
  if q13 = 0 then
  ((xX12_no M (-3 : Int32)).bind fun q18 =>
  some (q18.1, q18.2))
  else
  (x_it (fun a9 => xX12_rest_L70 v1 v2 a9.1 a9.2) zFU (M, (1 : Int32))).bind fun q15 =>
  Sum.elim (fun b16 => some (b16.2, b16.1)) (fun c17 => some ((-9 : Int32), c17)) q15)
  else
  (xX12_no M (-2 : Int32)).bind fun q19 =>
  some (q19.1, q19.2))
  else
  (xX12_no M (-2 : Int32)).bind fun q10 =>
  some (q10.1, q10.2)
set_option maxHeartbeats 4000000 in
set_option maxRecDepth 100000 in
theorem tX12_rest {κ : Nat → ClassId} {E : zEn} {ad : Nat → Nat} (hEk : zEk E) {M : zM} {v1 : Int32} {v2 : Int32} {res : (Int32 × zM)} (h : xX12_rest M v1 v2 = some res) (l : Launch) (D : va_G) : zCT E D vwCl (zty κ) l yX12_rest wsX12_rest ({ frames := 6, cells := 0, slots := 0, locals := 145 } : Room) 0 0 [.ref (ad 0), .int v1, .int v2] (zwM κ ad M) (zPd (some (.int res.1)) (zwM κ ad res.2)) := by
  refine zCT.of (cc := cX12_rest) (maxL := 6) (ret := (some .int)) (by decide) rfl (Nat.le_of_ble_eq_true rfl) ?_
  intro X hC hR
  unfold xX12_rest at h
  refine zV.sub (lv' := [(0, .ref (ad 0)), (1, .int v1), (2, .int v2)]) [0, 1, 2] rfl ?_
  refine zr_aload_n (pc := 0) hC 0 rfl rfl dX12_rest_0 ?_
  refine zr_iload_n (pc := 1) hC 1 rfl rfl dX12_rest_1 ?_
  obtain ⟨q1, hq1, h⟩ := zbd h
  refine zr_cVi (pc := 2) hC hEk [.int v1] [] 0 1 (fun l D => tX12_isPlayer hEk hq1 l D) gX12_rest_X12_isPlayer rfl rfl rfl ⟨Nat.le_of_ble_eq_true rfl, Nat.le_of_ble_eq_true rfl⟩ hyX12_isPlayer (by decide) entM_0 rfl rfl rfl (Nat.le_of_ble_eq_true rfl) ⟨Nat.le_of_ble_eq_true rfl, Nat.le_of_ble_eq_true rfl⟩ dX12_rest_2 ?_
  refine zr_if_eq (pc := 5) (tgt := 21) hC dX12_rest_5 (by decide) (fun c2 => ?_) (fun c2 => ?_)
  · replace h := zip h c2
    refine zr_aload_n (pc := 21) hC 0 rfl rfl dX12_rest_21 ?_
    refine zr_iconst (pc := 22) hC zki_m1 dX12_rest_22 ?_
    obtain ⟨q3, hq3, h⟩ := zbd h
    refine zr_cVi (pc := 23) hC hEk [.int (-1 : Int32)] [] 0 1 (fun l D => tX12_no hEk hq3 l D) gX12_rest_X12_no rfl rfl rfl ⟨Nat.le_of_ble_eq_true rfl, Nat.le_of_ble_eq_true rfl⟩ hyX12_no (by decide) entM_0 rfl rfl rfl (Nat.le_of_ble_eq_true rfl) ⟨Nat.le_of_ble_eq_true rfl, Nat.le_of_ble_eq_true rfl⟩ dX12_rest_23 ?_
    obtain rfl := Option.some.inj h
    exact zr_iret hC hR ⟨rfl, rfl⟩ (Nat.le_refl _) (Nat.le_refl _) dX12_rest_26
  · replace h := zin h c2
    refine zr_aload_n (pc := 8) hC 0 rfl rfl dX12_rest_8 ?_
    refine zr_iload_n (pc := 9) hC 2 rfl rfl dX12_rest_9 ?_
    obtain ⟨q4, hq4, h⟩ := zbd h
    refine zr_cVi (pc := 10) hC hEk [.int v2] [] 0 1 (fun l D => tX12_isPlayer hEk hq4 l D) gX12_rest_X12_isPlayer rfl rfl rfl ⟨Nat.le_of_ble_eq_true rfl, Nat.le_of_ble_eq_true rfl⟩ hyX12_isPlayer (by decide) entM_0 rfl rfl rfl (Nat.le_of_ble_eq_true rfl) ⟨Nat.le_of_ble_eq_true rfl, Nat.le_of_ble_eq_true rfl⟩ dX12_rest_10 ?_
    refine zr_if_eq (pc := 13) (tgt := 21) hC dX12_rest_13 (by decide) (fun c5 => ?_) (fun c5 => ?_)
    · replace h := zip h c5
      refine zr_aload_n (pc := 21) hC 0 rfl rfl dX12_rest_21 ?_
      refine zr_iconst (pc := 22) hC zki_m1 dX12_rest_22 ?_
      obtain ⟨q6, hq6, h⟩ := zbd h
      refine zr_cVi (pc := 23) hC hEk [.int (-1 : Int32)] [] 0 1 (fun l D => tX12_no hEk hq6 l D) gX12_rest_X12_no rfl rfl rfl ⟨Nat.le_of_ble_eq_true rfl, Nat.le_of_ble_eq_true rfl⟩ hyX12_no (by decide) entM_0 rfl rfl rfl (Nat.le_of_ble_eq_true rfl) ⟨Nat.le_of_ble_eq_true rfl, Nat.le_of_ble_eq_true rfl⟩ dX12_rest_23 ?_
      obtain rfl := Option.some.inj h
      exact zr_iret hC hR ⟨rfl, rfl⟩ (Nat.le_refl _) (Nat.le_refl _) dX12_rest_26
    · replace h := zin h c5
      refine zr_iload_n (pc := 16) hC 1 rfl rfl dX12_rest_16 ?_
      refine zr_iload_n (pc := 17) hC 2 rfl rfl dX12_rest_17 ?_
      refine zr_icmp_ne (pc := 18) (tgt := 27) hC dX12_rest_18 (by decide) (fun c7 => ?_) (fun c7 => ?_)
      · replace h := zin h c7
        refine zr_aload_n (pc := 27) hC 0 rfl rfl dX12_rest_27 ?_
        refine zmg_5 (pc := 28) hC hinX12_rest_X12 flX12_rest_25 dX12_rest_28 ?_
        refine zr_iload_n (pc := 31) hC 1 rfl rfl dX12_rest_31 ?_
        obtain ⟨i8, h⟩ := zgd h
        refine zml_6 (pc := 32) hC i8 dX12_rest_32 ?_
        refine zr_iconst (pc := 33) hC zki_4 dX12_rest_33 ?_
        refine zr_icmp_ne (pc := 34) (tgt := 47) hC dX12_rest_34 (by decide) (fun c9 => ?_) (fun c9 => ?_)
        · replace h := zin h c9
          refine zr_aload_n (pc := 47) hC 0 rfl rfl dX12_rest_47 ?_
          refine zr_bipush (pc := 48) hC zkb_m2 dX12_rest_48 ?_
          obtain ⟨q10, hq10, h⟩ := zbd h
          refine zr_cVi (pc := 50) hC hEk [.int (-2 : Int32)] [] 0 1 (fun l D => tX12_no hEk hq10 l D) gX12_rest_X12_no rfl rfl rfl ⟨Nat.le_of_ble_eq_true rfl, Nat.le_of_ble_eq_true rfl⟩ hyX12_no (by decide) entM_0 rfl rfl rfl (Nat.le_of_ble_eq_true rfl) ⟨Nat.le_of_ble_eq_true rfl, Nat.le_of_ble_eq_true rfl⟩ dX12_rest_50 ?_
          obtain rfl := Option.some.inj h
          exact zr_iret hC hR ⟨rfl, rfl⟩ (Nat.le_refl _) (Nat.le_refl _) dX12_rest_53
        · replace h := zip h c9
          refine zr_aload_n (pc := 37) hC 0 rfl rfl dX12_rest_37 ?_
          refine zmg_5 (pc := 38) hC hinX12_rest_X12 flX12_rest_25 dX12_rest_38 ?_
          refine zr_iload_n (pc := 41) hC 2 rfl rfl dX12_rest_41 ?_
          obtain ⟨i11, h⟩ := zgd h
          refine zml_6 (pc := 42) hC i11 dX12_rest_42 ?_
          refine zr_iconst (pc := 43) hC zki_4 dX12_rest_43 ?_
          refine zr_icmp_eq (pc := 44) (tgt := 54) hC dX12_rest_44 (by decide) (fun c12 => ?_) (fun c12 => ?_)
          · replace h := zip h c12
            refine zr_aload_n (pc := 54) hC 0 rfl rfl dX12_rest_54 ?_
            obtain ⟨q13, hq13, h⟩ := zbd h
            refine zr_cVi (pc := 55) hC hEk [] [] 0 0 (fun l D => tX12_isWhole hEk hq13 l D) gX12_rest_X12_isWhole rfl rfl rfl ⟨Nat.le_of_ble_eq_true rfl, Nat.le_of_ble_eq_true rfl⟩ hyX12_isWhole (by decide) entM_0 rfl rfl rfl (Nat.le_of_ble_eq_true rfl) ⟨Nat.le_of_ble_eq_true rfl, Nat.le_of_ble_eq_true rfl⟩ dX12_rest_55 ?_
            refine zr_if_ne (pc := 58) (tgt := 68) hC dX12_rest_58 (by decide) (fun c14 => ?_) (fun c14 => ?_)
            · replace h := zin h c14
              refine zr_iconst (pc := 68) hC zki_1 dX12_rest_68 ?_
              refine zr_istore_n (pc := 69) (lv' := [(3, .int (1 : Int32)), (0, .ref (ad 0)), (1, .int v1), (2, .int v2)]) hC rfl (by decide) rfl dX12_rest_69 ?_
              obtain ⟨q15, hq15, h⟩ := zbd h
              refine zV.sub (lv' := [(0, .ref (ad 0)), (1, .int v1), (2, .int v2), (3, .int (1 : Int32))]) [1, 2, 3, 0] rfl ?_
              refine zit2 (Wp := fun (y0 : zM) (y1 : Int32) => zV X 0 0 (zwM κ ad y0) [(0, .ref (ad 0)), (1, .int v1), (2, .int v2), (3, .int y1)] [] 70) (Ex := fun (b9 : ((zM × Int32) ⊕ zM)) => Sum.elim (fun (b0 : (zM × Int32)) => zV X 0 0 (zwM κ ad b0.1) [(3, .int b0.2)] [] 100) (fun (c0 : zM) => zV X 0 0 (zwM κ ad c0) [] [] 108) b9) (fun y0 y1 r9 hr hin hout => tX12_rest_L70 hC hEk hin (fun z0 z1 e9 => hout (.inl (z0, z1)) e9) (fun z0 e9 => hout (.inr z0) e9) hr) zFU M (1 : Int32) q15 hq15 ?_
              rcases q15 with b16 | c17
              · replace h := zel h
                show zV X 0 0 (zwM κ ad b16.1) [(3, .int b16.2)] [] 100
                refine zr_iload_n (pc := 100) hC 0 rfl rfl dX12_rest_100 ?_
                obtain rfl := Option.some.inj h
                exact zr_iret hC hR ⟨rfl, rfl⟩ (Nat.le_refl _) (Nat.le_refl _) dX12_rest_101
              · replace h := zer h
                show zV X 0 0 (zwM κ ad c17) [] [] 108
                refine zr_bipush (pc := 108) hC zkb_m9 dX12_rest_108 ?_
                obtain rfl := Option.some.inj h
                exact zr_iret hC hR ⟨rfl, rfl⟩ (Nat.le_refl _) (Nat.le_refl _) dX12_rest_110
            · replace h := zip h c14
              refine zr_aload_n (pc := 61) hC 0 rfl rfl dX12_rest_61 ?_
              refine zr_bipush (pc := 62) hC zkb_m3 dX12_rest_62 ?_
              obtain ⟨q18, hq18, h⟩ := zbd h
              refine zr_cVi (pc := 64) hC hEk [.int (-3 : Int32)] [] 0 1 (fun l D => tX12_no hEk hq18 l D) gX12_rest_X12_no rfl rfl rfl ⟨Nat.le_of_ble_eq_true rfl, Nat.le_of_ble_eq_true rfl⟩ hyX12_no (by decide) entM_0 rfl rfl rfl (Nat.le_of_ble_eq_true rfl) ⟨Nat.le_of_ble_eq_true rfl, Nat.le_of_ble_eq_true rfl⟩ dX12_rest_64 ?_
              obtain rfl := Option.some.inj h
              exact zr_iret hC hR ⟨rfl, rfl⟩ (Nat.le_refl _) (Nat.le_refl _) dX12_rest_67
          · replace h := zin h c12
            refine zr_aload_n (pc := 47) hC 0 rfl rfl dX12_rest_47 ?_
            refine zr_bipush (pc := 48) hC zkb_m2 dX12_rest_48 ?_
            obtain ⟨q19, hq19, h⟩ := zbd h
            refine zr_cVi (pc := 50) hC hEk [.int (-2 : Int32)] [] 0 1 (fun l D => tX12_no hEk hq19 l D) gX12_rest_X12_no rfl rfl rfl ⟨Nat.le_of_ble_eq_true rfl, Nat.le_of_ble_eq_true rfl⟩ hyX12_no (by decide) entM_0 rfl rfl rfl (Nat.le_of_ble_eq_true rfl) ⟨Nat.le_of_ble_eq_true rfl, Nat.le_of_ble_eq_true rfl⟩ dX12_rest_50 ?_
            obtain rfl := Option.some.inj h
            exact zr_iret hC hR ⟨rfl, rfl⟩ (Nat.le_refl _) (Nat.le_refl _) dX12_rest_53
      · replace h := zip h c7
        refine zr_aload_n (pc := 21) hC 0 rfl rfl dX12_rest_21 ?_
        refine zr_iconst (pc := 22) hC zki_m1 dX12_rest_22 ?_
        obtain ⟨q20, hq20, h⟩ := zbd h
        refine zr_cVi (pc := 23) hC hEk [.int (-1 : Int32)] [] 0 1 (fun l D => tX12_no hEk hq20 l D) gX12_rest_X12_no rfl rfl rfl ⟨Nat.le_of_ble_eq_true rfl, Nat.le_of_ble_eq_true rfl⟩ hyX12_no (by decide) entM_0 rfl rfl rfl (Nat.le_of_ble_eq_true rfl) ⟨Nat.le_of_ble_eq_true rfl, Nat.le_of_ble_eq_true rfl⟩ dX12_rest_23 ?_
        obtain rfl := Option.some.inj h
        exact zr_iret hC hR ⟨rfl, rfl⟩ (Nat.le_refl _) (Nat.le_refl _) dX12_rest_26
/-! X12_law -/
theorem hyX12_law : yX12_law.cls = RX12 ∧ yX12_law.cls ≠ "java/lang/invoke/MethodHandle" ∧ yX12_law.cls ≠ "java/lang/invoke/VarHandle" ∧ (parseMethodDescriptor yX12_law.desc).map (fun d => d.parameters.length) = some 1 := by decide +kernel
theorem flX12_law_194 : Cond.fieldLink RX12 194 "BeforeTheEndModel" "unit" "J" ∈ wsX12_law := by decide +kernel
theorem flX12_law_204 : Jvm.Cond.constantLong RX12 204 (100) ∈ wsX12_law := by decide +kernel
theorem flX12_law_40 : Cond.fieldLink RX12 40 "BeforeTheEndModel" "points" "[I" ∈ wsX12_law := by decide +kernel
theorem hinX12_law_X12 : ∀ w ∈ wsX120, w ∈ wsX12_law := fun _ h => List.mem_cons_of_mem _ (List.mem_append_right _ h)
def xX12_law_L46_b22 (v1 : Int32) (v3 : Int32) (w0 : zM) (w1 : Int32) (w2 : Int32) : Option ((zM × Int32 × Int32) ⊕ (zM × Int32)) :=
  if (20 : Int32) < w2 then
  (some (.inr (w0, w1)))
  else
  if 0 ≤ w1 then
  (some (.inr (w0, w1)))
  else
  zlet (zsi w0 11 (1 : Int32).toNatClampNeg w2) fun M3 =>
  (xX12_finds M3).bind fun q5 =>
  (xX12_sumOver q5 (3 : Int32) (0 : Int32)).bind fun q6 =>
  if (lg_cmp ((100 : Int64) * q6.1) (v1.toInt64 * (q6.2.2 0 29))) < 0 then
  (some (.inl (q6.2, w1, (w2 + (1 : Int32)))))
  else
  some (.inl (q6.2, w2, (w2 + (1 : Int32))))
set_option maxHeartbeats 4000000 in
set_option maxRecDepth 100000 in
theorem tX12_law_L46_b22 {κ : Nat → ClassId} {E : zEn} {ad : Nat → Nat} {X : zX} {v1 : Int32} {v3 : Int32} {w0 : zM} {w1 : Int32} {w2 : Int32} {r : ((zM × Int32 × Int32) ⊕ (zM × Int32))} (hC : zC X cX12_law RX12 wsX12_law vwCl (zty κ) E 6 ({ frames := 5, cells := 0, slots := 0, locals := 115 } : Room)) (hEk : zEk E) (hin : ∀ (x0' : zM) (x1' : Int32) (x2' : Int32), r = .inl (x0', x1', x2') → zV X 0 0 (zwM κ ad x0') [(0, .ref (ad 0)), (1, .int v1), (3, .int v3), (4, .int x1'), (5, .int x2')] [] 46) (hout0 : ∀ (x0' : zM) (x1' : Int32), r = .inr (x0', x1') → zV X 0 0 (zwM κ ad x0') [(0, .ref (ad 0)), (3, .int v3), (4, .int x1')] [] 101) (h : xX12_law_L46_b22  v1 v3 w0 w1 w2 = some r) : zV X 0 0 (zwM κ ad w0) [(0, .ref (ad 0)), (1, .int v1), (3, .int v3), (4, .int w1), (5, .int w2)] [] 46 := by
  unfold xX12_law_L46_b22 at h
  refine zr_iload (pc := 46) hC 4 rfl dX12_law_46 ?_
  refine zr_bipush (pc := 48) hC zkb_20 dX12_law_48 ?_
  refine zr_icmp_gt (pc := 50) (tgt := 101) hC dX12_law_50 (by decide) (fun c1 => ?_) (fun c1 => ?_)
  · replace h := zip h c1
    obtain rfl := Option.some.inj h
    exact zV.sub (lv' := [(0, .ref (ad 0)), (3, .int v3), (4, .int w1)]) [0, 2, 3] rfl (hout0 w0 w1 rfl)
  · replace h := zin h c1
    refine zr_iload (pc := 53) hC 3 rfl dX12_law_53 ?_
    refine zr_if_ge (pc := 55) (tgt := 101) hC dX12_law_55 (by decide) (fun c2 => ?_) (fun c2 => ?_)
    · replace h := zip h c2
      obtain rfl := Option.some.inj h
      exact zV.sub (lv' := [(0, .ref (ad 0)), (3, .int v3), (4, .int w1)]) [0, 2, 3] rfl (hout0 w0 w1 rfl)
    · replace h := zin h c2
      refine zr_aload_n (pc := 58) hC 0 rfl rfl dX12_law_58 ?_
      refine zmg_10 (pc := 59) hC hinX12_law_X12 flX12_law_40 dX12_law_59 ?_
      refine zr_iconst (pc := 62) hC zki_1 dX12_law_62 ?_
      refine zr_iload (pc := 63) hC 4 rfl dX12_law_63 ?_
      obtain ⟨M3, e4, h⟩ := zle h
      refine zms_11 (pc := 65) hC (by decide) e4 dX12_law_65 ?_
      refine zr_aload_n (pc := 66) hC 0 rfl rfl dX12_law_66 ?_
      obtain ⟨q5, hq5, h⟩ := zbd h
      refine zr_cVv (pc := 67) hC hEk [] [] 0 0 (fun l D => tX12_finds hEk hq5 l D) gX12_law_X12_finds rfl rfl rfl ⟨Nat.le_of_ble_eq_true rfl, Nat.le_of_ble_eq_true rfl⟩ hyX12_finds (by decide) entM_0 rfl rfl rfl (Nat.le_of_ble_eq_true rfl) ⟨Nat.le_of_ble_eq_true rfl, Nat.le_of_ble_eq_true rfl⟩ dX12_law_67 ?_
      refine zr_ldc2 (pc := 70) hC flX12_law_204 dX12_law_70 ?_
      refine zr_aload_n (pc := 73) hC 0 rfl rfl dX12_law_73 ?_
      refine zr_iconst (pc := 74) hC zki_3 dX12_law_74 ?_
      refine zr_iconst (pc := 75) hC zki_0 dX12_law_75 ?_
      obtain ⟨q6, hq6, h⟩ := zbd h
      refine zr_cVl (pc := 76) hC hEk [.int (3 : Int32), .int (0 : Int32)] [.long (100 : Int64)] 0 2 (fun l D => tX12_sumOver hEk hq6 l D) gX12_law_X12_sumOver rfl rfl rfl ⟨Nat.le_of_ble_eq_true rfl, Nat.le_of_ble_eq_true rfl⟩ hyX12_sumOver (by decide) entM_0 rfl rfl rfl (Nat.le_of_ble_eq_true rfl) ⟨Nat.le_of_ble_eq_true rfl, Nat.le_of_ble_eq_true rfl⟩ dX12_law_76 ?_
      refine zr_lmul (pc := 79) hC dX12_law_79 ?_
      refine zr_iload_n (pc := 80) hC 1 rfl rfl dX12_law_80 ?_
      refine zr_i2l (pc := 81) hC dX12_law_81 ?_
      refine zr_aload_n (pc := 82) hC 0 rfl rfl dX12_law_82 ?_
      refine zmg_29 (pc := 83) hC hinX12_law_X12 flX12_law_194 dX12_law_83 ?_
      refine zr_lmul (pc := 86) hC dX12_law_86 ?_
      refine zr_lcmp (pc := 87) hC dX12_law_87 ?_
      refine zr_if_lt (pc := 88) (tgt := 95) hC dX12_law_88 (by decide) (fun c7 => ?_) (fun c7 => ?_)
      · replace h := zip h c7
        refine zr_iinc (pc := 95) (k := 4) (lv' := [(5, .int (w2 + (1 : Int32))), (0, .ref (ad 0)), (1, .int v1), (3, .int v3), (4, .int w1)]) hC zki_1 (by decide) rfl rfl dX12_law_95 ?_
        refine zr_goto (pc := 98) (tgt := 46) hC dX12_law_98 (by decide) ?_
        obtain rfl := Option.some.inj h
        exact zV.sub (lv' := [(0, .ref (ad 0)), (1, .int v1), (3, .int v3), (4, .int w1), (5, .int (w2 + (1 : Int32)))]) [1, 2, 3, 4, 0] rfl (hin q6.2 w1 (w2 + (1 : Int32)) rfl)
      · replace h := zin h c7
        refine zr_iload (pc := 91) hC 4 rfl dX12_law_91 ?_
        refine zr_istore (pc := 93) (lv' := [(4, .int w2), (0, .ref (ad 0)), (1, .int v1), (3, .int v3), (5, .int w2)]) hC (by decide) rfl dX12_law_93 ?_
        refine zr_iinc (pc := 95) (k := 4) (lv' := [(5, .int (w2 + (1 : Int32))), (4, .int w2), (0, .ref (ad 0)), (1, .int v1), (3, .int v3)]) hC zki_1 (by decide) rfl rfl dX12_law_95 ?_
        refine zr_goto (pc := 98) (tgt := 46) hC dX12_law_98 (by decide) ?_
        obtain rfl := Option.some.inj h
        exact zV.sub (lv' := [(0, .ref (ad 0)), (1, .int v1), (3, .int v3), (4, .int w2), (5, .int (w2 + (1 : Int32)))]) [2, 3, 4, 1, 0] rfl (hin q6.2 w2 (w2 + (1 : Int32)) rfl)
def xX12_law_b22 (M : zM) (v1 : Int32) (v2 : Int32) : Option (Int32 × zM) :=
  if v2 = 0 then
  (zlet (M.1 11 (1 : Int32).toNatClampNeg) fun z2 =>
  (x_it (fun a9 => xX12_law_L46_b22 v1 z2 a9.1 a9.2.1 a9.2.2) zFU (M, (-9 : Int32), (0 : Int32))).bind fun q4 =>
  zlet (zsi q4.1 11 (1 : Int32).toNatClampNeg z2) fun M5 =>
  some (q4.2, M5))
  else
  (xX12_no M v2).bind fun q7 =>
  some (q7.1, q7.2)
set_option maxHeartbeats 4000000 in
set_option maxRecDepth 100000 in
theorem tX12_law_b22 {κ : Nat → ClassId} {E : zEn} {ad : Nat → Nat} {X : zX} {res : (Int32 × zM)} {M : zM} {v1 : Int32} {v2 : Int32} (hC : zC X cX12_law RX12 wsX12_law vwCl (zty κ) E 6 ({ frames := 5, cells := 0, slots := 0, locals := 115 } : Room)) (hEk : zEk E) (hR : zR X (some .int) (zPd (some (.int res.1)) (zwM κ ad res.2)) 0 0) (h : xX12_law_b22 M v1 v2  = some res) : zV X 0 0 (zwM κ ad M) [(0, .ref (ad 0)), (1, .int v1), (2, .int v2)] [] 22 := by
  unfold xX12_law_b22 at h
  refine zr_iload_n (pc := 22) hC 2 rfl rfl dX12_law_22 ?_
  refine zr_if_eq (pc := 23) (tgt := 32) hC dX12_law_23 (by decide) (fun c1 => ?_) (fun c1 => ?_)
  · replace h := zip h c1
    refine zr_aload_n (pc := 32) hC 0 rfl rfl dX12_law_32 ?_
    refine zmg_10 (pc := 33) hC hinX12_law_X12 flX12_law_40 dX12_law_33 ?_
    refine zr_iconst (pc := 36) hC zki_1 dX12_law_36 ?_
    refine zml_11 (pc := 37) hC (by decide) dX12_law_37 ?_
    obtain ⟨z2, e3, h⟩ := zle h
    refine zr_topi e3 ?_
    refine zr_istore_n (pc := 38) (lv' := [(3, .int z2), (0, .ref (ad 0)), (1, .int v1), (2, .int v2)]) hC rfl (by decide) rfl dX12_law_38 ?_
    refine zr_bipush (pc := 39) hC zkb_m9 dX12_law_39 ?_
    refine zr_istore (pc := 41) (lv' := [(4, .int (-9 : Int32)), (3, .int z2), (0, .ref (ad 0)), (1, .int v1), (2, .int v2)]) hC (by decide) rfl dX12_law_41 ?_
    refine zr_iconst (pc := 43) hC zki_0 dX12_law_43 ?_
    refine zr_istore (pc := 44) (lv' := [(5, .int (0 : Int32)), (4, .int (-9 : Int32)), (3, .int z2), (0, .ref (ad 0)), (1, .int v1), (2, .int v2)]) hC (by decide) rfl dX12_law_44 ?_
    obtain ⟨q4, hq4, h⟩ := zbd h
    refine zV.sub (lv' := [(0, .ref (ad 0)), (1, .int v1), (3, .int z2), (4, .int (-9 : Int32)), (5, .int (0 : Int32))]) [3, 4, 2, 1, 0] rfl ?_
    refine zit3 (Wp := fun (y0 : zM) (y1 : Int32) (y2 : Int32) => zV X 0 0 (zwM κ ad y0) [(0, .ref (ad 0)), (1, .int v1), (3, .int z2), (4, .int y1), (5, .int y2)] [] 46) (Ex := fun (b9 : (zM × Int32)) => zV X 0 0 (zwM κ ad b9.1) [(0, .ref (ad 0)), (3, .int z2), (4, .int b9.2)] [] 101) (fun y0 y1 y2 r9 hr hin hout => tX12_law_L46_b22 hC hEk hin (fun z0 z1 e9 => hout (z0, z1) e9) hr) zFU M (-9 : Int32) (0 : Int32) q4 hq4 ?_
    show zV X 0 0 (zwM κ ad q4.1) [(0, .ref (ad 0)), (3, .int z2), (4, .int q4.2)] [] 101
    refine zr_aload_n (pc := 101) hC 0 rfl rfl dX12_law_101 ?_
    refine zmg_10 (pc := 102) hC hinX12_law_X12 flX12_law_40 dX12_law_102 ?_
    refine zr_iconst (pc := 105) hC zki_1 dX12_law_105 ?_
    refine zr_iload_n (pc := 106) hC 1 rfl rfl dX12_law_106 ?_
    obtain ⟨M5, e6, h⟩ := zle h
    refine zms_11 (pc := 107) hC (by decide) e6 dX12_law_107 ?_
    refine zr_iload (pc := 108) hC 2 rfl dX12_law_108 ?_
    obtain rfl := Option.some.inj h
    exact zr_iret hC hR ⟨rfl, rfl⟩ (Nat.le_refl _) (Nat.le_refl _) dX12_law_110
  · replace h := zin h c1
    refine zr_aload_n (pc := 26) hC 0 rfl rfl dX12_law_26 ?_
    refine zr_iload_n (pc := 27) hC 2 rfl rfl dX12_law_27 ?_
    obtain ⟨q7, hq7, h⟩ := zbd h
    refine zr_cVi (pc := 28) hC hEk [.int v2] [] 0 1 (fun l D => tX12_no hEk hq7 l D) gX12_law_X12_no rfl rfl rfl ⟨Nat.le_of_ble_eq_true rfl, Nat.le_of_ble_eq_true rfl⟩ hyX12_no (by decide) entM_0 rfl rfl rfl (Nat.le_of_ble_eq_true rfl) ⟨Nat.le_of_ble_eq_true rfl, Nat.le_of_ble_eq_true rfl⟩ dX12_law_28 ?_
    obtain rfl := Option.some.inj h
    exact zr_iret hC hR ⟨rfl, rfl⟩ (Nat.le_refl _) (Nat.le_refl _) dX12_law_31
def xX12_law (M : zM) (v1 : Int32) : Option (Int32 × zM) :=
  (xX12_bound v1 (0 : Int32) (100 : Int32)).bind fun q1 =>
  if q1 = 0 then
  ((xX12_isWhole M).bind fun q3 =>
  if q3 = 0 then
  (xX12_law_b22 M v1 (-3 : Int32))
  else
  xX12_law_b22 M v1 q1)
  else
  xX12_law_b22 M v1 q1
set_option maxHeartbeats 4000000 in
set_option maxRecDepth 100000 in
theorem tX12_law {κ : Nat → ClassId} {E : zEn} {ad : Nat → Nat} (hEk : zEk E) {M : zM} {v1 : Int32} {res : (Int32 × zM)} (h : xX12_law M v1 = some res) (l : Launch) (D : va_G) : zCT E D vwCl (zty κ) l yX12_law wsX12_law ({ frames := 5, cells := 0, slots := 0, locals := 115 } : Room) 0 0 [.ref (ad 0), .int v1] (zwM κ ad M) (zPd (some (.int res.1)) (zwM κ ad res.2)) := by
  refine zCT.of (cc := cX12_law) (maxL := 6) (ret := (some .int)) (by decide) rfl (Nat.le_of_ble_eq_true rfl) ?_
  intro X hC hR
  unfold xX12_law at h
  refine zV.sub (lv' := [(0, .ref (ad 0)), (1, .int v1)]) [0, 1] rfl ?_
  refine zr_iload_n (pc := 0) hC 1 rfl rfl dX12_law_0 ?_
  refine zr_iconst (pc := 1) hC zki_0 dX12_law_1 ?_
  refine zr_bipush (pc := 2) hC zkb_100 dX12_law_2 ?_
  obtain ⟨q1, hq1, h⟩ := zbd h
  refine zr_cSi (pc := 4) hC hEk [.int v1, .int (0 : Int32), .int (100 : Int32)] [] 3 (fun l D => tX12_bound hEk hq1 l D) gX12_law_X12_bound rfl rfl rfl ⟨Nat.le_of_ble_eq_true rfl, Nat.le_of_ble_eq_true rfl⟩ hyX12_bound rfl rfl (Nat.le_of_ble_eq_true rfl) ⟨Nat.le_of_ble_eq_true rfl, Nat.le_of_ble_eq_true rfl⟩ dX12_law_4 ?_
  refine zr_istore_n (pc := 7) (lv' := [(2, .int q1), (0, .ref (ad 0)), (1, .int v1)]) hC rfl (by decide) rfl dX12_law_7 ?_
  refine zr_iload_n (pc := 8) hC 0 rfl rfl dX12_law_8 ?_
  refine zr_if_ne (pc := 9) (tgt := 22) hC dX12_law_9 (by decide) (fun c2 => ?_) (fun c2 => ?_)
  · replace h := zin h c2
    exact zV.sub (lv' := [(0, .ref (ad 0)), (1, .int v1), (2, .int q1)]) [1, 2, 0] rfl (tX12_law_b22 hC hEk hR h)
  · replace h := zip h c2
    refine zr_aload_n (pc := 12) hC 1 rfl rfl dX12_law_12 ?_
    obtain ⟨q3, hq3, h⟩ := zbd h
    refine zr_cVi (pc := 13) hC hEk [] [] 0 0 (fun l D => tX12_isWhole hEk hq3 l D) gX12_law_X12_isWhole rfl rfl rfl ⟨Nat.le_of_ble_eq_true rfl, Nat.le_of_ble_eq_true rfl⟩ hyX12_isWhole (by decide) entM_0 rfl rfl rfl (Nat.le_of_ble_eq_true rfl) ⟨Nat.le_of_ble_eq_true rfl, Nat.le_of_ble_eq_true rfl⟩ dX12_law_13 ?_
    refine zr_if_ne (pc := 16) (tgt := 22) hC dX12_law_16 (by decide) (fun c4 => ?_) (fun c4 => ?_)
    · replace h := zin h c4
      exact zV.sub (lv' := [(0, .ref (ad 0)), (1, .int v1), (2, .int q1)]) [1, 2, 0] rfl (tX12_law_b22 hC hEk hR h)
    · replace h := zip h c4
      refine zr_bipush (pc := 19) hC zkb_m3 dX12_law_19 ?_
      refine zr_istore_n (pc := 21) (lv' := [(2, .int (-3 : Int32)), (0, .ref (ad 0)), (1, .int v1)]) hC rfl (by decide) rfl dX12_law_21 ?_
      exact zV.sub (lv' := [(0, .ref (ad 0)), (1, .int v1), (2, .int (-3 : Int32))]) [1, 2, 0] rfl (tX12_law_b22 hC hEk hR h)
/-! X12_mostEarly -/
theorem hyX12_mostEarly : yX12_mostEarly.cls = RX12 ∧ yX12_mostEarly.cls ≠ "java/lang/invoke/MethodHandle" ∧ yX12_mostEarly.cls ≠ "java/lang/invoke/VarHandle" ∧ (parseMethodDescriptor yX12_mostEarly.desc).map (fun d => d.parameters.length) = some 1 := by decide +kernel
theorem flX12_mostEarly_297 : Jvm.Cond.constantLong RX12 297 (-1) ∈ wsX12_mostEarly := by decide +kernel
theorem flX12_mostEarly_40 : Cond.fieldLink RX12 40 "BeforeTheEndModel" "points" "[I" ∈ wsX12_mostEarly := by decide +kernel
theorem hinX12_mostEarly_X12 : ∀ w ∈ wsX120, w ∈ wsX12_mostEarly := fun _ h => List.mem_cons_of_mem _ (List.mem_append_right _ h)
def xX12_mostEarly_L45 (v1 : Int32) (v2 : Int32) (w0 : zM) (w1 : Int32) (w2 : Int64) (w3 : Int32) : Option ((zM × Int32 × Int64 × Int32) ⊕ (zM × Int32)) :=
  if (5 : Int32) < w3 then
  (some (.inr (w0, w1)))
  else
  zlet (zsi w0 11 (2 : Int32).toNatClampNeg w3) fun M2 =>
  (xX12_finds M2).bind fun q4 =>
  (xX12_sumOver q4 (0 : Int32) v1).bind fun q5 =>
  if 0 < (lg_cmp q5.1 w2) then
  (some (.inl (q5.2, w3, q5.1, (w3 + (1 : Int32)))))
  else
  some (.inl (q5.2, w1, w2, (w3 + (1 : Int32))))
set_option maxHeartbeats 4000000 in
set_option maxRecDepth 100000 in
theorem tX12_mostEarly_L45 {κ : Nat → ClassId} {E : zEn} {ad : Nat → Nat} {X : zX} {v1 : Int32} {v2 : Int32} {w0 : zM} {w1 : Int32} {w2 : Int64} {w3 : Int32} {r : ((zM × Int32 × Int64 × Int32) ⊕ (zM × Int32))} (hC : zC X cX12_mostEarly RX12 wsX12_mostEarly vwCl (zty κ) E 9 ({ frames := 5, cells := 0, slots := 0, locals := 115 } : Room)) (hEk : zEk E) (hin : ∀ (x0' : zM) (x1' : Int32) (x2' : Int64) (x3' : Int32), r = .inl (x0', x1', x2', x3') → zV X 0 0 (zwM κ ad x0') [(0, .ref (ad 0)), (1, .int v1), (2, .int v2), (3, .int x1'), (4, .long x2'), (6, .int x3')] [] 45) (hout0 : ∀ (x0' : zM) (x1' : Int32), r = .inr (x0', x1') → zV X 0 0 (zwM κ ad x0') [(0, .ref (ad 0)), (2, .int v2), (3, .int x1')] [] 95) (h : xX12_mostEarly_L45  v1 v2 w0 w1 w2 w3 = some r) : zV X 0 0 (zwM κ ad w0) [(0, .ref (ad 0)), (1, .int v1), (2, .int v2), (3, .int w1), (4, .long w2), (6, .int w3)] [] 45 := by
  unfold xX12_mostEarly_L45 at h
  refine zr_iload (pc := 45) hC 5 rfl dX12_mostEarly_45 ?_
  refine zr_iconst (pc := 47) hC zki_5 dX12_mostEarly_47 ?_
  refine zr_icmp_gt (pc := 48) (tgt := 95) hC dX12_mostEarly_48 (by decide) (fun c1 => ?_) (fun c1 => ?_)
  · replace h := zip h c1
    obtain rfl := Option.some.inj h
    exact zV.sub (lv' := [(0, .ref (ad 0)), (2, .int v2), (3, .int w1)]) [0, 2, 3] rfl (hout0 w0 w1 rfl)
  · replace h := zin h c1
    refine zr_aload_n (pc := 51) hC 0 rfl rfl dX12_mostEarly_51 ?_
    refine zmg_10 (pc := 52) hC hinX12_mostEarly_X12 flX12_mostEarly_40 dX12_mostEarly_52 ?_
    refine zr_iconst (pc := 55) hC zki_2 dX12_mostEarly_55 ?_
    refine zr_iload (pc := 56) hC 5 rfl dX12_mostEarly_56 ?_
    obtain ⟨M2, e3, h⟩ := zle h
    refine zms_11 (pc := 58) hC (by decide) e3 dX12_mostEarly_58 ?_
    refine zr_aload_n (pc := 59) hC 0 rfl rfl dX12_mostEarly_59 ?_
    obtain ⟨q4, hq4, h⟩ := zbd h
    refine zr_cVv (pc := 60) hC hEk [] [] 0 0 (fun l D => tX12_finds hEk hq4 l D) gX12_mostEarly_X12_finds rfl rfl rfl ⟨Nat.le_of_ble_eq_true rfl, Nat.le_of_ble_eq_true rfl⟩ hyX12_finds (by decide) entM_0 rfl rfl rfl (Nat.le_of_ble_eq_true rfl) ⟨Nat.le_of_ble_eq_true rfl, Nat.le_of_ble_eq_true rfl⟩ dX12_mostEarly_60 ?_
    refine zr_aload_n (pc := 63) hC 0 rfl rfl dX12_mostEarly_63 ?_
    refine zr_iconst (pc := 64) hC zki_0 dX12_mostEarly_64 ?_
    refine zr_iload_n (pc := 65) hC 1 rfl rfl dX12_mostEarly_65 ?_
    obtain ⟨q5, hq5, h⟩ := zbd h
    refine zr_cVl (pc := 66) hC hEk [.int (0 : Int32), .int v1] [] 0 2 (fun l D => tX12_sumOver hEk hq5 l D) gX12_mostEarly_X12_sumOver rfl rfl rfl ⟨Nat.le_of_ble_eq_true rfl, Nat.le_of_ble_eq_true rfl⟩ hyX12_sumOver (by decide) entM_0 rfl rfl rfl (Nat.le_of_ble_eq_true rfl) ⟨Nat.le_of_ble_eq_true rfl, Nat.le_of_ble_eq_true rfl⟩ dX12_mostEarly_66 ?_
    refine zr_lstore (pc := 69) (lv' := [(7, .long q5.1), (0, .ref (ad 0)), (1, .int v1), (2, .int v2), (3, .int w1), (4, .long w2), (6, .int w3)]) hC (by decide) rfl dX12_mostEarly_69 ?_
    refine zr_lload (pc := 71) hC 0 rfl dX12_mostEarly_71 ?_
    refine zr_lload (pc := 73) hC 5 rfl dX12_mostEarly_73 ?_
    refine zr_lcmp (pc := 75) hC dX12_mostEarly_75 ?_
    refine zr_if_gt (pc := 76) (tgt := 82) hC dX12_mostEarly_76 (by decide) (fun c6 => ?_) (fun c6 => ?_)
    · replace h := zip h c6
      refine zr_lload (pc := 82) hC 0 rfl dX12_mostEarly_82 ?_
      refine zr_lstore (pc := 84) (lv' := [(4, .long q5.1), (7, .long q5.1), (0, .ref (ad 0)), (1, .int v1), (2, .int v2), (3, .int w1), (6, .int w3)]) hC (by decide) rfl dX12_mostEarly_84 ?_
      refine zr_iload (pc := 86) hC 6 rfl dX12_mostEarly_86 ?_
      refine zr_istore_n (pc := 88) (lv' := [(3, .int w3), (4, .long q5.1), (7, .long q5.1), (0, .ref (ad 0)), (1, .int v1), (2, .int v2), (6, .int w3)]) hC rfl (by decide) rfl dX12_mostEarly_88 ?_
      refine zr_iinc (pc := 89) (k := 6) (lv' := [(6, .int (w3 + (1 : Int32))), (3, .int w3), (4, .long q5.1), (7, .long q5.1), (0, .ref (ad 0)), (1, .int v1), (2, .int v2)]) hC zki_1 (by decide) rfl rfl dX12_mostEarly_89 ?_
      refine zr_goto (pc := 92) (tgt := 45) hC dX12_mostEarly_92 (by decide) ?_
      obtain rfl := Option.some.inj h
      exact zV.sub (lv' := [(0, .ref (ad 0)), (1, .int v1), (2, .int v2), (3, .int w3), (4, .long q5.1), (6, .int (w3 + (1 : Int32)))]) [4, 5, 6, 1, 2, 0] rfl (hin q5.2 w3 q5.1 (w3 + (1 : Int32)) rfl)
    · replace h := zin h c6
      refine zr_goto (pc := 79) (tgt := 89) hC dX12_mostEarly_79 (by decide) ?_
      refine zr_iinc (pc := 89) (k := 6) (lv' := [(6, .int (w3 + (1 : Int32))), (7, .long q5.1), (0, .ref (ad 0)), (1, .int v1), (2, .int v2), (3, .int w1), (4, .long w2)]) hC zki_1 (by decide) rfl rfl dX12_mostEarly_89 ?_
      refine zr_goto (pc := 92) (tgt := 45) hC dX12_mostEarly_92 (by decide) ?_
      obtain rfl := Option.some.inj h
      exact zV.sub (lv' := [(0, .ref (ad 0)), (1, .int v1), (2, .int v2), (3, .int w1), (4, .long w2), (6, .int (w3 + (1 : Int32)))]) [2, 3, 4, 5, 6, 0] rfl (hin q5.2 w1 w2 (w3 + (1 : Int32)) rfl)
def xX12_mostEarly (M : zM) (v1 : Int32) : Option (Int32 × zM) :=
  (xX12_isPlayer M v1).bind fun q1 =>
  if q1 = 0 then
  ((xX12_no M (-1 : Int32)).bind fun q11 =>
  some (q11.1, q11.2))
  else
  (xX12_isWhole M).bind fun q3 =>
  if q3 = 0 then
  ((xX12_no M (-3 : Int32)).bind fun q10 =>
  some (q10.1, q10.2))
  else
  zlet (M.1 11 (2 : Int32).toNatClampNeg) fun z5 =>
  (x_it (fun a9 => xX12_mostEarly_L45 v1 z5 a9.1 a9.2.1 a9.2.2.1 a9.2.2.2) zFU (M, (0 : Int32), (-1 : Int64), (0 : Int32))).bind fun q7 =>
  zlet (zsi q7.1 11 (2 : Int32).toNatClampNeg z5) fun M8 =>
  some (q7.2, M8)
set_option maxHeartbeats 4000000 in
set_option maxRecDepth 100000 in
theorem tX12_mostEarly {κ : Nat → ClassId} {E : zEn} {ad : Nat → Nat} (hEk : zEk E) {M : zM} {v1 : Int32} {res : (Int32 × zM)} (h : xX12_mostEarly M v1 = some res) (l : Launch) (D : va_G) : zCT E D vwCl (zty κ) l yX12_mostEarly wsX12_mostEarly ({ frames := 5, cells := 0, slots := 0, locals := 115 } : Room) 0 0 [.ref (ad 0), .int v1] (zwM κ ad M) (zPd (some (.int res.1)) (zwM κ ad res.2)) := by
  refine zCT.of (cc := cX12_mostEarly) (maxL := 9) (ret := (some .int)) (by decide) rfl (Nat.le_of_ble_eq_true rfl) ?_
  intro X hC hR
  unfold xX12_mostEarly at h
  refine zV.sub (lv' := [(0, .ref (ad 0)), (1, .int v1)]) [0, 1] rfl ?_
  refine zr_aload_n (pc := 0) hC 0 rfl rfl dX12_mostEarly_0 ?_
  refine zr_iload_n (pc := 1) hC 1 rfl rfl dX12_mostEarly_1 ?_
  obtain ⟨q1, hq1, h⟩ := zbd h
  refine zr_cVi (pc := 2) hC hEk [.int v1] [] 0 1 (fun l D => tX12_isPlayer hEk hq1 l D) gX12_mostEarly_X12_isPlayer rfl rfl rfl ⟨Nat.le_of_ble_eq_true rfl, Nat.le_of_ble_eq_true rfl⟩ hyX12_isPlayer (by decide) entM_0 rfl rfl rfl (Nat.le_of_ble_eq_true rfl) ⟨Nat.le_of_ble_eq_true rfl, Nat.le_of_ble_eq_true rfl⟩ dX12_mostEarly_2 ?_
  refine zr_if_ne (pc := 5) (tgt := 14) hC dX12_mostEarly_5 (by decide) (fun c2 => ?_) (fun c2 => ?_)
  · replace h := zin h c2
    refine zr_aload_n (pc := 14) hC 0 rfl rfl dX12_mostEarly_14 ?_
    obtain ⟨q3, hq3, h⟩ := zbd h
    refine zr_cVi (pc := 15) hC hEk [] [] 0 0 (fun l D => tX12_isWhole hEk hq3 l D) gX12_mostEarly_X12_isWhole rfl rfl rfl ⟨Nat.le_of_ble_eq_true rfl, Nat.le_of_ble_eq_true rfl⟩ hyX12_isWhole (by decide) entM_0 rfl rfl rfl (Nat.le_of_ble_eq_true rfl) ⟨Nat.le_of_ble_eq_true rfl, Nat.le_of_ble_eq_true rfl⟩ dX12_mostEarly_15 ?_
    refine zr_if_ne (pc := 18) (tgt := 28) hC dX12_mostEarly_18 (by decide) (fun c4 => ?_) (fun c4 => ?_)
    · replace h := zin h c4
      refine zr_aload_n (pc := 28) hC 0 rfl rfl dX12_mostEarly_28 ?_
      refine zmg_10 (pc := 29) hC hinX12_mostEarly_X12 flX12_mostEarly_40 dX12_mostEarly_29 ?_
      refine zr_iconst (pc := 32) hC zki_2 dX12_mostEarly_32 ?_
      refine zml_11 (pc := 33) hC (by decide) dX12_mostEarly_33 ?_
      obtain ⟨z5, e6, h⟩ := zle h
      refine zr_topi e6 ?_
      refine zr_istore_n (pc := 34) (lv' := [(2, .int z5), (0, .ref (ad 0)), (1, .int v1)]) hC rfl (by decide) rfl dX12_mostEarly_34 ?_
      refine zr_iconst (pc := 35) hC zki_0 dX12_mostEarly_35 ?_
      refine zr_istore_n (pc := 36) (lv' := [(3, .int (0 : Int32)), (2, .int z5), (0, .ref (ad 0)), (1, .int v1)]) hC rfl (by decide) rfl dX12_mostEarly_36 ?_
      refine zr_ldc2 (pc := 37) hC flX12_mostEarly_297 dX12_mostEarly_37 ?_
      refine zr_lstore (pc := 40) (lv' := [(4, .long (-1 : Int64)), (3, .int (0 : Int32)), (2, .int z5), (0, .ref (ad 0)), (1, .int v1)]) hC (by decide) rfl dX12_mostEarly_40 ?_
      refine zr_iconst (pc := 42) hC zki_0 dX12_mostEarly_42 ?_
      refine zr_istore (pc := 43) (lv' := [(6, .int (0 : Int32)), (4, .long (-1 : Int64)), (3, .int (0 : Int32)), (2, .int z5), (0, .ref (ad 0)), (1, .int v1)]) hC (by decide) rfl dX12_mostEarly_43 ?_
      obtain ⟨q7, hq7, h⟩ := zbd h
      refine zV.sub (lv' := [(0, .ref (ad 0)), (1, .int v1), (2, .int z5), (3, .int (0 : Int32)), (4, .long (-1 : Int64)), (6, .int (0 : Int32))]) [4, 5, 3, 2, 1, 0] rfl ?_
      refine zit4 (Wp := fun (y0 : zM) (y1 : Int32) (y2 : Int64) (y3 : Int32) => zV X 0 0 (zwM κ ad y0) [(0, .ref (ad 0)), (1, .int v1), (2, .int z5), (3, .int y1), (4, .long y2), (6, .int y3)] [] 45) (Ex := fun (b9 : (zM × Int32)) => zV X 0 0 (zwM κ ad b9.1) [(0, .ref (ad 0)), (2, .int z5), (3, .int b9.2)] [] 95) (fun y0 y1 y2 y3 r9 hr hin hout => tX12_mostEarly_L45 hC hEk hin (fun z0 z1 e9 => hout (z0, z1) e9) hr) zFU M (0 : Int32) (-1 : Int64) (0 : Int32) q7 hq7 ?_
      show zV X 0 0 (zwM κ ad q7.1) [(0, .ref (ad 0)), (2, .int z5), (3, .int q7.2)] [] 95
      refine zr_aload_n (pc := 95) hC 0 rfl rfl dX12_mostEarly_95 ?_
      refine zmg_10 (pc := 96) hC hinX12_mostEarly_X12 flX12_mostEarly_40 dX12_mostEarly_96 ?_
      refine zr_iconst (pc := 99) hC zki_2 dX12_mostEarly_99 ?_
      refine zr_iload_n (pc := 100) hC 1 rfl rfl dX12_mostEarly_100 ?_
      obtain ⟨M8, e9, h⟩ := zle h
      refine zms_11 (pc := 101) hC (by decide) e9 dX12_mostEarly_101 ?_
      refine zr_iload_n (pc := 102) hC 2 rfl rfl dX12_mostEarly_102 ?_
      obtain rfl := Option.some.inj h
      exact zr_iret hC hR ⟨rfl, rfl⟩ (Nat.le_refl _) (Nat.le_refl _) dX12_mostEarly_103
    · replace h := zip h c4
      refine zr_aload_n (pc := 21) hC 0 rfl rfl dX12_mostEarly_21 ?_
      refine zr_bipush (pc := 22) hC zkb_m3 dX12_mostEarly_22 ?_
      obtain ⟨q10, hq10, h⟩ := zbd h
      refine zr_cVi (pc := 24) hC hEk [.int (-3 : Int32)] [] 0 1 (fun l D => tX12_no hEk hq10 l D) gX12_mostEarly_X12_no rfl rfl rfl ⟨Nat.le_of_ble_eq_true rfl, Nat.le_of_ble_eq_true rfl⟩ hyX12_no (by decide) entM_0 rfl rfl rfl (Nat.le_of_ble_eq_true rfl) ⟨Nat.le_of_ble_eq_true rfl, Nat.le_of_ble_eq_true rfl⟩ dX12_mostEarly_24 ?_
      obtain rfl := Option.some.inj h
      exact zr_iret hC hR ⟨rfl, rfl⟩ (Nat.le_refl _) (Nat.le_refl _) dX12_mostEarly_27
  · replace h := zip h c2
    refine zr_aload_n (pc := 8) hC 0 rfl rfl dX12_mostEarly_8 ?_
    refine zr_iconst (pc := 9) hC zki_m1 dX12_mostEarly_9 ?_
    obtain ⟨q11, hq11, h⟩ := zbd h
    refine zr_cVi (pc := 10) hC hEk [.int (-1 : Int32)] [] 0 1 (fun l D => tX12_no hEk hq11 l D) gX12_mostEarly_X12_no rfl rfl rfl ⟨Nat.le_of_ble_eq_true rfl, Nat.le_of_ble_eq_true rfl⟩ hyX12_no (by decide) entM_0 rfl rfl rfl (Nat.le_of_ble_eq_true rfl) ⟨Nat.le_of_ble_eq_true rfl, Nat.le_of_ble_eq_true rfl⟩ dX12_mostEarly_10 ?_
    obtain rfl := Option.some.inj h
    exact zr_iret hC hR ⟨rfl, rfl⟩ (Nat.le_refl _) (Nat.le_refl _) dX12_mostEarly_13
/-! X12_silent -/
theorem hyX12_silent : yX12_silent.cls = RX12 ∧ yX12_silent.cls ≠ "java/lang/invoke/MethodHandle" ∧ yX12_silent.cls ≠ "java/lang/invoke/VarHandle" ∧ (parseMethodDescriptor yX12_silent.desc).map (fun d => d.parameters.length) = some 2 := by decide +kernel
theorem flX12_silent_13 : Cond.fieldLink RX12 13 "BeforeTheEndModel" "parent" "[I" ∈ wsX12_silent := by decide +kernel
theorem flX12_silent_25 : Cond.fieldLink RX12 25 "BeforeTheEndModel" "kind" "[I" ∈ wsX12_silent := by decide +kernel
theorem flX12_silent_75 : Cond.fieldLink RX12 75 "BeforeTheEndModel" "ofAnswer" "[J" ∈ wsX12_silent := by decide +kernel
theorem hinX12_silent_X12 : ∀ w ∈ wsX120, w ∈ wsX12_silent := fun _ h => List.mem_cons_of_mem _ (List.mem_append_right _ h)
def xX12_silent_L76_L66 (M : zM) (v1 : Int32) (v2 : Int32) (v4 : Int32) (w0 : Int32) (w1 : Int32) : Option ((Int32 × Int32) ⊕ Int32) :=
  if w1 ≤ 0 then
  (some (.inr w0))
  else
  if ((((10 : Int32) * w1) + v4) < 0 ∨ 240 ≤ (((10 : Int32) * w1) + v4).toNatClampNeg) then none else
  if (lg_cmp (M.2 21 (((10 : Int32) * w1) + v4).toNatClampNeg) (0 : Int64)) ≤ 0 then
  (if (w1 < 0 ∨ 24 ≤ w1.toNatClampNeg) then none else
  zlet (M.1 2 w1.toNatClampNeg) fun z5 =>
  some (.inl (w0, z5)))
  else
  (xX12_sureOf M v1).bind fun q7 =>
  (xX12_isSure M w1 v4 q7).bind fun q8 =>
  if q8 = 0 then
  (if (w1 < 0 ∨ 24 ≤ w1.toNatClampNeg) then none else
  zlet (M.1 2 w1.toNatClampNeg) fun z11 =>
  some (.inl (w0, z11)))
  else
  zlet (w0 ||| ((1 : Int32) <<< (v4 &&& 31))) fun z13 =>
  if (w1 < 0 ∨ 24 ≤ w1.toNatClampNeg) then none else
  zlet (M.1 2 w1.toNatClampNeg) fun z16 =>
  some (.inl (z13, z16))
set_option maxHeartbeats 4000000 in
set_option maxRecDepth 100000 in
theorem tX12_silent_L76_L66 {κ : Nat → ClassId} {E : zEn} {ad : Nat → Nat} {X : zX} {M : zM} {v1 : Int32} {v2 : Int32} {v4 : Int32} {w0 : Int32} {w1 : Int32} {r : ((Int32 × Int32) ⊕ Int32)} (hC : zC X cX12_silent RX12 wsX12_silent vwCl (zty κ) E 6 ({ frames := 3, cells := 0, slots := 0, locals := 74 } : Room)) (hEk : zEk E) (hin : ∀ (x0' : Int32) (x1' : Int32), r = .inl (x0', x1') → zV X 0 0 (zwM κ ad M) [(0, .ref (ad 0)), (1, .int v1), (2, .int v2), (3, .int x0'), (4, .int v4), (5, .int x1')] [] 76) (hout0 : ∀ (x0' : Int32), r = .inr x0' → zV X 0 0 (zwM κ ad M) [(0, .ref (ad 0)), (1, .int v1), (2, .int v2), (3, .int x0'), (4, .int v4)] [] 134) (h : xX12_silent_L76_L66 M v1 v2 v4 w0 w1 = some r) : zV X 0 0 (zwM κ ad M) [(0, .ref (ad 0)), (1, .int v1), (2, .int v2), (3, .int w0), (4, .int v4), (5, .int w1)] [] 76 := by
  unfold xX12_silent_L76_L66 at h
  refine zr_iload (pc := 76) hC 5 rfl dX12_silent_76 ?_
  refine zr_if_le (pc := 78) (tgt := 134) hC dX12_silent_78 (by decide) (fun c1 => ?_) (fun c1 => ?_)
  · replace h := zip h c1
    obtain rfl := Option.some.inj h
    exact zV.sub (lv' := [(0, .ref (ad 0)), (1, .int v1), (2, .int v2), (3, .int w0), (4, .int v4)]) [0, 1, 2, 3, 4] rfl (hout0 w0 rfl)
  · replace h := zin h c1
    refine zr_aload_n (pc := 81) hC 0 rfl rfl dX12_silent_81 ?_
    refine zmg_25 (pc := 82) hC hinX12_silent_X12 flX12_silent_75 dX12_silent_82 ?_
    refine zr_bipush (pc := 85) hC zkb_10 dX12_silent_85 ?_
    refine zr_iload (pc := 87) hC 5 rfl dX12_silent_87 ?_
    refine zr_imul (pc := 89) hC dX12_silent_89 ?_
    refine zr_iload (pc := 90) hC 4 rfl dX12_silent_90 ?_
    refine zr_iadd (pc := 92) hC dX12_silent_92 ?_
    obtain ⟨i2, h⟩ := zgd h
    refine zml_21 (pc := 93) hC i2 dX12_silent_93 ?_
    refine zr_lconst (pc := 94) hC zkl_0 dX12_silent_94 ?_
    refine zr_lcmp (pc := 95) hC dX12_silent_95 ?_
    refine zr_if_le (pc := 96) (tgt := 122) hC dX12_silent_96 (by decide) (fun c3 => ?_) (fun c3 => ?_)
    · replace h := zip h c3
      refine zr_aload_n (pc := 122) hC 0 rfl rfl dX12_silent_122 ?_
      refine zmg_1 (pc := 123) hC hinX12_silent_X12 flX12_silent_13 dX12_silent_123 ?_
      refine zr_iload (pc := 126) hC 5 rfl dX12_silent_126 ?_
      obtain ⟨i4, h⟩ := zgd h
      refine zml_2 (pc := 128) hC i4 dX12_silent_128 ?_
      obtain ⟨z5, e6, h⟩ := zle h
      refine zr_topi e6 ?_
      refine zr_istore (pc := 129) (lv' := [(5, .int z5), (0, .ref (ad 0)), (1, .int v1), (2, .int v2), (3, .int w0), (4, .int v4)]) hC (by decide) rfl dX12_silent_129 ?_
      refine zr_goto (pc := 131) (tgt := 76) hC dX12_silent_131 (by decide) ?_
      obtain rfl := Option.some.inj h
      exact zV.sub (lv' := [(0, .ref (ad 0)), (1, .int v1), (2, .int v2), (3, .int w0), (4, .int v4), (5, .int z5)]) [1, 2, 3, 4, 5, 0] rfl (hin w0 z5 rfl)
    · replace h := zin h c3
      refine zr_aload_n (pc := 99) hC 0 rfl rfl dX12_silent_99 ?_
      refine zr_iload (pc := 100) hC 5 rfl dX12_silent_100 ?_
      refine zr_iload (pc := 102) hC 4 rfl dX12_silent_102 ?_
      refine zr_aload_n (pc := 104) hC 0 rfl rfl dX12_silent_104 ?_
      refine zr_iload_n (pc := 105) hC 1 rfl rfl dX12_silent_105 ?_
      obtain ⟨q7, hq7, h⟩ := zbd h
      refine zr_cVi (pc := 106) hC hEk [.int v1] [.int v4, .int w1, .ref (ad 0)] 0 1 (fun l D => tX12_sureOf hEk hq7 l D) gX12_silent_X12_sureOf rfl rfl rfl ⟨Nat.le_of_ble_eq_true rfl, Nat.le_of_ble_eq_true rfl⟩ hyX12_sureOf (by decide) entM_0 rfl rfl rfl (Nat.le_of_ble_eq_true rfl) ⟨Nat.le_of_ble_eq_true rfl, Nat.le_of_ble_eq_true rfl⟩ dX12_silent_106 ?_
      obtain ⟨q8, hq8, h⟩ := zbd h
      refine zr_cVi (pc := 109) hC hEk [.int w1, .int v4, .int q7] [] 0 3 (fun l D => tX12_isSure hEk hq8 l D) gX12_silent_X12_isSure rfl rfl rfl ⟨Nat.le_of_ble_eq_true rfl, Nat.le_of_ble_eq_true rfl⟩ hyX12_isSure (by decide) entM_0 rfl rfl rfl (Nat.le_of_ble_eq_true rfl) ⟨Nat.le_of_ble_eq_true rfl, Nat.le_of_ble_eq_true rfl⟩ dX12_silent_109 ?_
      refine zr_if_eq (pc := 112) (tgt := 122) hC dX12_silent_112 (by decide) (fun c9 => ?_) (fun c9 => ?_)
      · replace h := zip h c9
        refine zr_aload_n (pc := 122) hC 0 rfl rfl dX12_silent_122 ?_
        refine zmg_1 (pc := 123) hC hinX12_silent_X12 flX12_silent_13 dX12_silent_123 ?_
        refine zr_iload (pc := 126) hC 5 rfl dX12_silent_126 ?_
        obtain ⟨i10, h⟩ := zgd h
        refine zml_2 (pc := 128) hC i10 dX12_silent_128 ?_
        obtain ⟨z11, e12, h⟩ := zle h
        refine zr_topi e12 ?_
        refine zr_istore (pc := 129) (lv' := [(5, .int z11), (0, .ref (ad 0)), (1, .int v1), (2, .int v2), (3, .int w0), (4, .int v4)]) hC (by decide) rfl dX12_silent_129 ?_
        refine zr_goto (pc := 131) (tgt := 76) hC dX12_silent_131 (by decide) ?_
        obtain rfl := Option.some.inj h
        exact zV.sub (lv' := [(0, .ref (ad 0)), (1, .int v1), (2, .int v2), (3, .int w0), (4, .int v4), (5, .int z11)]) [1, 2, 3, 4, 5, 0] rfl (hin w0 z11 rfl)
      · replace h := zin h c9
        refine zr_iload_n (pc := 115) hC 3 rfl rfl dX12_silent_115 ?_
        refine zr_iconst (pc := 116) hC zki_1 dX12_silent_116 ?_
        refine zr_iload (pc := 117) hC 4 rfl dX12_silent_117 ?_
        refine zr_ishl (pc := 119) hC dX12_silent_119 ?_
        refine zr_ior (pc := 120) hC dX12_silent_120 ?_
        obtain ⟨z13, e14, h⟩ := zle h
        refine zr_topi e14 ?_
        refine zr_istore_n (pc := 121) (lv' := [(3, .int z13), (0, .ref (ad 0)), (1, .int v1), (2, .int v2), (4, .int v4), (5, .int w1)]) hC rfl (by decide) rfl dX12_silent_121 ?_
        refine zr_aload_n (pc := 122) hC 1 rfl rfl dX12_silent_122 ?_
        refine zmg_1 (pc := 123) hC hinX12_silent_X12 flX12_silent_13 dX12_silent_123 ?_
        refine zr_iload (pc := 126) hC 5 rfl dX12_silent_126 ?_
        obtain ⟨i15, h⟩ := zgd h
        refine zml_2 (pc := 128) hC i15 dX12_silent_128 ?_
        obtain ⟨z16, e17, h⟩ := zle h
        refine zr_topi e17 ?_
        refine zr_istore (pc := 129) (lv' := [(5, .int z16), (3, .int z13), (0, .ref (ad 0)), (1, .int v1), (2, .int v2), (4, .int v4)]) hC (by decide) rfl dX12_silent_129 ?_
        refine zr_goto (pc := 131) (tgt := 76) hC dX12_silent_131 (by decide) ?_
        obtain rfl := Option.some.inj h
        exact zV.sub (lv' := [(0, .ref (ad 0)), (1, .int v1), (2, .int v2), (3, .int z13), (4, .int v4), (5, .int z16)]) [2, 3, 4, 1, 5, 0] rfl (hin z13 z16 rfl)
def xX12_silent_L66 (M : zM) (v1 : Int32) (v2 : Int32) (w0 : Int32) (w1 : Int32) : Option ((Int32 × Int32) ⊕ Int32) :=
  if (10 : Int32) ≤ w1 then
  (some (.inr w0))
  else
  (x_it (fun a9 => xX12_silent_L76_L66 M v1 v2 w1 a9.1 a9.2) zFU (w0, v2)).bind fun q2 =>
  some (.inl (q2, (w1 + (1 : Int32))))
set_option maxHeartbeats 4000000 in
set_option maxRecDepth 100000 in
theorem tX12_silent_L66 {κ : Nat → ClassId} {E : zEn} {ad : Nat → Nat} {X : zX} {M : zM} {v1 : Int32} {v2 : Int32} {w0 : Int32} {w1 : Int32} {r : ((Int32 × Int32) ⊕ Int32)} (hC : zC X cX12_silent RX12 wsX12_silent vwCl (zty κ) E 6 ({ frames := 3, cells := 0, slots := 0, locals := 74 } : Room)) (hEk : zEk E) (hin : ∀ (x0' : Int32) (x1' : Int32), r = .inl (x0', x1') → zV X 0 0 (zwM κ ad M) [(0, .ref (ad 0)), (1, .int v1), (2, .int v2), (3, .int x0'), (4, .int x1')] [] 66) (hout0 : ∀ (x0' : Int32), r = .inr x0' → zV X 0 0 (zwM κ ad M) [(3, .int x0')] [] 140) (h : xX12_silent_L66 M v1 v2 w0 w1 = some r) : zV X 0 0 (zwM κ ad M) [(0, .ref (ad 0)), (1, .int v1), (2, .int v2), (3, .int w0), (4, .int w1)] [] 66 := by
  unfold xX12_silent_L66 at h
  refine zr_iload (pc := 66) hC 4 rfl dX12_silent_66 ?_
  refine zr_bipush (pc := 68) hC zkb_10 dX12_silent_68 ?_
  refine zr_icmp_ge (pc := 70) (tgt := 140) hC dX12_silent_70 (by decide) (fun c1 => ?_) (fun c1 => ?_)
  · replace h := zip h c1
    obtain rfl := Option.some.inj h
    exact zV.sub (lv' := [(3, .int w0)]) [3] rfl (hout0 w0 rfl)
  · replace h := zin h c1
    refine zr_iload_n (pc := 73) hC 2 rfl rfl dX12_silent_73 ?_
    refine zr_istore (pc := 74) (lv' := [(5, .int v2), (0, .ref (ad 0)), (1, .int v1), (2, .int v2), (3, .int w0), (4, .int w1)]) hC (by decide) rfl dX12_silent_74 ?_
    obtain ⟨q2, hq2, h⟩ := zbd h
    refine zV.sub (lv' := [(0, .ref (ad 0)), (1, .int v1), (2, .int v2), (3, .int w0), (4, .int w1), (5, .int v2)]) [1, 2, 3, 4, 5, 0] rfl ?_
    refine zit2 (Wp := fun (y0 : Int32) (y1 : Int32) => zV X 0 0 (zwM κ ad M) [(0, .ref (ad 0)), (1, .int v1), (2, .int v2), (3, .int y0), (4, .int w1), (5, .int y1)] [] 76) (Ex := fun (b9 : Int32) => zV X 0 0 (zwM κ ad M) [(0, .ref (ad 0)), (1, .int v1), (2, .int v2), (3, .int b9), (4, .int w1)] [] 134) (fun y0 y1 r9 hr hin hout => tX12_silent_L76_L66 hC hEk hin (fun z0 e9 => hout z0 e9) hr) zFU w0 v2 q2 hq2 ?_
    show zV X 0 0 (zwM κ ad M) [(0, .ref (ad 0)), (1, .int v1), (2, .int v2), (3, .int q2), (4, .int w1)] [] 134
    refine zr_iinc (pc := 134) (k := 4) (lv' := [(4, .int (w1 + (1 : Int32))), (0, .ref (ad 0)), (1, .int v1), (2, .int v2), (3, .int q2)]) hC zki_1 (by decide) rfl rfl dX12_silent_134 ?_
    refine zr_goto (pc := 137) (tgt := 66) hC dX12_silent_137 (by decide) ?_
    obtain rfl := Option.some.inj h
    exact zV.sub (lv' := [(0, .ref (ad 0)), (1, .int v1), (2, .int v2), (3, .int q2), (4, .int (w1 + (1 : Int32)))]) [1, 2, 3, 4, 0] rfl (hin q2 (w1 + (1 : Int32)) rfl)
def xX12_silent (M : zM) (v1 : Int32) (v2 : Int32) : Option (Int32 × zM) :=
  (xX12_isPlayer M v1).bind fun q1 =>
  if q1 = 0 then
  ((xX12_no M (-1 : Int32)).bind fun q3 =>
  some (q3.1, q3.2))
  else
  (xX12_isWord M v2).bind fun q4 =>
  if q4 = 0 then
  ((xX12_no M (-1 : Int32)).bind fun q15 =>
  some (q15.1, q15.2))
  else
  if (v1 < 0 ∨ 4 ≤ v1.toNatClampNeg) then none else
  (xX12_isIn (M.1 6 v1.toNatClampNeg) (1 : Int32) (2 : Int32)).bind fun q7 =>
  if q7 = 0 then
  ((xX12_no M (-2 : Int32)).bind fun q14 =>
  some (q14.1, q14.2))
  else
  (xX12_isWhole M).bind fun q9 =>
  if q9 = 0 then
  ((xX12_no M (-3 : Int32)).bind fun q13 =>
  some (q13.1, q13.2))
  else
  (xX12_findShares M).bind fun q11 =>
  (x_it (fun a9 => xX12_silent_L66 q11 v1 v2 a9.1 a9.2) zFU ((0 : Int32), (1 : Int32))).bind fun q12 =>
  some (q12, q11)
set_option maxHeartbeats 4000000 in
set_option maxRecDepth 100000 in
theorem tX12_silent {κ : Nat → ClassId} {E : zEn} {ad : Nat → Nat} (hEk : zEk E) {M : zM} {v1 : Int32} {v2 : Int32} {res : (Int32 × zM)} (h : xX12_silent M v1 v2 = some res) (l : Launch) (D : va_G) : zCT E D vwCl (zty κ) l yX12_silent wsX12_silent ({ frames := 3, cells := 0, slots := 0, locals := 74 } : Room) 0 0 [.ref (ad 0), .int v1, .int v2] (zwM κ ad M) (zPd (some (.int res.1)) (zwM κ ad res.2)) := by
  refine zCT.of (cc := cX12_silent) (maxL := 6) (ret := (some .int)) (by decide) rfl (Nat.le_of_ble_eq_true rfl) ?_
  intro X hC hR
  unfold xX12_silent at h
  refine zV.sub (lv' := [(0, .ref (ad 0)), (1, .int v1), (2, .int v2)]) [0, 1, 2] rfl ?_
  refine zr_aload_n (pc := 0) hC 0 rfl rfl dX12_silent_0 ?_
  refine zr_iload_n (pc := 1) hC 1 rfl rfl dX12_silent_1 ?_
  obtain ⟨q1, hq1, h⟩ := zbd h
  refine zr_cVi (pc := 2) hC hEk [.int v1] [] 0 1 (fun l D => tX12_isPlayer hEk hq1 l D) gX12_silent_X12_isPlayer rfl rfl rfl ⟨Nat.le_of_ble_eq_true rfl, Nat.le_of_ble_eq_true rfl⟩ hyX12_isPlayer (by decide) entM_0 rfl rfl rfl (Nat.le_of_ble_eq_true rfl) ⟨Nat.le_of_ble_eq_true rfl, Nat.le_of_ble_eq_true rfl⟩ dX12_silent_2 ?_
  refine zr_if_eq (pc := 5) (tgt := 16) hC dX12_silent_5 (by decide) (fun c2 => ?_) (fun c2 => ?_)
  · replace h := zip h c2
    refine zr_aload_n (pc := 16) hC 0 rfl rfl dX12_silent_16 ?_
    refine zr_iconst (pc := 17) hC zki_m1 dX12_silent_17 ?_
    obtain ⟨q3, hq3, h⟩ := zbd h
    refine zr_cVi (pc := 18) hC hEk [.int (-1 : Int32)] [] 0 1 (fun l D => tX12_no hEk hq3 l D) gX12_silent_X12_no rfl rfl rfl ⟨Nat.le_of_ble_eq_true rfl, Nat.le_of_ble_eq_true rfl⟩ hyX12_no (by decide) entM_0 rfl rfl rfl (Nat.le_of_ble_eq_true rfl) ⟨Nat.le_of_ble_eq_true rfl, Nat.le_of_ble_eq_true rfl⟩ dX12_silent_18 ?_
    obtain rfl := Option.some.inj h
    exact zr_iret hC hR ⟨rfl, rfl⟩ (Nat.le_refl _) (Nat.le_refl _) dX12_silent_21
  · replace h := zin h c2
    refine zr_aload_n (pc := 8) hC 0 rfl rfl dX12_silent_8 ?_
    refine zr_iload_n (pc := 9) hC 2 rfl rfl dX12_silent_9 ?_
    obtain ⟨q4, hq4, h⟩ := zbd h
    refine zr_cVi (pc := 10) hC hEk [.int v2] [] 0 1 (fun l D => tX12_isWord hEk hq4 l D) gX12_silent_X12_isWord rfl rfl rfl ⟨Nat.le_of_ble_eq_true rfl, Nat.le_of_ble_eq_true rfl⟩ hyX12_isWord (by decide) entM_0 rfl rfl rfl (Nat.le_of_ble_eq_true rfl) ⟨Nat.le_of_ble_eq_true rfl, Nat.le_of_ble_eq_true rfl⟩ dX12_silent_10 ?_
    refine zr_if_ne (pc := 13) (tgt := 22) hC dX12_silent_13 (by decide) (fun c5 => ?_) (fun c5 => ?_)
    · replace h := zin h c5
      refine zr_aload_n (pc := 22) hC 0 rfl rfl dX12_silent_22 ?_
      refine zmg_5 (pc := 23) hC hinX12_silent_X12 flX12_silent_25 dX12_silent_23 ?_
      refine zr_iload_n (pc := 26) hC 1 rfl rfl dX12_silent_26 ?_
      obtain ⟨i6, h⟩ := zgd h
      refine zml_6 (pc := 27) hC i6 dX12_silent_27 ?_
      refine zr_iconst (pc := 28) hC zki_1 dX12_silent_28 ?_
      refine zr_iconst (pc := 29) hC zki_2 dX12_silent_29 ?_
      obtain ⟨q7, hq7, h⟩ := zbd h
      refine zr_cSi (pc := 30) hC hEk [.int (M.1 6 v1.toNatClampNeg), .int (1 : Int32), .int (2 : Int32)] [] 3 (fun l D => tX12_isIn hEk hq7 l D) gX12_silent_X12_isIn rfl rfl rfl ⟨Nat.le_of_ble_eq_true rfl, Nat.le_of_ble_eq_true rfl⟩ hyX12_isIn rfl rfl (Nat.le_of_ble_eq_true rfl) ⟨Nat.le_of_ble_eq_true rfl, Nat.le_of_ble_eq_true rfl⟩ dX12_silent_30 ?_
      refine zr_if_ne (pc := 33) (tgt := 43) hC dX12_silent_33 (by decide) (fun c8 => ?_) (fun c8 => ?_)
      · replace h := zin h c8
        refine zr_aload_n (pc := 43) hC 0 rfl rfl dX12_silent_43 ?_
        obtain ⟨q9, hq9, h⟩ := zbd h
        refine zr_cVi (pc := 44) hC hEk [] [] 0 0 (fun l D => tX12_isWhole hEk hq9 l D) gX12_silent_X12_isWhole rfl rfl rfl ⟨Nat.le_of_ble_eq_true rfl, Nat.le_of_ble_eq_true rfl⟩ hyX12_isWhole (by decide) entM_0 rfl rfl rfl (Nat.le_of_ble_eq_true rfl) ⟨Nat.le_of_ble_eq_true rfl, Nat.le_of_ble_eq_true rfl⟩ dX12_silent_44 ?_
        refine zr_if_ne (pc := 47) (tgt := 57) hC dX12_silent_47 (by decide) (fun c10 => ?_) (fun c10 => ?_)
        · replace h := zin h c10
          refine zr_aload_n (pc := 57) hC 0 rfl rfl dX12_silent_57 ?_
          obtain ⟨q11, hq11, h⟩ := zbd h
          refine zr_cVv (pc := 58) hC hEk [] [] 0 0 (fun l D => tX12_findShares hEk hq11 l D) gX12_silent_X12_findShares rfl rfl rfl ⟨Nat.le_of_ble_eq_true rfl, Nat.le_of_ble_eq_true rfl⟩ hyX12_findShares (by decide) entM_0 rfl rfl rfl (Nat.le_of_ble_eq_true rfl) ⟨Nat.le_of_ble_eq_true rfl, Nat.le_of_ble_eq_true rfl⟩ dX12_silent_58 ?_
          refine zr_iconst (pc := 61) hC zki_0 dX12_silent_61 ?_
          refine zr_istore_n (pc := 62) (lv' := [(3, .int (0 : Int32)), (0, .ref (ad 0)), (1, .int v1), (2, .int v2)]) hC rfl (by decide) rfl dX12_silent_62 ?_
          refine zr_iconst (pc := 63) hC zki_1 dX12_silent_63 ?_
          refine zr_istore (pc := 64) (lv' := [(4, .int (1 : Int32)), (3, .int (0 : Int32)), (0, .ref (ad 0)), (1, .int v1), (2, .int v2)]) hC (by decide) rfl dX12_silent_64 ?_
          obtain ⟨q12, hq12, h⟩ := zbd h
          refine zV.sub (lv' := [(0, .ref (ad 0)), (1, .int v1), (2, .int v2), (3, .int (0 : Int32)), (4, .int (1 : Int32))]) [2, 3, 4, 1, 0] rfl ?_
          refine zit2 (Wp := fun (y0 : Int32) (y1 : Int32) => zV X 0 0 (zwM κ ad q11) [(0, .ref (ad 0)), (1, .int v1), (2, .int v2), (3, .int y0), (4, .int y1)] [] 66) (Ex := fun (b9 : Int32) => zV X 0 0 (zwM κ ad q11) [(3, .int b9)] [] 140) (fun y0 y1 r9 hr hin hout => tX12_silent_L66 hC hEk hin (fun z0 e9 => hout z0 e9) hr) zFU (0 : Int32) (1 : Int32) q12 hq12 ?_
          show zV X 0 0 (zwM κ ad q11) [(3, .int q12)] [] 140
          refine zr_iload_n (pc := 140) hC 0 rfl rfl dX12_silent_140 ?_
          obtain rfl := Option.some.inj h
          exact zr_iret hC hR ⟨rfl, rfl⟩ (Nat.le_refl _) (Nat.le_refl _) dX12_silent_141
        · replace h := zip h c10
          refine zr_aload_n (pc := 50) hC 0 rfl rfl dX12_silent_50 ?_
          refine zr_bipush (pc := 51) hC zkb_m3 dX12_silent_51 ?_
          obtain ⟨q13, hq13, h⟩ := zbd h
          refine zr_cVi (pc := 53) hC hEk [.int (-3 : Int32)] [] 0 1 (fun l D => tX12_no hEk hq13 l D) gX12_silent_X12_no rfl rfl rfl ⟨Nat.le_of_ble_eq_true rfl, Nat.le_of_ble_eq_true rfl⟩ hyX12_no (by decide) entM_0 rfl rfl rfl (Nat.le_of_ble_eq_true rfl) ⟨Nat.le_of_ble_eq_true rfl, Nat.le_of_ble_eq_true rfl⟩ dX12_silent_53 ?_
          obtain rfl := Option.some.inj h
          exact zr_iret hC hR ⟨rfl, rfl⟩ (Nat.le_refl _) (Nat.le_refl _) dX12_silent_56
      · replace h := zip h c8
        refine zr_aload_n (pc := 36) hC 0 rfl rfl dX12_silent_36 ?_
        refine zr_bipush (pc := 37) hC zkb_m2 dX12_silent_37 ?_
        obtain ⟨q14, hq14, h⟩ := zbd h
        refine zr_cVi (pc := 39) hC hEk [.int (-2 : Int32)] [] 0 1 (fun l D => tX12_no hEk hq14 l D) gX12_silent_X12_no rfl rfl rfl ⟨Nat.le_of_ble_eq_true rfl, Nat.le_of_ble_eq_true rfl⟩ hyX12_no (by decide) entM_0 rfl rfl rfl (Nat.le_of_ble_eq_true rfl) ⟨Nat.le_of_ble_eq_true rfl, Nat.le_of_ble_eq_true rfl⟩ dX12_silent_39 ?_
        obtain rfl := Option.some.inj h
        exact zr_iret hC hR ⟨rfl, rfl⟩ (Nat.le_refl _) (Nat.le_refl _) dX12_silent_42
    · replace h := zip h c5
      refine zr_aload_n (pc := 16) hC 0 rfl rfl dX12_silent_16 ?_
      refine zr_iconst (pc := 17) hC zki_m1 dX12_silent_17 ?_
      obtain ⟨q15, hq15, h⟩ := zbd h
      refine zr_cVi (pc := 18) hC hEk [.int (-1 : Int32)] [] 0 1 (fun l D => tX12_no hEk hq15 l D) gX12_silent_X12_no rfl rfl rfl ⟨Nat.le_of_ble_eq_true rfl, Nat.le_of_ble_eq_true rfl⟩ hyX12_no (by decide) entM_0 rfl rfl rfl (Nat.le_of_ble_eq_true rfl) ⟨Nat.le_of_ble_eq_true rfl, Nat.le_of_ble_eq_true rfl⟩ dX12_silent_18 ?_
      obtain rfl := Option.some.inj h
      exact zr_iret hC hR ⟨rfl, rfl⟩ (Nat.le_refl _) (Nat.le_refl _) dX12_silent_21
/-! X12_partners -/
theorem hyX12_partners : yX12_partners.cls = RX12 ∧ yX12_partners.cls ≠ "java/lang/invoke/MethodHandle" ∧ yX12_partners.cls ≠ "java/lang/invoke/VarHandle" ∧ (parseMethodDescriptor yX12_partners.desc).map (fun d => d.parameters.length) = some 3 := by decide +kernel
theorem flX12_partners_28 : Cond.fieldLink RX12 28 "BeforeTheEndModel" "knows" "[I" ∈ wsX12_partners := by decide +kernel
theorem flX12_partners_75 : Cond.fieldLink RX12 75 "BeforeTheEndModel" "ofAnswer" "[J" ∈ wsX12_partners := by decide +kernel
theorem hinX12_partners_X12 : ∀ w ∈ wsX120, w ∈ wsX12_partners := fun _ h => List.mem_cons_of_mem _ (List.mem_append_right _ h)
def xX12_partners (M : zM) (v1 : Int32) (v2 : Int32) (v3 : Int32) : Option (Int32 × zM) :=
  (xX12_isPlayer M v1).bind fun q1 =>
  if q1 = 0 then
  ((xX12_no M (-1 : Int32)).bind fun q3 =>
  some (q3.1, q3.2))
  else
  (xX12_isPlayer M v2).bind fun q4 =>
  if q4 = 0 then
  ((xX12_no M (-1 : Int32)).bind fun q6 =>
  some (q6.1, q6.2))
  else
  if v1 = v2 then
  ((xX12_no M (-1 : Int32)).bind fun q8 =>
  some (q8.1, q8.2))
  else
  (xX12_isWord M v3).bind fun q9 =>
  if q9 = 0 then
  ((xX12_no M (-1 : Int32)).bind fun q35 =>
  some (q35.1, q35.2))
  else
  (xX12_isWhole M).bind fun q11 =>
  if q11 = 0 then
  ((xX12_no M (-3 : Int32)).bind fun q34 =>
  some (q34.1, q34.2))
  else
  (xX12_findShares M).bind fun q13 =>
  if (v1 < 0 ∨ 4 ≤ v1.toNatClampNeg) then none else
  (xX12_guessOf q13 (q13.1 7 v1.toNatClampNeg) v3).bind fun q15 =>
  if (v2 < 0 ∨ 4 ≤ v2.toNatClampNeg) then none else
  (xX12_guessOf q13 (q13.1 7 v2.toNatClampNeg) v3).bind fun q17 =>
  if q15 = 0 then
  (if q17 = 0 then
  (some ((-9 : Int32), q13))
  else
  if q15 = 0 then
  (if q15 = 0 then
  (some (v2, q13))
  else
  some (v1, q13))
  else
  if q17 = 0 then
  (if q15 = 0 then
  (some (v2, q13))
  else
  some (v1, q13))
  else
  if ((((10 : Int32) * v3) + q17) < 0 ∨ 240 ≤ (((10 : Int32) * v3) + q17).toNatClampNeg) then none else
  if ((((10 : Int32) * v3) + q15) < 0 ∨ 240 ≤ (((10 : Int32) * v3) + q15).toNatClampNeg) then none else
  if (lg_cmp (q13.2 21 (((10 : Int32) * v3) + q17).toNatClampNeg) (q13.2 21 (((10 : Int32) * v3) + q15).toNatClampNeg)) ≤ 0 then
  (some (v1, q13))
  else
  some (v2, q13))
  else
  if q15 = 0 then
  (if q15 = 0 then
  (some (v2, q13))
  else
  some (v1, q13))
  else
  if q17 = 0 then
  (if q15 = 0 then
  (some (v2, q13))
  else
  some (v1, q13))
  else
  if ((((10 : Int32) * v3) + q17) < 0 ∨ 240 ≤ (((10 : Int32) * v3) + q17).toNatClampNeg) then none else
  if ((((10 : Int32) * v3) + q15) < 0 ∨ 240 ≤ (((10 : Int32) * v3) + q15).toNatClampNeg) then none else
  if (lg_cmp (q13.2 21 (((10 : Int32) * v3) + q17).toNatClampNeg) (q13.2 21 (((10 : Int32) * v3) + q15).toNatClampNeg)) ≤ 0 then
  (some (v1, q13))
  else
  some (v2, q13)
set_option maxHeartbeats 4000000 in
set_option maxRecDepth 100000 in
theorem tX12_partners {κ : Nat → ClassId} {E : zEn} {ad : Nat → Nat} (hEk : zEk E) {M : zM} {v1 : Int32} {v2 : Int32} {v3 : Int32} {res : (Int32 × zM)} (h : xX12_partners M v1 v2 v3 = some res) (l : Launch) (D : va_G) : zCT E D vwCl (zty κ) l yX12_partners wsX12_partners ({ frames := 3, cells := 0, slots := 0, locals := 74 } : Room) 0 0 [.ref (ad 0), .int v1, .int v2, .int v3] (zwM κ ad M) (zPd (some (.int res.1)) (zwM κ ad res.2)) := by
  refine zCT.of (cc := cX12_partners) (maxL := 6) (ret := (some .int)) (by decide) rfl (Nat.le_of_ble_eq_true rfl) ?_
  intro X hC hR
  unfold xX12_partners at h
  refine zV.sub (lv' := [(0, .ref (ad 0)), (1, .int v1), (2, .int v2), (3, .int v3)]) [0, 1, 2, 3] rfl ?_
  refine zr_aload_n (pc := 0) hC 0 rfl rfl dX12_partners_0 ?_
  refine zr_iload_n (pc := 1) hC 1 rfl rfl dX12_partners_1 ?_
  obtain ⟨q1, hq1, h⟩ := zbd h
  refine zr_cVi (pc := 2) hC hEk [.int v1] [] 0 1 (fun l D => tX12_isPlayer hEk hq1 l D) gX12_partners_X12_isPlayer rfl rfl rfl ⟨Nat.le_of_ble_eq_true rfl, Nat.le_of_ble_eq_true rfl⟩ hyX12_isPlayer (by decide) entM_0 rfl rfl rfl (Nat.le_of_ble_eq_true rfl) ⟨Nat.le_of_ble_eq_true rfl, Nat.le_of_ble_eq_true rfl⟩ dX12_partners_2 ?_
  refine zr_if_eq (pc := 5) (tgt := 29) hC dX12_partners_5 (by decide) (fun c2 => ?_) (fun c2 => ?_)
  · replace h := zip h c2
    refine zr_aload_n (pc := 29) hC 0 rfl rfl dX12_partners_29 ?_
    refine zr_iconst (pc := 30) hC zki_m1 dX12_partners_30 ?_
    obtain ⟨q3, hq3, h⟩ := zbd h
    refine zr_cVi (pc := 31) hC hEk [.int (-1 : Int32)] [] 0 1 (fun l D => tX12_no hEk hq3 l D) gX12_partners_X12_no rfl rfl rfl ⟨Nat.le_of_ble_eq_true rfl, Nat.le_of_ble_eq_true rfl⟩ hyX12_no (by decide) entM_0 rfl rfl rfl (Nat.le_of_ble_eq_true rfl) ⟨Nat.le_of_ble_eq_true rfl, Nat.le_of_ble_eq_true rfl⟩ dX12_partners_31 ?_
    obtain rfl := Option.some.inj h
    exact zr_iret hC hR ⟨rfl, rfl⟩ (Nat.le_refl _) (Nat.le_refl _) dX12_partners_34
  · replace h := zin h c2
    refine zr_aload_n (pc := 8) hC 0 rfl rfl dX12_partners_8 ?_
    refine zr_iload_n (pc := 9) hC 2 rfl rfl dX12_partners_9 ?_
    obtain ⟨q4, hq4, h⟩ := zbd h
    refine zr_cVi (pc := 10) hC hEk [.int v2] [] 0 1 (fun l D => tX12_isPlayer hEk hq4 l D) gX12_partners_X12_isPlayer rfl rfl rfl ⟨Nat.le_of_ble_eq_true rfl, Nat.le_of_ble_eq_true rfl⟩ hyX12_isPlayer (by decide) entM_0 rfl rfl rfl (Nat.le_of_ble_eq_true rfl) ⟨Nat.le_of_ble_eq_true rfl, Nat.le_of_ble_eq_true rfl⟩ dX12_partners_10 ?_
    refine zr_if_eq (pc := 13) (tgt := 29) hC dX12_partners_13 (by decide) (fun c5 => ?_) (fun c5 => ?_)
    · replace h := zip h c5
      refine zr_aload_n (pc := 29) hC 0 rfl rfl dX12_partners_29 ?_
      refine zr_iconst (pc := 30) hC zki_m1 dX12_partners_30 ?_
      obtain ⟨q6, hq6, h⟩ := zbd h
      refine zr_cVi (pc := 31) hC hEk [.int (-1 : Int32)] [] 0 1 (fun l D => tX12_no hEk hq6 l D) gX12_partners_X12_no rfl rfl rfl ⟨Nat.le_of_ble_eq_true rfl, Nat.le_of_ble_eq_true rfl⟩ hyX12_no (by decide) entM_0 rfl rfl rfl (Nat.le_of_ble_eq_true rfl) ⟨Nat.le_of_ble_eq_true rfl, Nat.le_of_ble_eq_true rfl⟩ dX12_partners_31 ?_
      obtain rfl := Option.some.inj h
      exact zr_iret hC hR ⟨rfl, rfl⟩ (Nat.le_refl _) (Nat.le_refl _) dX12_partners_34
    · replace h := zin h c5
      refine zr_iload_n (pc := 16) hC 1 rfl rfl dX12_partners_16 ?_
      refine zr_iload_n (pc := 17) hC 2 rfl rfl dX12_partners_17 ?_
      refine zr_icmp_eq (pc := 18) (tgt := 29) hC dX12_partners_18 (by decide) (fun c7 => ?_) (fun c7 => ?_)
      · replace h := zip h c7
        refine zr_aload_n (pc := 29) hC 0 rfl rfl dX12_partners_29 ?_
        refine zr_iconst (pc := 30) hC zki_m1 dX12_partners_30 ?_
        obtain ⟨q8, hq8, h⟩ := zbd h
        refine zr_cVi (pc := 31) hC hEk [.int (-1 : Int32)] [] 0 1 (fun l D => tX12_no hEk hq8 l D) gX12_partners_X12_no rfl rfl rfl ⟨Nat.le_of_ble_eq_true rfl, Nat.le_of_ble_eq_true rfl⟩ hyX12_no (by decide) entM_0 rfl rfl rfl (Nat.le_of_ble_eq_true rfl) ⟨Nat.le_of_ble_eq_true rfl, Nat.le_of_ble_eq_true rfl⟩ dX12_partners_31 ?_
        obtain rfl := Option.some.inj h
        exact zr_iret hC hR ⟨rfl, rfl⟩ (Nat.le_refl _) (Nat.le_refl _) dX12_partners_34
      · replace h := zin h c7
        refine zr_aload_n (pc := 21) hC 0 rfl rfl dX12_partners_21 ?_
        refine zr_iload_n (pc := 22) hC 3 rfl rfl dX12_partners_22 ?_
        obtain ⟨q9, hq9, h⟩ := zbd h
        refine zr_cVi (pc := 23) hC hEk [.int v3] [] 0 1 (fun l D => tX12_isWord hEk hq9 l D) gX12_partners_X12_isWord rfl rfl rfl ⟨Nat.le_of_ble_eq_true rfl, Nat.le_of_ble_eq_true rfl⟩ hyX12_isWord (by decide) entM_0 rfl rfl rfl (Nat.le_of_ble_eq_true rfl) ⟨Nat.le_of_ble_eq_true rfl, Nat.le_of_ble_eq_true rfl⟩ dX12_partners_23 ?_
        refine zr_if_ne (pc := 26) (tgt := 35) hC dX12_partners_26 (by decide) (fun c10 => ?_) (fun c10 => ?_)
        · replace h := zin h c10
          refine zr_aload_n (pc := 35) hC 0 rfl rfl dX12_partners_35 ?_
          obtain ⟨q11, hq11, h⟩ := zbd h
          refine zr_cVi (pc := 36) hC hEk [] [] 0 0 (fun l D => tX12_isWhole hEk hq11 l D) gX12_partners_X12_isWhole rfl rfl rfl ⟨Nat.le_of_ble_eq_true rfl, Nat.le_of_ble_eq_true rfl⟩ hyX12_isWhole (by decide) entM_0 rfl rfl rfl (Nat.le_of_ble_eq_true rfl) ⟨Nat.le_of_ble_eq_true rfl, Nat.le_of_ble_eq_true rfl⟩ dX12_partners_36 ?_
          refine zr_if_ne (pc := 39) (tgt := 49) hC dX12_partners_39 (by decide) (fun c12 => ?_) (fun c12 => ?_)
          · replace h := zin h c12
            refine zr_aload_n (pc := 49) hC 0 rfl rfl dX12_partners_49 ?_
            obtain ⟨q13, hq13, h⟩ := zbd h
            refine zr_cVv (pc := 50) hC hEk [] [] 0 0 (fun l D => tX12_findShares hEk hq13 l D) gX12_partners_X12_findShares rfl rfl rfl ⟨Nat.le_of_ble_eq_true rfl, Nat.le_of_ble_eq_true rfl⟩ hyX12_findShares (by decide) entM_0 rfl rfl rfl (Nat.le_of_ble_eq_true rfl) ⟨Nat.le_of_ble_eq_true rfl, Nat.le_of_ble_eq_true rfl⟩ dX12_partners_50 ?_
            refine zr_aload_n (pc := 53) hC 0 rfl rfl dX12_partners_53 ?_
            refine zr_aload_n (pc := 54) hC 0 rfl rfl dX12_partners_54 ?_
            refine zmg_6 (pc := 55) hC hinX12_partners_X12 flX12_partners_28 dX12_partners_55 ?_
            refine zr_iload_n (pc := 58) hC 1 rfl rfl dX12_partners_58 ?_
            obtain ⟨i14, h⟩ := zgd h
            refine zml_7 (pc := 59) hC i14 dX12_partners_59 ?_
            refine zr_iload_n (pc := 60) hC 3 rfl rfl dX12_partners_60 ?_
            obtain ⟨q15, hq15, h⟩ := zbd h
            refine zr_cVi (pc := 61) hC hEk [.int (q13.1 7 v1.toNatClampNeg), .int v3] [] 0 2 (fun l D => tX12_guessOf hEk hq15 l D) gX12_partners_X12_guessOf rfl rfl rfl ⟨Nat.le_of_ble_eq_true rfl, Nat.le_of_ble_eq_true rfl⟩ hyX12_guessOf (by decide) entM_0 rfl rfl rfl (Nat.le_of_ble_eq_true rfl) ⟨Nat.le_of_ble_eq_true rfl, Nat.le_of_ble_eq_true rfl⟩ dX12_partners_61 ?_
            refine zr_istore (pc := 64) (lv' := [(4, .int q15), (0, .ref (ad 0)), (1, .int v1), (2, .int v2), (3, .int v3)]) hC (by decide) rfl dX12_partners_64 ?_
            refine zr_aload_n (pc := 66) hC 1 rfl rfl dX12_partners_66 ?_
            refine zr_aload_n (pc := 67) hC 1 rfl rfl dX12_partners_67 ?_
            refine zmg_6 (pc := 68) hC hinX12_partners_X12 flX12_partners_28 dX12_partners_68 ?_
            refine zr_iload_n (pc := 71) hC 3 rfl rfl dX12_partners_71 ?_
            obtain ⟨i16, h⟩ := zgd h
            refine zml_7 (pc := 72) hC i16 dX12_partners_72 ?_
            refine zr_iload_n (pc := 73) hC 4 rfl rfl dX12_partners_73 ?_
            obtain ⟨q17, hq17, h⟩ := zbd h
            refine zr_cVi (pc := 74) hC hEk [.int (q13.1 7 v2.toNatClampNeg), .int v3] [] 0 2 (fun l D => tX12_guessOf hEk hq17 l D) gX12_partners_X12_guessOf rfl rfl rfl ⟨Nat.le_of_ble_eq_true rfl, Nat.le_of_ble_eq_true rfl⟩ hyX12_guessOf (by decide) entM_0 rfl rfl rfl (Nat.le_of_ble_eq_true rfl) ⟨Nat.le_of_ble_eq_true rfl, Nat.le_of_ble_eq_true rfl⟩ dX12_partners_74 ?_
            refine zr_istore (pc := 77) (lv' := [(5, .int q17), (4, .int q15), (0, .ref (ad 0)), (1, .int v1), (2, .int v2), (3, .int v3)]) hC (by decide) rfl dX12_partners_77 ?_
            refine zr_iload (pc := 79) hC 1 rfl dX12_partners_79 ?_
            refine zr_if_ne (pc := 81) (tgt := 92) hC dX12_partners_81 (by decide) (fun c18 => ?_) (fun c18 => ?_)
            · replace h := zin h c18
              refine zr_iload (pc := 92) hC 1 rfl dX12_partners_92 ?_
              refine zr_if_eq (pc := 94) (tgt := 102) hC dX12_partners_94 (by decide) (fun c19 => ?_) (fun c19 => ?_)
              · replace h := zip h c19
                refine zr_iload (pc := 102) hC 1 rfl dX12_partners_102 ?_
                refine zr_if_ne (pc := 104) (tgt := 111) hC dX12_partners_104 (by decide) (fun c20 => ?_) (fun c20 => ?_)
                · replace h := zin h c20
                  refine zr_iload_n (pc := 111) hC 3 rfl rfl dX12_partners_111 ?_
                  obtain rfl := Option.some.inj h
                  exact zr_iret hC hR ⟨rfl, rfl⟩ (Nat.le_refl _) (Nat.le_refl _) dX12_partners_112
                · replace h := zip h c20
                  refine zr_iload_n (pc := 107) hC 4 rfl rfl dX12_partners_107 ?_
                  refine zr_goto (pc := 108) (tgt := 112) hC dX12_partners_108 (by decide) ?_
                  obtain rfl := Option.some.inj h
                  exact zr_iret hC hR ⟨rfl, rfl⟩ (Nat.le_refl _) (Nat.le_refl _) dX12_partners_112
              · replace h := zin h c19
                refine zr_iload (pc := 97) hC 0 rfl dX12_partners_97 ?_
                refine zr_if_ne (pc := 99) (tgt := 113) hC dX12_partners_99 (by decide) (fun c21 => ?_) (fun c21 => ?_)
                · replace h := zin h c21
                  refine zr_aload_n (pc := 113) hC 2 rfl rfl dX12_partners_113 ?_
                  refine zmg_25 (pc := 114) hC hinX12_partners_X12 flX12_partners_75 dX12_partners_114 ?_
                  refine zr_bipush (pc := 117) hC zkb_10 dX12_partners_117 ?_
                  refine zr_iload_n (pc := 119) hC 5 rfl rfl dX12_partners_119 ?_
                  refine zr_imul (pc := 120) hC dX12_partners_120 ?_
                  refine zr_iload (pc := 121) hC 0 rfl dX12_partners_121 ?_
                  refine zr_iadd (pc := 123) hC dX12_partners_123 ?_
                  obtain ⟨i22, h⟩ := zgd h
                  refine zml_21 (pc := 124) hC i22 dX12_partners_124 ?_
                  refine zr_aload_n (pc := 125) hC 2 rfl rfl dX12_partners_125 ?_
                  refine zmg_25 (pc := 126) hC hinX12_partners_X12 flX12_partners_75 dX12_partners_126 ?_
                  refine zr_bipush (pc := 129) hC zkb_10 dX12_partners_129 ?_
                  refine zr_iload_n (pc := 131) hC 5 rfl rfl dX12_partners_131 ?_
                  refine zr_imul (pc := 132) hC dX12_partners_132 ?_
                  refine zr_iload (pc := 133) hC 1 rfl dX12_partners_133 ?_
                  refine zr_iadd (pc := 135) hC dX12_partners_135 ?_
                  obtain ⟨i23, h⟩ := zgd h
                  refine zml_21 (pc := 136) hC i23 dX12_partners_136 ?_
                  refine zr_lcmp (pc := 137) hC dX12_partners_137 ?_
                  refine zr_if_le (pc := 138) (tgt := 145) hC dX12_partners_138 (by decide) (fun c24 => ?_) (fun c24 => ?_)
                  · replace h := zip h c24
                    refine zr_iload_n (pc := 145) hC 3 rfl rfl dX12_partners_145 ?_
                    obtain rfl := Option.some.inj h
                    exact zr_iret hC hR ⟨rfl, rfl⟩ (Nat.le_refl _) (Nat.le_refl _) dX12_partners_146
                  · replace h := zin h c24
                    refine zr_iload_n (pc := 141) hC 4 rfl rfl dX12_partners_141 ?_
                    refine zr_goto (pc := 142) (tgt := 146) hC dX12_partners_142 (by decide) ?_
                    obtain rfl := Option.some.inj h
                    exact zr_iret hC hR ⟨rfl, rfl⟩ (Nat.le_refl _) (Nat.le_refl _) dX12_partners_146
                · replace h := zip h c21
                  refine zr_iload (pc := 102) hC 1 rfl dX12_partners_102 ?_
                  refine zr_if_ne (pc := 104) (tgt := 111) hC dX12_partners_104 (by decide) (fun c25 => ?_) (fun c25 => ?_)
                  · replace h := zin h c25
                    refine zr_iload_n (pc := 111) hC 3 rfl rfl dX12_partners_111 ?_
                    obtain rfl := Option.some.inj h
                    exact zr_iret hC hR ⟨rfl, rfl⟩ (Nat.le_refl _) (Nat.le_refl _) dX12_partners_112
                  · replace h := zip h c25
                    refine zr_iload_n (pc := 107) hC 4 rfl rfl dX12_partners_107 ?_
                    refine zr_goto (pc := 108) (tgt := 112) hC dX12_partners_108 (by decide) ?_
                    obtain rfl := Option.some.inj h
                    exact zr_iret hC hR ⟨rfl, rfl⟩ (Nat.le_refl _) (Nat.le_refl _) dX12_partners_112
            · replace h := zip h c18
              refine zr_iload (pc := 84) hC 0 rfl dX12_partners_84 ?_
              refine zr_if_ne (pc := 86) (tgt := 92) hC dX12_partners_86 (by decide) (fun c26 => ?_) (fun c26 => ?_)
              · replace h := zin h c26
                refine zr_iload (pc := 92) hC 1 rfl dX12_partners_92 ?_
                refine zr_if_eq (pc := 94) (tgt := 102) hC dX12_partners_94 (by decide) (fun c27 => ?_) (fun c27 => ?_)
                · replace h := zip h c27
                  refine zr_iload (pc := 102) hC 1 rfl dX12_partners_102 ?_
                  refine zr_if_ne (pc := 104) (tgt := 111) hC dX12_partners_104 (by decide) (fun c28 => ?_) (fun c28 => ?_)
                  · replace h := zin h c28
                    refine zr_iload_n (pc := 111) hC 3 rfl rfl dX12_partners_111 ?_
                    obtain rfl := Option.some.inj h
                    exact zr_iret hC hR ⟨rfl, rfl⟩ (Nat.le_refl _) (Nat.le_refl _) dX12_partners_112
                  · replace h := zip h c28
                    refine zr_iload_n (pc := 107) hC 4 rfl rfl dX12_partners_107 ?_
                    refine zr_goto (pc := 108) (tgt := 112) hC dX12_partners_108 (by decide) ?_
                    obtain rfl := Option.some.inj h
                    exact zr_iret hC hR ⟨rfl, rfl⟩ (Nat.le_refl _) (Nat.le_refl _) dX12_partners_112
                · replace h := zin h c27
                  refine zr_iload (pc := 97) hC 0 rfl dX12_partners_97 ?_
                  refine zr_if_ne (pc := 99) (tgt := 113) hC dX12_partners_99 (by decide) (fun c29 => ?_) (fun c29 => ?_)
                  · replace h := zin h c29
                    refine zr_aload_n (pc := 113) hC 2 rfl rfl dX12_partners_113 ?_
                    refine zmg_25 (pc := 114) hC hinX12_partners_X12 flX12_partners_75 dX12_partners_114 ?_
                    refine zr_bipush (pc := 117) hC zkb_10 dX12_partners_117 ?_
                    refine zr_iload_n (pc := 119) hC 5 rfl rfl dX12_partners_119 ?_
                    refine zr_imul (pc := 120) hC dX12_partners_120 ?_
                    refine zr_iload (pc := 121) hC 0 rfl dX12_partners_121 ?_
                    refine zr_iadd (pc := 123) hC dX12_partners_123 ?_
                    obtain ⟨i30, h⟩ := zgd h
                    refine zml_21 (pc := 124) hC i30 dX12_partners_124 ?_
                    refine zr_aload_n (pc := 125) hC 2 rfl rfl dX12_partners_125 ?_
                    refine zmg_25 (pc := 126) hC hinX12_partners_X12 flX12_partners_75 dX12_partners_126 ?_
                    refine zr_bipush (pc := 129) hC zkb_10 dX12_partners_129 ?_
                    refine zr_iload_n (pc := 131) hC 5 rfl rfl dX12_partners_131 ?_
                    refine zr_imul (pc := 132) hC dX12_partners_132 ?_
                    refine zr_iload (pc := 133) hC 1 rfl dX12_partners_133 ?_
                    refine zr_iadd (pc := 135) hC dX12_partners_135 ?_
                    obtain ⟨i31, h⟩ := zgd h
                    refine zml_21 (pc := 136) hC i31 dX12_partners_136 ?_
                    refine zr_lcmp (pc := 137) hC dX12_partners_137 ?_
                    refine zr_if_le (pc := 138) (tgt := 145) hC dX12_partners_138 (by decide) (fun c32 => ?_) (fun c32 => ?_)
                    · replace h := zip h c32
                      refine zr_iload_n (pc := 145) hC 3 rfl rfl dX12_partners_145 ?_
                      obtain rfl := Option.some.inj h
                      exact zr_iret hC hR ⟨rfl, rfl⟩ (Nat.le_refl _) (Nat.le_refl _) dX12_partners_146
                    · replace h := zin h c32
                      refine zr_iload_n (pc := 141) hC 4 rfl rfl dX12_partners_141 ?_
                      refine zr_goto (pc := 142) (tgt := 146) hC dX12_partners_142 (by decide) ?_
                      obtain rfl := Option.some.inj h
                      exact zr_iret hC hR ⟨rfl, rfl⟩ (Nat.le_refl _) (Nat.le_refl _) dX12_partners_146
                  · replace h := zip h c29
                    refine zr_iload (pc := 102) hC 1 rfl dX12_partners_102 ?_
                    refine zr_if_ne (pc := 104) (tgt := 111) hC dX12_partners_104 (by decide) (fun c33 => ?_) (fun c33 => ?_)
                    · replace h := zin h c33
                      refine zr_iload_n (pc := 111) hC 3 rfl rfl dX12_partners_111 ?_
                      obtain rfl := Option.some.inj h
                      exact zr_iret hC hR ⟨rfl, rfl⟩ (Nat.le_refl _) (Nat.le_refl _) dX12_partners_112
                    · replace h := zip h c33
                      refine zr_iload_n (pc := 107) hC 4 rfl rfl dX12_partners_107 ?_
                      refine zr_goto (pc := 108) (tgt := 112) hC dX12_partners_108 (by decide) ?_
                      obtain rfl := Option.some.inj h
                      exact zr_iret hC hR ⟨rfl, rfl⟩ (Nat.le_refl _) (Nat.le_refl _) dX12_partners_112
              · replace h := zip h c26
                refine zr_bipush (pc := 89) hC zkb_m9 dX12_partners_89 ?_
                obtain rfl := Option.some.inj h
                exact zr_iret hC hR ⟨rfl, rfl⟩ (Nat.le_refl _) (Nat.le_refl _) dX12_partners_91
          · replace h := zip h c12
            refine zr_aload_n (pc := 42) hC 0 rfl rfl dX12_partners_42 ?_
            refine zr_bipush (pc := 43) hC zkb_m3 dX12_partners_43 ?_
            obtain ⟨q34, hq34, h⟩ := zbd h
            refine zr_cVi (pc := 45) hC hEk [.int (-3 : Int32)] [] 0 1 (fun l D => tX12_no hEk hq34 l D) gX12_partners_X12_no rfl rfl rfl ⟨Nat.le_of_ble_eq_true rfl, Nat.le_of_ble_eq_true rfl⟩ hyX12_no (by decide) entM_0 rfl rfl rfl (Nat.le_of_ble_eq_true rfl) ⟨Nat.le_of_ble_eq_true rfl, Nat.le_of_ble_eq_true rfl⟩ dX12_partners_45 ?_
            obtain rfl := Option.some.inj h
            exact zr_iret hC hR ⟨rfl, rfl⟩ (Nat.le_refl _) (Nat.le_refl _) dX12_partners_48
        · replace h := zip h c10
          refine zr_aload_n (pc := 29) hC 0 rfl rfl dX12_partners_29 ?_
          refine zr_iconst (pc := 30) hC zki_m1 dX12_partners_30 ?_
          obtain ⟨q35, hq35, h⟩ := zbd h
          refine zr_cVi (pc := 31) hC hEk [.int (-1 : Int32)] [] 0 1 (fun l D => tX12_no hEk hq35 l D) gX12_partners_X12_no rfl rfl rfl ⟨Nat.le_of_ble_eq_true rfl, Nat.le_of_ble_eq_true rfl⟩ hyX12_no (by decide) entM_0 rfl rfl rfl (Nat.le_of_ble_eq_true rfl) ⟨Nat.le_of_ble_eq_true rfl, Nat.le_of_ble_eq_true rfl⟩ dX12_partners_31 ?_
          obtain rfl := Option.some.inj h
          exact zr_iret hC hR ⟨rfl, rfl⟩ (Nat.le_refl _) (Nat.le_refl _) dX12_partners_34
