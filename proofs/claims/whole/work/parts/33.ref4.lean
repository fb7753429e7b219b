/-! X12_fact -/
theorem hyX12_fact : yX12_fact.cls = RX12 ∧ yX12_fact.cls ≠ "java/lang/invoke/MethodHandle" ∧ yX12_fact.cls ≠ "java/lang/invoke/VarHandle" ∧ (parseMethodDescriptor yX12_fact.desc).map (fun d => d.parameters.length) = some 1 := by decide +kernel
theorem flX12_fact_299 : Cond.fieldLink RX12 299 "BeforeTheEndModel" "facts" "I" ∈ wsX12_fact := by decide +kernel
theorem flX12_fact_96 : Cond.fieldLink RX12 96 "BeforeTheEndModel" "fact" "[I" ∈ wsX12_fact := by decide +kernel
theorem hinX12_fact_X12 : ∀ w ∈ wsX120, w ∈ wsX12_fact := fun _ h => List.mem_cons_of_mem _ (List.mem_append_right _ h)
def xX12_fact (M : zM) (v1 : Int32) : Option (Int32 × zM) :=
  (xX12_isIn v1 (0 : Int32) (1022 : Int32)).bind fun q1 =>
  if q1 = 0 then
  ((xX12_no M (-1 : Int32)).bind fun q3 =>
  some (q3.1, q3.2))
  else
  if (v1 - v1 / (2 : Int32) * (2 : Int32)) = 0 then
  (if (M.1 0 44) = (5 : Int32) then
  ((xX12_no M (-6 : Int32)).bind fun q11 =>
  some (q11.1, q11.2))
  else
  if ((M.1 0 44) < 0 ∨ 5 ≤ (M.1 0 44).toNatClampNeg) then none else
  zlet (zsi M 28 (M.1 0 44).toNatClampNeg v1) fun M7 =>
  zlet (zsi M7 0 44 ((M7.1 0 44) + (1 : Int32))) fun M9 =>
  some (((M9.1 0 44) - (1 : Int32)), M9))
  else
  (xX12_no M (-1 : Int32)).bind fun q12 =>
  some (q12.1, q12.2)
set_option maxHeartbeats 4000000 in
set_option maxRecDepth 100000 in
theorem tX12_fact {κ : Nat → ClassId} {E : zEn} {ad : Nat → Nat} (hEk : zEk E) {M : zM} {v1 : Int32} {res : (Int32 × zM)} (h : xX12_fact M v1 = some res) (l : Launch) (D : va_G) : zCT E D vwCl (zty κ) l yX12_fact wsX12_fact ({ frames := 1, cells := 0, slots := 0, locals := 22 } : Room) 0 0 [.ref (ad 0), .int v1] (zwM κ ad M) (zPd (some (.int res.1)) (zwM κ ad res.2)) := by
  refine zCT.of (cc := cX12_fact) (maxL := 2) (ret := (some .int)) (by decide) rfl (Nat.le_of_ble_eq_true rfl) ?_
  intro X hC hR
  unfold xX12_fact at h
  refine zV.sub (lv' := [(0, .ref (ad 0)), (1, .int v1)]) [0, 1] rfl ?_
  refine zr_iload_n (pc := 0) hC 1 rfl rfl dX12_fact_0 ?_
  refine zr_iconst (pc := 1) hC zki_0 dX12_fact_1 ?_
  refine zr_sipush (pc := 2) hC zks_1022 dX12_fact_2 ?_
  obtain ⟨q1, hq1, h⟩ := zbd h
  refine zr_cSi (pc := 5) hC hEk [.int v1, .int (0 : Int32), .int (1022 : Int32)] [] 3 (fun l D => tX12_isIn hEk hq1 l D) gX12_fact_X12_isIn rfl rfl rfl ⟨Nat.le_of_ble_eq_true rfl, Nat.le_of_ble_eq_true rfl⟩ hyX12_isIn rfl rfl (Nat.le_of_ble_eq_true rfl) ⟨Nat.le_of_ble_eq_true rfl, Nat.le_of_ble_eq_true rfl⟩ dX12_fact_5 ?_
  refine zr_if_eq (pc := 8) (tgt := 17) hC dX12_fact_8 (by decide) (fun c2 => ?_) (fun c2 => ?_)
  · replace h := zip h c2
    refine zr_aload_n (pc := 17) hC 0 rfl rfl dX12_fact_17 ?_
    refine zr_iconst (pc := 18) hC zki_m1 dX12_fact_18 ?_
    obtain ⟨q3, hq3, h⟩ := zbd h
    refine zr_cVi (pc := 19) hC hEk [.int (-1 : Int32)] [] 0 1 (fun l D => tX12_no hEk hq3 l D) gX12_fact_X12_no rfl rfl rfl ⟨Nat.le_of_ble_eq_true rfl, Nat.le_of_ble_eq_true rfl⟩ hyX12_no (by decide) entM_0 rfl rfl rfl (Nat.le_of_ble_eq_true rfl) ⟨Nat.le_of_ble_eq_true rfl, Nat.le_of_ble_eq_true rfl⟩ dX12_fact_19 ?_
    obtain rfl := Option.some.inj h
    exact zr_iret hC hR ⟨rfl, rfl⟩ (Nat.le_refl _) (Nat.le_refl _) dX12_fact_22
  · replace h := zin h c2
    refine zr_iload_n (pc := 11) hC 1 rfl rfl dX12_fact_11 ?_
    refine zr_iconst (pc := 12) hC zki_2 dX12_fact_12 ?_
    refine zr_irem (pc := 13) hC (by decide) dX12_fact_13 ?_
    refine zr_if_eq (pc := 14) (tgt := 23) hC dX12_fact_14 (by decide) (fun c4 => ?_) (fun c4 => ?_)
    · replace h := zip h c4
      refine zr_aload_n (pc := 23) hC 0 rfl rfl dX12_fact_23 ?_
      refine zmg_44 (pc := 24) hC hinX12_fact_X12 flX12_fact_299 dX12_fact_24 ?_
      refine zr_iconst (pc := 27) hC zki_5 dX12_fact_27 ?_
      refine zr_icmp_ne (pc := 28) (tgt := 38) hC dX12_fact_28 (by decide) (fun c5 => ?_) (fun c5 => ?_)
      · replace h := zin h c5
        refine zr_aload_n (pc := 38) hC 0 rfl rfl dX12_fact_38 ?_
        refine zmg_41 (pc := 39) hC hinX12_fact_X12 flX12_fact_96 dX12_fact_39 ?_
        refine zr_aload_n (pc := 42) hC 0 rfl rfl dX12_fact_42 ?_
        refine zmg_44 (pc := 43) hC hinX12_fact_X12 flX12_fact_299 dX12_fact_43 ?_
        refine zr_iload_n (pc := 46) hC 1 rfl rfl dX12_fact_46 ?_
        obtain ⟨i6, h⟩ := zgd h
        obtain ⟨M7, e8, h⟩ := zle h
        refine zms_28 (pc := 47) hC i6 e8 dX12_fact_47 ?_
        refine zr_aload_n (pc := 48) hC 0 rfl rfl dX12_fact_48 ?_
        refine zr_dup (pc := 49) hC rfl dX12_fact_49 ?_
        refine zmg_44 (pc := 50) hC hinX12_fact_X12 flX12_fact_299 dX12_fact_50 ?_
        refine zr_iconst (pc := 53) hC zki_1 dX12_fact_53 ?_
        refine zr_iadd (pc := 54) hC dX12_fact_54 ?_
        obtain ⟨M9, e10, h⟩ := zle h
        refine zmp_44 (pc := 55) hC hinX12_fact_X12 flX12_fact_299 e10 dX12_fact_55 ?_
        refine zr_aload_n (pc := 58) hC 0 rfl rfl dX12_fact_58 ?_
        refine zmg_44 (pc := 59) hC hinX12_fact_X12 flX12_fact_299 dX12_fact_59 ?_
        refine zr_iconst (pc := 62) hC zki_1 dX12_fact_62 ?_
        refine zr_isub (pc := 63) hC dX12_fact_63 ?_
        obtain rfl := Option.some.inj h
        exact zr_iret hC hR ⟨rfl, rfl⟩ (Nat.le_refl _) (Nat.le_refl _) dX12_fact_64
      · replace h := zip h c5
        refine zr_aload_n (pc := 31) hC 0 rfl rfl dX12_fact_31 ?_
        refine zr_bipush (pc := 32) hC zkb_m6 dX12_fact_32 ?_
        obtain ⟨q11, hq11, h⟩ := zbd h
        refine zr_cVi (pc := 34) hC hEk [.int (-6 : Int32)] [] 0 1 (fun l D => tX12_no hEk hq11 l D) gX12_fact_X12_no rfl rfl rfl ⟨Nat.le_of_ble_eq_true rfl, Nat.le_of_ble_eq_true rfl⟩ hyX12_no (by decide) entM_0 rfl rfl rfl (Nat.le_of_ble_eq_true rfl) ⟨Nat.le_of_ble_eq_true rfl, Nat.le_of_ble_eq_true rfl⟩ dX12_fact_34 ?_
        obtain rfl := Option.some.inj h
        exact zr_iret hC hR ⟨rfl, rfl⟩ (Nat.le_refl _) (Nat.le_refl _) dX12_fact_37
    · replace h := zin h c4
      refine zr_aload_n (pc := 17) hC 0 rfl rfl dX12_fact_17 ?_
      refine zr_iconst (pc := 18) hC zki_m1 dX12_fact_18 ?_
      obtain ⟨q12, hq12, h⟩ := zbd h
      refine zr_cVi (pc := 19) hC hEk [.int (-1 : Int32)] [] 0 1 (fun l D => tX12_no hEk hq12 l D) gX12_fact_X12_no rfl rfl rfl ⟨Nat.le_of_ble_eq_true rfl, Nat.le_of_ble_eq_true rfl⟩ hyX12_no (by decide) entM_0 rfl rfl rfl (Nat.le_of_ble_eq_true rfl) ⟨Nat.le_of_ble_eq_true rfl, Nat.le_of_ble_eq_true rfl⟩ dX12_fact_19 ?_
      obtain rfl := Option.some.inj h
      exact zr_iret hC hR ⟨rfl, rfl⟩ (Nat.le_refl _) (Nat.le_refl _) dX12_fact_22
/-! X12_bits -/
theorem hyX12_bits : yX12_bits.cls ≠ "java/lang/invoke/MethodHandle" ∧ yX12_bits.cls ≠ "java/lang/invoke/VarHandle" ∧ (parseMethodDescriptor yX12_bits.desc).map (fun d => d.parameters.length) = some 1 := by decide +kernel
def xX12_bits_L4 (v0 : Int32) (w0 : Int32) (w1 : Int32) : Option ((Int32 × Int32) ⊕ Int32) :=
  if (31 : Int32) ≤ w1 then
  (some (.inr w0))
  else
  zlet (w0 + ((v0 >>> (w1 &&& 31)) &&& (1 : Int32))) fun z2 =>
  some (.inl (z2, (w1 + (1 : Int32))))
set_option maxHeartbeats 4000000 in
set_option maxRecDepth 100000 in
theorem tX12_bits_L4 {κ : Nat → ClassId} {E : zEn} {ws : va_W} {X : zX} {v0 : Int32} {w0 : Int32} {w1 : Int32} {r : ((Int32 × Int32) ⊕ Int32)} (hC : zC X cX12_bits RX12 wsX12_bits vwCl (zty κ) E 3 ({ frames := 0, cells := 0, slots := 0, locals := 0 } : Room)) (hEk : zEk E) (hin : ∀ (x0' : Int32) (x1' : Int32), r = .inl (x0', x1') → zV X 0 0 ws [(0, .int v0), (1, .int x0'), (2, .int x1')] [] 4) (hout0 : ∀ (x0' : Int32), r = .inr x0' → zV X 0 0 ws [(1, .int x0')] [] 24) (h : xX12_bits_L4  v0 w0 w1 = some r) : zV X 0 0 ws [(0, .int v0), (1, .int w0), (2, .int w1)] [] 4 := by
  unfold xX12_bits_L4 at h
  refine zr_iload_n (pc := 4) hC 2 rfl rfl dX12_bits_4 ?_
  refine zr_bipush (pc := 5) hC zkb_31 dX12_bits_5 ?_
  refine zr_icmp_ge (pc := 7) (tgt := 24) hC dX12_bits_7 (by decide) (fun c1 => ?_) (fun c1 => ?_)
  · replace h := zip h c1
    obtain rfl := Option.some.inj h
    exact zV.sub (lv' := [(1, .int w0)]) [1] rfl (hout0 w0 rfl)
  · replace h := zin h c1
    refine zr_iload_n (pc := 10) hC 1 rfl rfl dX12_bits_10 ?_
    refine zr_iload_n (pc := 11) hC 0 rfl rfl dX12_bits_11 ?_
    refine zr_iload_n (pc := 12) hC 2 rfl rfl dX12_bits_12 ?_
    refine zr_ishr (pc := 13) hC dX12_bits_13 ?_
    refine zr_iconst (pc := 14) hC zki_1 dX12_bits_14 ?_
    refine zr_iand (pc := 15) hC dX12_bits_15 ?_
    refine zr_iadd (pc := 16) hC dX12_bits_16 ?_
    obtain ⟨z2, e3, h⟩ := zle h
    refine zr_topi e3 ?_
    refine zr_istore_n (pc := 17) (lv' := [(1, .int z2), (0, .int v0), (2, .int w1)]) hC rfl (by decide) rfl dX12_bits_17 ?_
    refine zr_iinc (pc := 18) (k := 2) (lv' := [(2, .int (w1 + (1 : Int32))), (1, .int z2), (0, .int v0)]) hC zki_1 (by decide) rfl rfl dX12_bits_18 ?_
    refine zr_goto (pc := 21) (tgt := 4) hC dX12_bits_21 (by decide) ?_
    obtain rfl := Option.some.inj h
    exact zV.sub (lv' := [(0, .int v0), (1, .int z2), (2, .int (w1 + (1 : Int32)))]) [2, 1, 0] rfl (hin z2 (w1 + (1 : Int32)) rfl)
def xX12_bits  (v0 : Int32) : Option Int32 :=
  (x_it (fun a9 => xX12_bits_L4 v0 a9.1 a9.2) zFU ((0 : Int32), (0 : Int32))).bind fun q1 =>
  some q1
set_option maxHeartbeats 4000000 in
set_option maxRecDepth 100000 in
theorem tX12_bits {κ : Nat → ClassId} {E : zEn} {ws : va_W} (hEk : zEk E)  {v0 : Int32} {res : Int32} (h : xX12_bits  v0 = some res) (l : Launch) (D : va_G) : zCT E D vwCl (zty κ) l yX12_bits wsX12_bits ({ frames := 0, cells := 0, slots := 0, locals := 0 } : Room) 0 0 [.int v0] ws (zPd (some (.int res)) ws) := by
  refine zCT.of (cc := cX12_bits) (maxL := 3) (ret := (some .int)) (by decide) rfl (Nat.le_of_ble_eq_true rfl) ?_
  intro X hC hR
  unfold xX12_bits at h
  refine zV.sub (lv' := [(0, .int v0)]) [0] rfl ?_
  refine zr_iconst (pc := 0) hC zki_0 dX12_bits_0 ?_
  refine zr_istore_n (pc := 1) (lv' := [(1, .int (0 : Int32)), (0, .int v0)]) hC rfl (by decide) rfl dX12_bits_1 ?_
  refine zr_iconst (pc := 2) hC zki_0 dX12_bits_2 ?_
  refine zr_istore_n (pc := 3) (lv' := [(2, .int (0 : Int32)), (1, .int (0 : Int32)), (0, .int v0)]) hC rfl (by decide) rfl dX12_bits_3 ?_
  obtain ⟨q1, hq1, h⟩ := zbd h
  refine zV.sub (lv' := [(0, .int v0), (1, .int (0 : Int32)), (2, .int (0 : Int32))]) [2, 1, 0] rfl ?_
  refine zit2 (Wp := fun (y0 : Int32) (y1 : Int32) => zV X 0 0 ws [(0, .int v0), (1, .int y0), (2, .int y1)] [] 4) (Ex := fun (b9 : Int32) => zV X 0 0 ws [(1, .int b9)] [] 24) (fun y0 y1 r9 hr hin hout => tX12_bits_L4 hC hEk hin (fun z0 e9 => hout z0 e9) hr) zFU (0 : Int32) (0 : Int32) q1 hq1 ?_
  show zV X 0 0 ws [(1, .int q1)] [] 24
  refine zr_iload_n (pc := 24) hC 0 rfl rfl dX12_bits_24 ?_
  obtain rfl := Option.some.inj h
  exact zr_iret hC hR ⟨rfl, rfl⟩ (Nat.le_refl _) (Nat.le_refl _) dX12_bits_25
/-! X12_hadOf -/
theorem hyX12_hadOf : yX12_hadOf.cls = RX12 ∧ yX12_hadOf.cls ≠ "java/lang/invoke/MethodHandle" ∧ yX12_hadOf.cls ≠ "java/lang/invoke/VarHandle" ∧ (parseMethodDescriptor yX12_hadOf.desc).map (fun d => d.parameters.length) = some 1 := by decide +kernel
theorem flX12_hadOf_96 : Cond.fieldLink RX12 96 "BeforeTheEndModel" "fact" "[I" ∈ wsX12_hadOf := by decide +kernel
theorem flX12_hadOf_99 : Cond.fieldLink RX12 99 "BeforeTheEndModel" "order" "[I" ∈ wsX12_hadOf := by decide +kernel
theorem hinX12_hadOf_X12 : ∀ w ∈ wsX120, w ∈ wsX12_hadOf := fun _ h => List.mem_cons_of_mem _ (List.mem_append_right _ h)
def xX12_hadOf_L6 (M : zM) (v1 : Int32) (w0 : Int32) (w1 : Int32) : Option ((Int32 × Int32) ⊕ (Int32 ⊕ Unit)) :=
  if v1 ≤ w1 then
  (some (.inr (.inr ())))
  else
  if (w1 < 0 ∨ 5 ≤ w1.toNatClampNeg) then none else
  if ((M.1 29 w1.toNatClampNeg) < 0 ∨ 5 ≤ (M.1 29 w1.toNatClampNeg).toNatClampNeg) then none else
  zlet (w0 &&& (M.1 28 (M.1 29 w1.toNatClampNeg).toNatClampNeg)) fun z4 =>
  (xX12_bits z4).bind fun q6 =>
  if q6 = (1 : Int32) then
  (some (.inr (.inl w1)))
  else
  some (.inl (z4, (w1 + (1 : Int32))))
set_option maxHeartbeats 4000000 in
set_option maxRecDepth 100000 in
theorem tX12_hadOf_L6 {κ : Nat → ClassId} {E : zEn} {ad : Nat → Nat} {X : zX} {M : zM} {v1 : Int32} {w0 : Int32} {w1 : Int32} {r : ((Int32 × Int32) ⊕ (Int32 ⊕ Unit))} (hC : zC X cX12_hadOf RX12 wsX12_hadOf vwCl (zty κ) E 4 ({ frames := 1, cells := 0, slots := 0, locals := 22 } : Room)) (hEk : zEk E) (hin : ∀ (x0' : Int32) (x1' : Int32), r = .inl (x0', x1') → zV X 0 0 (zwM κ ad M) [(0, .ref (ad 0)), (1, .int v1), (2, .int x0'), (3, .int x1')] [] 6) (hout0 : ∀ (x0' : Int32), r = .inr (.inl x0') → zV X 0 0 (zwM κ ad M) [(3, .int x0')] [] 33) (hout1 : r = .inr (.inr ()) → zV X 0 0 (zwM κ ad M) [] [] 43) (h : xX12_hadOf_L6 M v1 w0 w1 = some r) : zV X 0 0 (zwM κ ad M) [(0, .ref (ad 0)), (1, .int v1), (2, .int w0), (3, .int w1)] [] 6 := by
  unfold xX12_hadOf_L6 at h
  refine zr_iload_n (pc := 6) hC 3 rfl rfl dX12_hadOf_6 ?_
  refine zr_iload_n (pc := 7) hC 1 rfl rfl dX12_hadOf_7 ?_
  refine zr_icmp_ge (pc := 8) (tgt := 43) hC dX12_hadOf_8 (by decide) (fun c1 => ?_) (fun c1 => ?_)
  · replace h := zip h c1
    obtain rfl := Option.some.inj h
    exact zV.sub (lv' := []) [] rfl (hout1  rfl)
  · replace h := zin h c1
    refine zr_iload_n (pc := 11) hC 2 rfl rfl dX12_hadOf_11 ?_
    refine zr_aload_n (pc := 12) hC 0 rfl rfl dX12_hadOf_12 ?_
    refine zmg_41 (pc := 13) hC hinX12_hadOf_X12 flX12_hadOf_96 dX12_hadOf_13 ?_
    refine zr_aload_n (pc := 16) hC 0 rfl rfl dX12_hadOf_16 ?_
    refine zmg_42 (pc := 17) hC hinX12_hadOf_X12 flX12_hadOf_99 dX12_hadOf_17 ?_
    refine zr_iload_n (pc := 20) hC 3 rfl rfl dX12_hadOf_20 ?_
    obtain ⟨i2, h⟩ := zgd h
    refine zml_29 (pc := 21) hC i2 dX12_hadOf_21 ?_
    obtain ⟨i3, h⟩ := zgd h
    refine zml_28 (pc := 22) hC i3 dX12_hadOf_22 ?_
    refine zr_iand (pc := 23) hC dX12_hadOf_23 ?_
    obtain ⟨z4, e5, h⟩ := zle h
    refine zr_topi e5 ?_
    refine zr_istore_n (pc := 24) (lv' := [(2, .int z4), (0, .ref (ad 0)), (1, .int v1), (3, .int w1)]) hC rfl (by decide) rfl dX12_hadOf_24 ?_
    refine zr_iload_n (pc := 25) hC 0 rfl rfl dX12_hadOf_25 ?_
    obtain ⟨q6, hq6, h⟩ := zbd h
    refine zr_cSi (pc := 26) hC hEk [.int z4] [] 1 (fun l D => tX12_bits hEk hq6 l D) gX12_hadOf_X12_bits rfl rfl rfl ⟨Nat.le_of_ble_eq_true rfl, Nat.le_of_ble_eq_true rfl⟩ hyX12_bits rfl rfl (Nat.le_of_ble_eq_true rfl) ⟨Nat.le_of_ble_eq_true rfl, Nat.le_of_ble_eq_true rfl⟩ dX12_hadOf_26 ?_
    refine zr_iconst (pc := 29) hC zki_1 dX12_hadOf_29 ?_
    refine zr_icmp_ne (pc := 30) (tgt := 37) hC dX12_hadOf_30 (by decide) (fun c7 => ?_) (fun c7 => ?_)
    · replace h := zin h c7
      refine zr_iinc (pc := 37) (k := 3) (lv' := [(3, .int (w1 + (1 : Int32))), (2, .int z4), (0, .ref (ad 0)), (1, .int v1)]) hC zki_1 (by decide) rfl rfl dX12_hadOf_37 ?_
      refine zr_goto (pc := 40) (tgt := 6) hC dX12_hadOf_40 (by decide) ?_
      obtain rfl := Option.some.inj h
      exact zV.sub (lv' := [(0, .ref (ad 0)), (1, .int v1), (2, .int z4), (3, .int (w1 + (1 : Int32)))]) [2, 3, 1, 0] rfl (hin z4 (w1 + (1 : Int32)) rfl)
    · replace h := zip h c7
      obtain rfl := Option.some.inj h
      exact zV.sub (lv' := [(3, .int w1)]) [3] rfl (hout0 w1 rfl)
def xX12_hadOf (M : zM) (v1 : Int32) : Option Int32 :=
  (x_it (fun a9 => xX12_hadOf_L6 M v1 a9.1 a9.2) zFU ((1022 : Int32), (0 : Int32))).bind fun q1 =>
  Sum.elim (fun b2 => some (b2 + (1 : Int32))) (fun c3 => some (6 : Int32)) q1
set_option maxHeartbeats 4000000 in
set_option maxRecDepth 100000 in
theorem tX12_hadOf {κ : Nat → ClassId} {E : zEn} {ad : Nat → Nat} (hEk : zEk E) {M : zM} {v1 : Int32} {res : Int32} (h : xX12_hadOf M v1 = some res) (l : Launch) (D : va_G) : zCT E D vwCl (zty κ) l yX12_hadOf wsX12_hadOf ({ frames := 1, cells := 0, slots := 0, locals := 22 } : Room) 0 0 [.ref (ad 0), .int v1] (zwM κ ad M) (zPd (some (.int res)) (zwM κ ad M)) := by
  refine zCT.of (cc := cX12_hadOf) (maxL := 4) (ret := (some .int)) (by decide) rfl (Nat.le_of_ble_eq_true rfl) ?_
  intro X hC hR
  unfold xX12_hadOf at h
  refine zV.sub (lv' := [(0, .ref (ad 0)), (1, .int v1)]) [0, 1] rfl ?_
  refine zr_sipush (pc := 0) hC zks_1022 dX12_hadOf_0 ?_
  refine zr_istore_n (pc := 3) (lv' := [(2, .int (1022 : Int32)), (0, .ref (ad 0)), (1, .int v1)]) hC rfl (by decide) rfl dX12_hadOf_3 ?_
  refine zr_iconst (pc := 4) hC zki_0 dX12_hadOf_4 ?_
  refine zr_istore_n (pc := 5) (lv' := [(3, .int (0 : Int32)), (2, .int (1022 : Int32)), (0, .ref (ad 0)), (1, .int v1)]) hC rfl (by decide) rfl dX12_hadOf_5 ?_
  obtain ⟨q1, hq1, h⟩ := zbd h
  refine zV.sub (lv' := [(0, .ref (ad 0)), (1, .int v1), (2, .int (1022 : Int32)), (3, .int (0 : Int32))]) [2, 3, 1, 0] rfl ?_
  refine zit2 (Wp := fun (y0 : Int32) (y1 : Int32) => zV X 0 0 (zwM κ ad M) [(0, .ref (ad 0)), (1, .int v1), (2, .int y0), (3, .int y1)] [] 6) (Ex := fun (b9 : (Int32 ⊕ Unit)) => Sum.elim (fun (b0 : Int32) => zV X 0 0 (zwM κ ad M) [(3, .int b0)] [] 33) (fun (c0 : Unit) => zV X 0 0 (zwM κ ad M) [] [] 43) b9) (fun y0 y1 r9 hr hin hout => tX12_hadOf_L6 hC hEk hin (fun z0 e9 => hout (.inl z0) e9) (fun e9 => hout (.inr ()) e9) hr) zFU (1022 : Int32) (0 : Int32) q1 hq1 ?_
  rcases q1 with b2 | c3
  · replace h := zel h
    show zV X 0 0 (zwM κ ad M) [(3, .int b2)] [] 33
    refine zr_iload_n (pc := 33) hC 0 rfl rfl dX12_hadOf_33 ?_
    refine zr_iconst (pc := 34) hC zki_1 dX12_hadOf_34 ?_
    refine zr_iadd (pc := 35) hC dX12_hadOf_35 ?_
    obtain rfl := Option.some.inj h
    exact zr_iret hC hR ⟨rfl, rfl⟩ (Nat.le_refl _) (Nat.le_refl _) dX12_hadOf_36
  · replace h := zer h
    show zV X 0 0 (zwM κ ad M) [] [] 43
    refine zr_bipush (pc := 43) hC zkb_6 dX12_hadOf_43 ?_
    obtain rfl := Option.some.inj h
    exact zr_iret hC hR ⟨rfl, rfl⟩ (Nat.le_refl _) (Nat.le_refl _) dX12_hadOf_45
/-! X12_had -/
theorem hyX12_had : yX12_had.cls = RX12 ∧ yX12_had.cls ≠ "java/lang/invoke/MethodHandle" ∧ yX12_had.cls ≠ "java/lang/invoke/VarHandle" ∧ (parseMethodDescriptor yX12_had.desc).map (fun d => d.parameters.length) = some 2 := by decide +kernel
theorem flX12_had_299 : Cond.fieldLink RX12 299 "BeforeTheEndModel" "facts" "I" ∈ wsX12_had := by decide +kernel
theorem flX12_had_99 : Cond.fieldLink RX12 99 "BeforeTheEndModel" "order" "[I" ∈ wsX12_had := by decide +kernel
theorem hinX12_had_X12 : ∀ w ∈ wsX120, w ∈ wsX12_had := fun _ h => List.mem_cons_of_mem _ (List.mem_append_right _ h)
def xX12_had_L36 (v1 : Int32) (w0 : zM) (w1 : Int32) (w2 : Int32) (w3 : Int32) : Option ((zM × Int32 × Int32 × Int32) ⊕ (zM ⊕ zM)) :=
  if v1 ≤ w3 then
  (some (.inr (.inr w0)))
  else
  zlet (w1 - w1 / (10 : Int32) * (10 : Int32)) fun z2 =>
  zlet (w1 / (10 : Int32)) fun z4 =>
  if (w0.1 0 44) ≤ z2 then
  (some (.inr (.inl w0)))
  else
  if ((w2 >>> (z2 &&& 31)) &&& (1 : Int32)) = (1 : Int32) then
  (some (.inr (.inl w0)))
  else
  zlet (w2 ||| ((1 : Int32) <<< (z2 &&& 31))) fun z8 =>
  if (w3 < 0 ∨ 5 ≤ w3.toNatClampNeg) then none else
  zlet (zsi w0 29 w3.toNatClampNeg z2) fun M11 =>
  some (.inl (M11, z4, z8, (w3 + (1 : Int32))))
set_option maxHeartbeats 4000000 in
set_option maxRecDepth 100000 in
theorem tX12_had_L36 {κ : Nat → ClassId} {E : zEn} {ad : Nat → Nat} {X : zX} {v1 : Int32} {w0 : zM} {w1 : Int32} {w2 : Int32} {w3 : Int32} {r : ((zM × Int32 × Int32 × Int32) ⊕ (zM ⊕ zM))} (hC : zC X cX12_had RX12 wsX12_had vwCl (zty κ) E 8 ({ frames := 2, cells := 0, slots := 0, locals := 45 } : Room)) (hEk : zEk E) (hin : ∀ (x0' : zM) (x1' : Int32) (x2' : Int32) (x3' : Int32), r = .inl (x0', x1', x2', x3') → zV X 0 0 (zwM κ ad x0') [(0, .ref (ad 0)), (1, .int v1), (4, .int x1'), (5, .int x2'), (6, .int x3')] [] 36) (hout0 : ∀ (x0' : zM), r = .inr (.inl x0') → zV X 0 0 (zwM κ ad x0') [(0, .ref (ad 0))] [] 76) (hout1 : ∀ (x0' : zM), r = .inr (.inr x0') → zV X 0 0 (zwM κ ad x0') [(0, .ref (ad 0)), (1, .int v1)] [] 106) (h : xX12_had_L36  v1 w0 w1 w2 w3 = some r) : zV X 0 0 (zwM κ ad w0) [(0, .ref (ad 0)), (1, .int v1), (4, .int w1), (5, .int w2), (6, .int w3)] [] 36 := by
  unfold xX12_had_L36 at h
  refine zr_iload (pc := 36) hC 4 rfl dX12_had_36 ?_
  refine zr_iload_n (pc := 38) hC 1 rfl rfl dX12_had_38 ?_
  refine zr_icmp_ge (pc := 39) (tgt := 106) hC dX12_had_39 (by decide) (fun c1 => ?_) (fun c1 => ?_)
  · replace h := zip h c1
    obtain rfl := Option.some.inj h
    exact zV.sub (lv' := [(0, .ref (ad 0)), (1, .int v1)]) [0, 1] rfl (hout1 w0 rfl)
  · replace h := zin h c1
    refine zr_iload (pc := 42) hC 2 rfl dX12_had_42 ?_
    refine zr_bipush (pc := 44) hC zkb_10 dX12_had_44 ?_
    refine zr_irem (pc := 46) hC (by decide) dX12_had_46 ?_
    obtain ⟨z2, e3, h⟩ := zle h
    refine zr_topi e3 ?_
    refine zr_istore (pc := 47) (lv' := [(7, .int z2), (0, .ref (ad 0)), (1, .int v1), (4, .int w1), (5, .int w2), (6, .int w3)]) hC (by decide) rfl dX12_had_47 ?_
    refine zr_iload (pc := 49) hC 3 rfl dX12_had_49 ?_
    refine zr_bipush (pc := 51) hC zkb_10 dX12_had_51 ?_
    refine zr_idiv (pc := 53) hC (by decide) dX12_had_53 ?_
    obtain ⟨z4, e5, h⟩ := zle h
    refine zr_topi e5 ?_
    refine zr_istore (pc := 54) (lv' := [(4, .int z4), (7, .int z2), (0, .ref (ad 0)), (1, .int v1), (5, .int w2), (6, .int w3)]) hC (by decide) rfl dX12_had_54 ?_
    refine zr_iload (pc := 56) hC 1 rfl dX12_had_56 ?_
    refine zr_aload_n (pc := 58) hC 2 rfl rfl dX12_had_58 ?_
    refine zmg_44 (pc := 59) hC hinX12_had_X12 flX12_had_299 dX12_had_59 ?_
    refine zr_icmp_ge (pc := 62) (tgt := 76) hC dX12_had_62 (by decide) (fun c6 => ?_) (fun c6 => ?_)
    · replace h := zip h c6
      obtain rfl := Option.some.inj h
      exact zV.sub (lv' := [(0, .ref (ad 0))]) [2] rfl (hout0 w0 rfl)
    · replace h := zin h c6
      refine zr_iload (pc := 65) hC 4 rfl dX12_had_65 ?_
      refine zr_iload (pc := 67) hC 1 rfl dX12_had_67 ?_
      refine zr_ishr (pc := 69) hC dX12_had_69 ?_
      refine zr_iconst (pc := 70) hC zki_1 dX12_had_70 ?_
      refine zr_iand (pc := 71) hC dX12_had_71 ?_
      refine zr_iconst (pc := 72) hC zki_1 dX12_had_72 ?_
      refine zr_icmp_ne (pc := 73) (tgt := 82) hC dX12_had_73 (by decide) (fun c7 => ?_) (fun c7 => ?_)
      · replace h := zin h c7
        refine zr_iload (pc := 82) hC 4 rfl dX12_had_82 ?_
        refine zr_iconst (pc := 84) hC zki_1 dX12_had_84 ?_
        refine zr_iload (pc := 85) hC 1 rfl dX12_had_85 ?_
        refine zr_ishl (pc := 87) hC dX12_had_87 ?_
        refine zr_ior (pc := 88) hC dX12_had_88 ?_
        obtain ⟨z8, e9, h⟩ := zle h
        refine zr_topi e9 ?_
        refine zr_istore (pc := 89) (lv' := [(5, .int z8), (4, .int z4), (7, .int z2), (0, .ref (ad 0)), (1, .int v1), (6, .int w3)]) hC (by decide) rfl dX12_had_89 ?_
        refine zr_aload_n (pc := 91) hC 3 rfl rfl dX12_had_91 ?_
        refine zmg_42 (pc := 92) hC hinX12_had_X12 flX12_had_99 dX12_had_92 ?_
        refine zr_iload (pc := 95) hC 5 rfl dX12_had_95 ?_
        refine zr_iload (pc := 97) hC 2 rfl dX12_had_97 ?_
        obtain ⟨i10, h⟩ := zgd h
        obtain ⟨M11, e12, h⟩ := zle h
        refine zms_29 (pc := 99) hC i10 e12 dX12_had_99 ?_
        refine zr_iinc (pc := 100) (k := 5) (lv' := [(6, .int (w3 + (1 : Int32))), (5, .int z8), (4, .int z4), (7, .int z2), (0, .ref (ad 0)), (1, .int v1)]) hC zki_1 (by decide) rfl rfl dX12_had_100 ?_
        refine zr_goto (pc := 103) (tgt := 36) hC dX12_had_103 (by decide) ?_
        obtain rfl := Option.some.inj h
        exact zV.sub (lv' := [(0, .ref (ad 0)), (1, .int v1), (4, .int z4), (5, .int z8), (6, .int (w3 + (1 : Int32)))]) [4, 5, 2, 1, 0] rfl (hin M11 z4 z8 (w3 + (1 : Int32)) rfl)
      · replace h := zip h c7
        obtain rfl := Option.some.inj h
        exact zV.sub (lv' := [(0, .ref (ad 0))]) [2] rfl (hout0 w0 rfl)
def xX12_had (M : zM) (v1 : Int32) (v2 : Int32) : Option (Int32 × zM) :=
  (xX12_bound v1 (0 : Int32) (5 : Int32)).bind fun q1 =>
  if q1 = 0 then
  (if 0 ≤ v2 then
  ((x_it (fun a9 => xX12_had_L36 v1 a9.1 a9.2.1 a9.2.2.1 a9.2.2.2) zFU (M, v2, (0 : Int32), (0 : Int32))).bind fun q4 =>
  Sum.elim (fun b5 => (xX12_no b5 (-1 : Int32)).bind fun q7 =>
  some (q7.1, q7.2)) (fun c6 => (xX12_hadOf c6 v1).bind fun q8 =>
  some (q8, c6)) q4)
  else
  (xX12_no M (-1 : Int32)).bind fun q9 =>
  some (q9.1, q9.2))
  else
  (xX12_no M q1).bind fun q10 =>
  some (q10.1, q10.2)
set_option maxHeartbeats 4000000 in
set_option maxRecDepth 100000 in
theorem tX12_had {κ : Nat → ClassId} {E : zEn} {ad : Nat → Nat} (hEk : zEk E) {M : zM} {v1 : Int32} {v2 : Int32} {res : (Int32 × zM)} (h : xX12_had M v1 v2 = some res) (l : Launch) (D : va_G) : zCT E D vwCl (zty κ) l yX12_had wsX12_had ({ frames := 2, cells := 0, slots := 0, locals := 45 } : Room) 0 0 [.ref (ad 0), .int v1, .int v2] (zwM κ ad M) (zPd (some (.int res.1)) (zwM κ ad res.2)) := by
  refine zCT.of (cc := cX12_had) (maxL := 8) (ret := (some .int)) (by decide) rfl (Nat.le_of_ble_eq_true rfl) ?_
  intro X hC hR
  unfold xX12_had at h
  refine zV.sub (lv' := [(0, .ref (ad 0)), (1, .int v1), (2, .int v2)]) [0, 1, 2] rfl ?_
  refine zr_iload_n (pc := 0) hC 1 rfl rfl dX12_had_0 ?_
  refine zr_iconst (pc := 1) hC zki_0 dX12_had_1 ?_
  refine zr_iconst (pc := 2) hC zki_5 dX12_had_2 ?_
  obtain ⟨q1, hq1, h⟩ := zbd h
  refine zr_cSi (pc := 3) hC hEk [.int v1, .int (0 : Int32), .int (5 : Int32)] [] 3 (fun l D => tX12_bound hEk hq1 l D) gX12_had_X12_bound rfl rfl rfl ⟨Nat.le_of_ble_eq_true rfl, Nat.le_of_ble_eq_true rfl⟩ hyX12_bound rfl rfl (Nat.le_of_ble_eq_true rfl) ⟨Nat.le_of_ble_eq_true rfl, Nat.le_of_ble_eq_true rfl⟩ dX12_had_3 ?_
  refine zr_istore_n (pc := 6) (lv' := [(3, .int q1), (0, .ref (ad 0)), (1, .int v1), (2, .int v2)]) hC rfl (by decide) rfl dX12_had_6 ?_
  refine zr_iload_n (pc := 7) hC 0 rfl rfl dX12_had_7 ?_
  refine zr_if_eq (pc := 8) (tgt := 17) hC dX12_had_8 (by decide) (fun c2 => ?_) (fun c2 => ?_)
  · replace h := zip h c2
    refine zr_iload_n (pc := 17) hC 3 rfl rfl dX12_had_17 ?_
    refine zr_if_ge (pc := 18) (tgt := 27) hC dX12_had_18 (by decide) (fun c3 => ?_) (fun c3 => ?_)
    · replace h := zip h c3
      refine zr_iload_n (pc := 27) hC 3 rfl rfl dX12_had_27 ?_
      refine zr_istore (pc := 28) (lv' := [(4, .int v2), (3, .int q1), (0, .ref (ad 0)), (1, .int v1), (2, .int v2)]) hC (by decide) rfl dX12_had_28 ?_
      refine zr_iconst (pc := 30) hC zki_0 dX12_had_30 ?_
      refine zr_istore (pc := 31) (lv' := [(5, .int (0 : Int32)), (4, .int v2), (3, .int q1), (0, .ref (ad 0)), (1, .int v1), (2, .int v2)]) hC (by decide) rfl dX12_had_31 ?_
      refine zr_iconst (pc := 33) hC zki_0 dX12_had_33 ?_
      refine zr_istore (pc := 34) (lv' := [(6, .int (0 : Int32)), (5, .int (0 : Int32)), (4, .int v2), (3, .int q1), (0, .ref (ad 0)), (1, .int v1), (2, .int v2)]) hC (by decide) rfl dX12_had_34 ?_
      obtain ⟨q4, hq4, h⟩ := zbd h
      refine zV.sub (lv' := [(0, .ref (ad 0)), (1, .int v1), (4, .int v2), (5, .int (0 : Int32)), (6, .int (0 : Int32))]) [4, 5, 2, 1, 0] rfl ?_
      refine zit4 (Wp := fun (y0 : zM) (y1 : Int32) (y2 : Int32) (y3 : Int32) => zV X 0 0 (zwM κ ad y0) [(0, .ref (ad 0)), (1, .int v1), (4, .int y1), (5, .int y2), (6, .int y3)] [] 36) (Ex := fun (b9 : (zM ⊕ zM)) => Sum.elim (fun (b0 : zM) => zV X 0 0 (zwM κ ad b0) [(0, .ref (ad 0))] [] 76) (fun (c0 : zM) => zV X 0 0 (zwM κ ad c0) [(0, .ref (ad 0)), (1, .int v1)] [] 106) b9) (fun y0 y1 y2 y3 r9 hr hin hout => tX12_had_L36 hC hEk hin (fun z0 e9 => hout (.inl z0) e9) (fun z0 e9 => hout (.inr z0) e9) hr) zFU M v2 (0 : Int32) (0 : Int32) q4 hq4 ?_
      rcases q4 with b5 | c6
      · replace h := zel h
        show zV X 0 0 (zwM κ ad b5) [(0, .ref (ad 0))] [] 76
        refine zr_aload_n (pc := 76) hC 0 rfl rfl dX12_had_76 ?_
        refine zr_iconst (pc := 77) hC zki_m1 dX12_had_77 ?_
        obtain ⟨q7, hq7, h⟩ := zbd h
        refine zr_cVi (pc := 78) hC hEk [.int (-1 : Int32)] [] 0 1 (fun l D => tX12_no hEk hq7 l D) gX12_had_X12_no rfl rfl rfl ⟨Nat.le_of_ble_eq_true rfl, Nat.le_of_ble_eq_true rfl⟩ hyX12_no (by decide) entM_0 rfl rfl rfl (Nat.le_of_ble_eq_true rfl) ⟨Nat.le_of_ble_eq_true rfl, Nat.le_of_ble_eq_true rfl⟩ dX12_had_78 ?_
        obtain rfl := Option.some.inj h
        exact zr_iret hC hR ⟨rfl, rfl⟩ (Nat.le_refl _) (Nat.le_refl _) dX12_had_81
      · replace h := zer h
        show zV X 0 0 (zwM κ ad c6) [(0, .ref (ad 0)), (1, .int v1)] [] 106
        refine zr_aload_n (pc := 106) hC 0 rfl rfl dX12_had_106 ?_
        refine zr_iload_n (pc := 107) hC 1 rfl rfl dX12_had_107 ?_
        obtain ⟨q8, hq8, h⟩ := zbd h
        refine zr_cVi (pc := 108) hC hEk [.int v1] [] 0 1 (fun l D => tX12_hadOf hEk hq8 l D) gX12_had_X12_hadOf rfl rfl rfl ⟨Nat.le_of_ble_eq_true rfl, Nat.le_of_ble_eq_true rfl⟩ hyX12_hadOf (by decide) entM_0 rfl rfl rfl (Nat.le_of_ble_eq_true rfl) ⟨Nat.le_of_ble_eq_true rfl, Nat.le_of_ble_eq_true rfl⟩ dX12_had_108 ?_
        obtain rfl := Option.some.inj h
        exact zr_iret hC hR ⟨rfl, rfl⟩ (Nat.le_refl _) (Nat.le_refl _) dX12_had_111
    · replace h := zin h c3
      refine zr_aload_n (pc := 21) hC 1 rfl rfl dX12_had_21 ?_
      refine zr_iconst (pc := 22) hC zki_m1 dX12_had_22 ?_
      obtain ⟨q9, hq9, h⟩ := zbd h
      refine zr_cVi (pc := 23) hC hEk [.int (-1 : Int32)] [] 0 1 (fun l D => tX12_no hEk hq9 l D) gX12_had_X12_no rfl rfl rfl ⟨Nat.le_of_ble_eq_true rfl, Nat.le_of_ble_eq_true rfl⟩ hyX12_no (by decide) entM_0 rfl rfl rfl (Nat.le_of_ble_eq_true rfl) ⟨Nat.le_of_ble_eq_true rfl, Nat.le_of_ble_eq_true rfl⟩ dX12_had_23 ?_
      obtain rfl := Option.some.inj h
      exact zr_iret hC hR ⟨rfl, rfl⟩ (Nat.le_refl _) (Nat.le_refl _) dX12_had_26
  · replace h := zin h c2
    refine zr_aload_n (pc := 11) hC 1 rfl rfl dX12_had_11 ?_
    refine zr_iload_n (pc := 12) hC 0 rfl rfl dX12_had_12 ?_
    obtain ⟨q10, hq10, h⟩ := zbd h
    refine zr_cVi (pc := 13) hC hEk [.int q1] [] 0 1 (fun l D => tX12_no hEk hq10 l D) gX12_had_X12_no rfl rfl rfl ⟨Nat.le_of_ble_eq_true rfl, Nat.le_of_ble_eq_true rfl⟩ hyX12_no (by decide) entM_0 rfl rfl rfl (Nat.le_of_ble_eq_true rfl) ⟨Nat.le_of_ble_eq_true rfl, Nat.le_of_ble_eq_true rfl⟩ dX12_had_13 ?_
    obtain rfl := Option.some.inj h
    exact zr_iret hC hR ⟨rfl, rfl⟩ (Nat.le_refl _) (Nat.le_refl _) dX12_had_16
/-! X12_ordered -/
theorem hyX12_ordered : yX12_ordered.cls = RX12 ∧ yX12_ordered.cls ≠ "java/lang/invoke/MethodHandle" ∧ yX12_ordered.cls ≠ "java/lang/invoke/VarHandle" ∧ (parseMethodDescriptor yX12_ordered.desc).map (fun d => d.parameters.length) = some 1 := by decide +kernel
theorem flX12_ordered_299 : Cond.fieldLink RX12 299 "BeforeTheEndModel" "facts" "I" ∈ wsX12_ordered := by decide +kernel
theorem flX12_ordered_99 : Cond.fieldLink RX12 99 "BeforeTheEndModel" "order" "[I" ∈ wsX12_ordered := by decide +kernel
theorem hinX12_ordered_X12 : ∀ w ∈ wsX120, w ∈ wsX12_ordered := fun _ h => List.mem_cons_of_mem _ (List.mem_append_right _ h)
def xX12_ordered_L10 (M : zM) (v2 : Int32) (v3 : Int32) (w0 : Int32) (w1 : Int32) : Option ((Int32 × Int32) ⊕ Int32) :=
  if (M.1 0 44) ≤ w1 then
  (some (.inr w0))
  else
  zlet (w0 * w1) fun z2 =>
  some (.inl (z2, (w1 + (1 : Int32))))
set_option maxHeartbeats 4000000 in
set_option maxRecDepth 100000 in
theorem tX12_ordered_L10 {κ : Nat → ClassId} {E : zEn} {ad : Nat → Nat} {X : zX} {M : zM} {v2 : Int32} {v3 : Int32} {w0 : Int32} {w1 : Int32} {r : ((Int32 × Int32) ⊕ Int32)} (hC : zC X cX12_ordered RX12 wsX12_ordered vwCl (zty κ) E 8 ({ frames := 0, cells := 0, slots := 0, locals := 0 } : Room)) (hEk : zEk E) (hin : ∀ (x0' : Int32) (x1' : Int32), r = .inl (x0', x1') → zV X 0 0 (zwM κ ad M) [(0, .ref (ad 0)), (2, .int v2), (3, .int v3), (4, .int x0'), (5, .int x1')] [] 10) (hout0 : ∀ (x0' : Int32), r = .inr x0' → zV X 0 0 (zwM κ ad M) [(0, .ref (ad 0)), (2, .int v2), (3, .int v3), (4, .int x0')] [] 32) (h : xX12_ordered_L10 M v2 v3 w0 w1 = some r) : zV X 0 0 (zwM κ ad M) [(0, .ref (ad 0)), (2, .int v2), (3, .int v3), (4, .int w0), (5, .int w1)] [] 10 := by
  unfold xX12_ordered_L10 at h
  refine zr_iload (pc := 10) hC 4 rfl dX12_ordered_10 ?_
  refine zr_aload_n (pc := 12) hC 0 rfl rfl dX12_ordered_12 ?_
  refine zmg_44 (pc := 13) hC hinX12_ordered_X12 flX12_ordered_299 dX12_ordered_13 ?_
  refine zr_icmp_ge (pc := 16) (tgt := 32) hC dX12_ordered_16 (by decide) (fun c1 => ?_) (fun c1 => ?_)
  · replace h := zip h c1
    obtain rfl := Option.some.inj h
    exact zV.sub (lv' := [(0, .ref (ad 0)), (2, .int v2), (3, .int v3), (4, .int w0)]) [0, 1, 2, 3] rfl (hout0 w0 rfl)
  · replace h := zin h c1
    refine zr_iload (pc := 19) hC 3 rfl dX12_ordered_19 ?_
    refine zr_iload (pc := 21) hC 4 rfl dX12_ordered_21 ?_
    refine zr_imul (pc := 23) hC dX12_ordered_23 ?_
    obtain ⟨z2, e3, h⟩ := zle h
    refine zr_topi e3 ?_
    refine zr_istore (pc := 24) (lv' := [(4, .int z2), (0, .ref (ad 0)), (2, .int v2), (3, .int v3), (5, .int w1)]) hC (by decide) rfl dX12_ordered_24 ?_
    refine zr_iinc (pc := 26) (k := 4) (lv' := [(5, .int (w1 + (1 : Int32))), (4, .int z2), (0, .ref (ad 0)), (2, .int v2), (3, .int v3)]) hC zki_1 (by decide) rfl rfl dX12_ordered_26 ?_
    refine zr_goto (pc := 29) (tgt := 10) hC dX12_ordered_29 (by decide) ?_
    obtain rfl := Option.some.inj h
    exact zV.sub (lv' := [(0, .ref (ad 0)), (2, .int v2), (3, .int v3), (4, .int z2), (5, .int (w1 + (1 : Int32)))]) [2, 3, 4, 1, 0] rfl (hin z2 (w1 + (1 : Int32)) rfl)
def xX12_ordered_L58_L35 (M : zM) (v2 : Int32) (v3 : Int32) (v4 : Int32) (v5 : Int32) (w0 : Int32) (w1 : Int32) : Option ((Int32 × Int32) ⊕ Int32) :=
  if ((v2 >>> (w1 &&& 31)) &&& (1 : Int32)) = (1 : Int32) then
  (if ((v2 >>> (w1 &&& 31)) &&& (1 : Int32)) = 0 then
  (zlet (w0 - (1 : Int32)) fun z5 =>
  some (.inl (z5, (w1 + (1 : Int32)))))
  else
  zlet (w0 - (0 : Int32)) fun z3 =>
  some (.inl (z3, (w1 + (1 : Int32)))))
  else
  if w0 ≤ 0 then
  (some (.inr w1))
  else
  if ((v2 >>> (w1 &&& 31)) &&& (1 : Int32)) = 0 then
  (zlet (w0 - (1 : Int32)) fun z11 =>
  some (.inl (z11, (w1 + (1 : Int32)))))
  else
  zlet (w0 - (0 : Int32)) fun z9 =>
  some (.inl (z9, (w1 + (1 : Int32))))
set_option maxHeartbeats 4000000 in
set_option maxRecDepth 100000 in
theorem tX12_ordered_L58_L35 {κ : Nat → ClassId} {E : zEn} {ad : Nat → Nat} {X : zX} {M : zM} {v2 : Int32} {v3 : Int32} {v4 : Int32} {v5 : Int32} {w0 : Int32} {w1 : Int32} {r : ((Int32 × Int32) ⊕ Int32)} (hC : zC X cX12_ordered RX12 wsX12_ordered vwCl (zty κ) E 8 ({ frames := 0, cells := 0, slots := 0, locals := 0 } : Room)) (hEk : zEk E) (hin : ∀ (x0' : Int32) (x1' : Int32), r = .inl (x0', x1') → zV X 0 0 (zwM κ ad M) [(0, .ref (ad 0)), (2, .int v2), (3, .int v3), (4, .int v4), (5, .int v5), (6, .int x0'), (7, .int x1')] [] 58) (hout0 : ∀ (x0' : Int32), r = .inr x0' → zV X 0 0 (zwM κ ad M) [(0, .ref (ad 0)), (2, .int v2), (3, .int v3), (4, .int v4), (5, .int v5), (7, .int x0')] [] 98) (h : xX12_ordered_L58_L35 M v2 v3 v4 v5 w0 w1 = some r) : zV X 0 0 (zwM κ ad M) [(0, .ref (ad 0)), (2, .int v2), (3, .int v3), (4, .int v4), (5, .int v5), (6, .int w0), (7, .int w1)] [] 58 := by
  unfold xX12_ordered_L58_L35 at h
  refine zr_iload_n (pc := 58) hC 1 rfl rfl dX12_ordered_58 ?_
  refine zr_iload (pc := 59) hC 6 rfl dX12_ordered_59 ?_
  refine zr_ishr (pc := 61) hC dX12_ordered_61 ?_
  refine zr_iconst (pc := 62) hC zki_1 dX12_ordered_62 ?_
  refine zr_iand (pc := 63) hC dX12_ordered_63 ?_
  refine zr_iconst (pc := 64) hC zki_1 dX12_ordered_64 ?_
  refine zr_icmp_eq (pc := 65) (tgt := 73) hC dX12_ordered_65 (by decide) (fun c1 => ?_) (fun c1 => ?_)
  · replace h := zip h c1
    refine zr_iload (pc := 73) hC 5 rfl dX12_ordered_73 ?_
    refine zr_iload_n (pc := 75) hC 1 rfl rfl dX12_ordered_75 ?_
    refine zr_iload (pc := 76) hC 6 rfl dX12_ordered_76 ?_
    refine zr_ishr (pc := 78) hC dX12_ordered_78 ?_
    refine zr_iconst (pc := 79) hC zki_1 dX12_ordered_79 ?_
    refine zr_iand (pc := 80) hC dX12_ordered_80 ?_
    refine zr_if_ne (pc := 81) (tgt := 88) hC dX12_ordered_81 (by decide) (fun c2 => ?_) (fun c2 => ?_)
    · replace h := zin h c2
      refine zr_iconst (pc := 88) hC zki_0 dX12_ordered_88 ?_
      refine zr_isub (pc := 89) hC dX12_ordered_89 ?_
      obtain ⟨z3, e4, h⟩ := zle h
      refine zr_topi e4 ?_
      refine zr_istore (pc := 90) (lv' := [(6, .int z3), (0, .ref (ad 0)), (2, .int v2), (3, .int v3), (4, .int v4), (5, .int v5), (7, .int w1)]) hC (by decide) rfl dX12_ordered_90 ?_
      refine zr_iinc (pc := 92) (k := 6) (lv' := [(7, .int (w1 + (1 : Int32))), (6, .int z3), (0, .ref (ad 0)), (2, .int v2), (3, .int v3), (4, .int v4), (5, .int v5)]) hC zki_1 (by decide) rfl rfl dX12_ordered_92 ?_
      refine zr_goto (pc := 95) (tgt := 58) hC dX12_ordered_95 (by decide) ?_
      obtain rfl := Option.some.inj h
      exact zV.sub (lv' := [(0, .ref (ad 0)), (2, .int v2), (3, .int v3), (4, .int v4), (5, .int v5), (6, .int z3), (7, .int (w1 + (1 : Int32)))]) [2, 3, 4, 5, 6, 1, 0] rfl (hin z3 (w1 + (1 : Int32)) rfl)
    · replace h := zip h c2
      refine zr_iconst (pc := 84) hC zki_1 dX12_ordered_84 ?_
      refine zr_goto (pc := 85) (tgt := 89) hC dX12_ordered_85 (by decide) ?_
      refine zr_isub (pc := 89) hC dX12_ordered_89 ?_
      obtain ⟨z5, e6, h⟩ := zle h
      refine zr_topi e6 ?_
      refine zr_istore (pc := 90) (lv' := [(6, .int z5), (0, .ref (ad 0)), (2, .int v2), (3, .int v3), (4, .int v4), (5, .int v5), (7, .int w1)]) hC (by decide) rfl dX12_ordered_90 ?_
      refine zr_iinc (pc := 92) (k := 6) (lv' := [(7, .int (w1 + (1 : Int32))), (6, .int z5), (0, .ref (ad 0)), (2, .int v2), (3, .int v3), (4, .int v4), (5, .int v5)]) hC zki_1 (by decide) rfl rfl dX12_ordered_92 ?_
      refine zr_goto (pc := 95) (tgt := 58) hC dX12_ordered_95 (by decide) ?_
      obtain rfl := Option.some.inj h
      exact zV.sub (lv' := [(0, .ref (ad 0)), (2, .int v2), (3, .int v3), (4, .int v4), (5, .int v5), (6, .int z5), (7, .int (w1 + (1 : Int32)))]) [2, 3, 4, 5, 6, 1, 0] rfl (hin z5 (w1 + (1 : Int32)) rfl)
  · replace h := zin h c1
    refine zr_iload (pc := 68) hC 5 rfl dX12_ordered_68 ?_
    refine zr_if_le (pc := 70) (tgt := 98) hC dX12_ordered_70 (by decide) (fun c7 => ?_) (fun c7 => ?_)
    · replace h := zip h c7
      obtain rfl := Option.some.inj h
      exact zV.sub (lv' := [(0, .ref (ad 0)), (2, .int v2), (3, .int v3), (4, .int v4), (5, .int v5), (7, .int w1)]) [0, 1, 2, 3, 4, 6] rfl (hout0 w1 rfl)
    · replace h := zin h c7
      refine zr_iload (pc := 73) hC 5 rfl dX12_ordered_73 ?_
      refine zr_iload_n (pc := 75) hC 1 rfl rfl dX12_ordered_75 ?_
      refine zr_iload (pc := 76) hC 6 rfl dX12_ordered_76 ?_
      refine zr_ishr (pc := 78) hC dX12_ordered_78 ?_
      refine zr_iconst (pc := 79) hC zki_1 dX12_ordered_79 ?_
      refine zr_iand (pc := 80) hC dX12_ordered_80 ?_
      refine zr_if_ne (pc := 81) (tgt := 88) hC dX12_ordered_81 (by decide) (fun c8 => ?_) (fun c8 => ?_)
      · replace h := zin h c8
        refine zr_iconst (pc := 88) hC zki_0 dX12_ordered_88 ?_
        refine zr_isub (pc := 89) hC dX12_ordered_89 ?_
        obtain ⟨z9, e10, h⟩ := zle h
        refine zr_topi e10 ?_
        refine zr_istore (pc := 90) (lv' := [(6, .int z9), (0, .ref (ad 0)), (2, .int v2), (3, .int v3), (4, .int v4), (5, .int v5), (7, .int w1)]) hC (by decide) rfl dX12_ordered_90 ?_
        refine zr_iinc (pc := 92) (k := 6) (lv' := [(7, .int (w1 + (1 : Int32))), (6, .int z9), (0, .ref (ad 0)), (2, .int v2), (3, .int v3), (4, .int v4), (5, .int v5)]) hC zki_1 (by decide) rfl rfl dX12_ordered_92 ?_
        refine zr_goto (pc := 95) (tgt := 58) hC dX12_ordered_95 (by decide) ?_
        obtain rfl := Option.some.inj h
        exact zV.sub (lv' := [(0, .ref (ad 0)), (2, .int v2), (3, .int v3), (4, .int v4), (5, .int v5), (6, .int z9), (7, .int (w1 + (1 : Int32)))]) [2, 3, 4, 5, 6, 1, 0] rfl (hin z9 (w1 + (1 : Int32)) rfl)
      · replace h := zip h c8
        refine zr_iconst (pc := 84) hC zki_1 dX12_ordered_84 ?_
        refine zr_goto (pc := 85) (tgt := 89) hC dX12_ordered_85 (by decide) ?_
        refine zr_isub (pc := 89) hC dX12_ordered_89 ?_
        obtain ⟨z11, e12, h⟩ := zle h
        refine zr_topi e12 ?_
        refine zr_istore (pc := 90) (lv' := [(6, .int z11), (0, .ref (ad 0)), (2, .int v2), (3, .int v3), (4, .int v4), (5, .int v5), (7, .int w1)]) hC (by decide) rfl dX12_ordered_90 ?_
        refine zr_iinc (pc := 92) (k := 6) (lv' := [(7, .int (w1 + (1 : Int32))), (6, .int z11), (0, .ref (ad 0)), (2, .int v2), (3, .int v3), (4, .int v4), (5, .int v5)]) hC zki_1 (by decide) rfl rfl dX12_ordered_92 ?_
        refine zr_goto (pc := 95) (tgt := 58) hC dX12_ordered_95 (by decide) ?_
        obtain rfl := Option.some.inj h
        exact zV.sub (lv' := [(0, .ref (ad 0)), (2, .int v2), (3, .int v3), (4, .int v4), (5, .int v5), (6, .int z11), (7, .int (w1 + (1 : Int32)))]) [2, 3, 4, 5, 6, 1, 0] rfl (hin z11 (w1 + (1 : Int32)) rfl)
def xX12_ordered_L35 (w0 : zM) (w1 : Int32) (w2 : Int32) (w3 : Int32) (w4 : Int32) : Option ((zM × Int32 × Int32 × Int32 × Int32) ⊕ zM) :=
  if (w0.1 0 44) ≤ w4 then
  (some (.inr w0))
  else
  if w3 = 0 then none else
  zlet (w2 / w3) fun z3 =>
  zlet (w2 - w2 / w3 * w3) fun z5 =>
  (x_it (fun a9 => xX12_ordered_L58_L35 w0 w1 z5 w3 w4 a9.1 a9.2) zFU (z3, (0 : Int32))).bind fun q7 =>
  if (w4 < 0 ∨ 5 ≤ w4.toNatClampNeg) then none else
  zlet (zsi w0 29 w4.toNatClampNeg q7) fun M9 =>
  zlet (w1 ||| ((1 : Int32) <<< (q7 &&& 31))) fun z11 =>
  if (((M9.1 0 44) - (1 : Int32)) - w4) ≤ 0 then
  (some (.inl (M9, z11, z5, w3, (w4 + (1 : Int32)))))
  else
  if (((M9.1 0 44) - (1 : Int32)) - w4) = 0 then none else
  zlet (w3 / (((M9.1 0 44) - (1 : Int32)) - w4)) fun z15 =>
  some (.inl (M9, z11, z5, z15, (w4 + (1 : Int32))))
set_option maxHeartbeats 4000000 in
set_option maxRecDepth 100000 in
theorem tX12_ordered_L35 {κ : Nat → ClassId} {E : zEn} {ad : Nat → Nat} {X : zX} {w0 : zM} {w1 : Int32} {w2 : Int32} {w3 : Int32} {w4 : Int32} {r : ((zM × Int32 × Int32 × Int32 × Int32) ⊕ zM)} (hC : zC X cX12_ordered RX12 wsX12_ordered vwCl (zty κ) E 8 ({ frames := 0, cells := 0, slots := 0, locals := 0 } : Room)) (hEk : zEk E) (hin : ∀ (x0' : zM) (x1' : Int32) (x2' : Int32) (x3' : Int32) (x4' : Int32), r = .inl (x0', x1', x2', x3', x4') → zV X 0 0 (zwM κ ad x0') [(0, .ref (ad 0)), (2, .int x1'), (3, .int x2'), (4, .int x3'), (5, .int x4')] [] 35) (hout0 : ∀ (x0' : zM), r = .inr x0' → zV X 0 0 (zwM κ ad x0') [] [] 146) (h : xX12_ordered_L35   w0 w1 w2 w3 w4 = some r) : zV X 0 0 (zwM κ ad w0) [(0, .ref (ad 0)), (2, .int w1), (3, .int w2), (4, .int w3), (5, .int w4)] [] 35 := by
  unfold xX12_ordered_L35 at h
  refine zr_iload (pc := 35) hC 4 rfl dX12_ordered_35 ?_
  refine zr_aload_n (pc := 37) hC 0 rfl rfl dX12_ordered_37 ?_
  refine zmg_44 (pc := 38) hC hinX12_ordered_X12 flX12_ordered_299 dX12_ordered_38 ?_
  refine zr_icmp_ge (pc := 41) (tgt := 146) hC dX12_ordered_41 (by decide) (fun c1 => ?_) (fun c1 => ?_)
  · replace h := zip h c1
    obtain rfl := Option.some.inj h
    exact zV.sub (lv' := []) [] rfl (hout0 w0 rfl)
  · replace h := zin h c1
    refine zr_iload_n (pc := 44) hC 2 rfl rfl dX12_ordered_44 ?_
    refine zr_iload (pc := 45) hC 3 rfl dX12_ordered_45 ?_
    obtain ⟨n2, h⟩ := zgd h
    refine zr_idiv (pc := 47) hC n2 dX12_ordered_47 ?_
    obtain ⟨z3, e4, h⟩ := zle h
    refine zr_topi e4 ?_
    refine zr_istore (pc := 48) (lv' := [(6, .int z3), (0, .ref (ad 0)), (2, .int w1), (3, .int w2), (4, .int w3), (5, .int w4)]) hC (by decide) rfl dX12_ordered_48 ?_
    refine zr_iload_n (pc := 50) hC 3 rfl rfl dX12_ordered_50 ?_
    refine zr_iload (pc := 51) hC 4 rfl dX12_ordered_51 ?_
    refine zr_irem (pc := 53) hC n2 dX12_ordered_53 ?_
    obtain ⟨z5, e6, h⟩ := zle h
    refine zr_topi e6 ?_
    refine zr_istore_n (pc := 54) (lv' := [(3, .int z5), (6, .int z3), (0, .ref (ad 0)), (2, .int w1), (4, .int w3), (5, .int w4)]) hC rfl (by decide) rfl dX12_ordered_54 ?_
    refine zr_iconst (pc := 55) hC zki_0 dX12_ordered_55 ?_
    refine zr_istore (pc := 56) (lv' := [(7, .int (0 : Int32)), (3, .int z5), (6, .int z3), (0, .ref (ad 0)), (2, .int w1), (4, .int w3), (5, .int w4)]) hC (by decide) rfl dX12_ordered_56 ?_
    obtain ⟨q7, hq7, h⟩ := zbd h
    refine zV.sub (lv' := [(0, .ref (ad 0)), (2, .int w1), (3, .int z5), (4, .int w3), (5, .int w4), (6, .int z3), (7, .int (0 : Int32))]) [3, 4, 1, 5, 6, 2, 0] rfl ?_
    refine zit2 (Wp := fun (y0 : Int32) (y1 : Int32) => zV X 0 0 (zwM κ ad w0) [(0, .ref (ad 0)), (2, .int w1), (3, .int z5), (4, .int w3), (5, .int w4), (6, .int y0), (7, .int y1)] [] 58) (Ex := fun (b9 : Int32) => zV X 0 0 (zwM κ ad w0) [(0, .ref (ad 0)), (2, .int w1), (3, .int z5), (4, .int w3), (5, .int w4), (7, .int b9)] [] 98) (fun y0 y1 r9 hr hin hout => tX12_ordered_L58_L35 hC hEk hin (fun z0 e9 => hout z0 e9) hr) zFU z3 (0 : Int32) q7 hq7 ?_
    show zV X 0 0 (zwM κ ad w0) [(0, .ref (ad 0)), (2, .int w1), (3, .int z5), (4, .int w3), (5, .int w4), (7, .int q7)] [] 98
    refine zr_aload_n (pc := 98) hC 0 rfl rfl dX12_ordered_98 ?_
    refine zmg_42 (pc := 99) hC hinX12_ordered_X12 flX12_ordered_99 dX12_ordered_99 ?_
    refine zr_iload (pc := 102) hC 4 rfl dX12_ordered_102 ?_
    refine zr_iload (pc := 104) hC 5 rfl dX12_ordered_104 ?_
    obtain ⟨i8, h⟩ := zgd h
    obtain ⟨M9, e10, h⟩ := zle h
    refine zms_29 (pc := 106) hC i8 e10 dX12_ordered_106 ?_
    refine zr_iload_n (pc := 107) hC 1 rfl rfl dX12_ordered_107 ?_
    refine zr_iconst (pc := 108) hC zki_1 dX12_ordered_108 ?_
    refine zr_iload (pc := 109) hC 5 rfl dX12_ordered_109 ?_
    refine zr_ishl (pc := 111) hC dX12_ordered_111 ?_
    refine zr_ior (pc := 112) hC dX12_ordered_112 ?_
    obtain ⟨z11, e12, h⟩ := zle h
    refine zr_topi e12 ?_
    refine zr_istore_n (pc := 113) (lv' := [(2, .int z11), (0, .ref (ad 0)), (3, .int z5), (4, .int w3), (5, .int w4), (7, .int q7)]) hC rfl (by decide) rfl dX12_ordered_113 ?_
    refine zr_aload_n (pc := 114) hC 1 rfl rfl dX12_ordered_114 ?_
    refine zmg_44 (pc := 115) hC hinX12_ordered_X12 flX12_ordered_299 dX12_ordered_115 ?_
    refine zr_iconst (pc := 118) hC zki_1 dX12_ordered_118 ?_
    refine zr_isub (pc := 119) hC dX12_ordered_119 ?_
    refine zr_iload (pc := 120) hC 4 rfl dX12_ordered_120 ?_
    refine zr_isub (pc := 122) hC dX12_ordered_122 ?_
    refine zr_if_le (pc := 123) (tgt := 140) hC dX12_ordered_123 (by decide) (fun c13 => ?_) (fun c13 => ?_)
    · replace h := zip h c13
      refine zr_iinc (pc := 140) (k := 4) (lv' := [(5, .int (w4 + (1 : Int32))), (2, .int z11), (0, .ref (ad 0)), (3, .int z5), (4, .int w3), (7, .int q7)]) hC zki_1 (by decide) rfl rfl dX12_ordered_140 ?_
      refine zr_goto (pc := 143) (tgt := 35) hC dX12_ordered_143 (by decide) ?_
      obtain rfl := Option.some.inj h
      exact zV.sub (lv' := [(0, .ref (ad 0)), (2, .int z11), (3, .int z5), (4, .int w3), (5, .int (w4 + (1 : Int32)))]) [2, 1, 3, 4, 0] rfl (hin M9 z11 z5 w3 (w4 + (1 : Int32)) rfl)
    · replace h := zin h c13
      refine zr_iload (pc := 126) hC 3 rfl dX12_ordered_126 ?_
      refine zr_aload_n (pc := 128) hC 1 rfl rfl dX12_ordered_128 ?_
      refine zmg_44 (pc := 129) hC hinX12_ordered_X12 flX12_ordered_299 dX12_ordered_129 ?_
      refine zr_iconst (pc := 132) hC zki_1 dX12_ordered_132 ?_
      refine zr_isub (pc := 133) hC dX12_ordered_133 ?_
      refine zr_iload (pc := 134) hC 4 rfl dX12_ordered_134 ?_
      refine zr_isub (pc := 136) hC dX12_ordered_136 ?_
      obtain ⟨n14, h⟩ := zgd h
      refine zr_idiv (pc := 137) hC n14 dX12_ordered_137 ?_
      obtain ⟨z15, e16, h⟩ := zle h
      refine zr_topi e16 ?_
      refine zr_istore (pc := 138) (lv' := [(4, .int z15), (2, .int z11), (0, .ref (ad 0)), (3, .int z5), (5, .int w4), (7, .int q7)]) hC (by decide) rfl dX12_ordered_138 ?_
      refine zr_iinc (pc := 140) (k := 4) (lv' := [(5, .int (w4 + (1 : Int32))), (4, .int z15), (2, .int z11), (0, .ref (ad 0)), (3, .int z5), (7, .int q7)]) hC zki_1 (by decide) rfl rfl dX12_ordered_140 ?_
      refine zr_goto (pc := 143) (tgt := 35) hC dX12_ordered_143 (by decide) ?_
      obtain rfl := Option.some.inj h
      exact zV.sub (lv' := [(0, .ref (ad 0)), (2, .int z11), (3, .int z5), (4, .int z15), (5, .int (w4 + (1 : Int32)))]) [3, 2, 4, 1, 0] rfl (hin M9 z11 z5 z15 (w4 + (1 : Int32)) rfl)
def xX12_ordered (M : zM) (v1 : Int32) : Option zM :=
  (x_it (fun a9 => xX12_ordered_L10 M (0 : Int32) v1 a9.1 a9.2) zFU ((1 : Int32), (2 : Int32))).bind fun q1 =>
  (x_it (fun a9 => xX12_ordered_L35 a9.1 a9.2.1 a9.2.2.1 a9.2.2.2.1 a9.2.2.2.2) zFU (M, (0 : Int32), v1, q1, (0 : Int32))).bind fun q2 =>
  some q2
set_option maxHeartbeats 4000000 in
set_option maxRecDepth 100000 in
theorem tX12_ordered {κ : Nat → ClassId} {E : zEn} {ad : Nat → Nat} (hEk : zEk E) {M : zM} {v1 : Int32} {res : zM} (h : xX12_ordered M v1 = some res) (l : Launch) (D : va_G) : zCT E D vwCl (zty κ) l yX12_ordered wsX12_ordered ({ frames := 0, cells := 0, slots := 0, locals := 0 } : Room) 0 0 [.ref (ad 0), .int v1] (zwM κ ad M) (zPd none (zwM κ ad res)) := by
  refine zCT.of (cc := cX12_ordered) (maxL := 8) (ret := none) (by decide) rfl (Nat.le_of_ble_eq_true rfl) ?_
  intro X hC hR
  unfold xX12_ordered at h
  refine zV.sub (lv' := [(0, .ref (ad 0)), (1, .int v1)]) [0, 1] rfl ?_
  refine zr_iconst (pc := 0) hC zki_0 dX12_ordered_0 ?_
  refine zr_istore_n (pc := 1) (lv' := [(2, .int (0 : Int32)), (0, .ref (ad 0)), (1, .int v1)]) hC rfl (by decide) rfl dX12_ordered_1 ?_
  refine zr_iload_n (pc := 2) hC 2 rfl rfl dX12_ordered_2 ?_
  refine zr_istore_n (pc := 3) (lv' := [(3, .int v1), (2, .int (0 : Int32)), (0, .ref (ad 0)), (1, .int v1)]) hC rfl (by decide) rfl dX12_ordered_3 ?_
  refine zr_iconst (pc := 4) hC zki_1 dX12_ordered_4 ?_
  refine zr_istore (pc := 5) (lv' := [(4, .int (1 : Int32)), (3, .int v1), (2, .int (0 : Int32)), (0, .ref (ad 0)), (1, .int v1)]) hC (by decide) rfl dX12_ordered_5 ?_
  refine zr_iconst (pc := 7) hC zki_2 dX12_ordered_7 ?_
  refine zr_istore (pc := 8) (lv' := [(5, .int (2 : Int32)), (4, .int (1 : Int32)), (3, .int v1), (2, .int (0 : Int32)), (0, .ref (ad 0)), (1, .int v1)]) hC (by decide) rfl dX12_ordered_8 ?_
  obtain ⟨q1, hq1, h⟩ := zbd h
  refine zV.sub (lv' := [(0, .ref (ad 0)), (2, .int (0 : Int32)), (3, .int v1), (4, .int (1 : Int32)), (5, .int (2 : Int32))]) [4, 3, 2, 1, 0] rfl ?_
  refine zit2 (Wp := fun (y0 : Int32) (y1 : Int32) => zV X 0 0 (zwM κ ad M) [(0, .ref (ad 0)), (2, .int (0 : Int32)), (3, .int v1), (4, .int y0), (5, .int y1)] [] 10) (Ex := fun (b9 : Int32) => zV X 0 0 (zwM κ ad M) [(0, .ref (ad 0)), (2, .int (0 : Int32)), (3, .int v1), (4, .int b9)] [] 32) (fun y0 y1 r9 hr hin hout => tX12_ordered_L10 hC hEk hin (fun z0 e9 => hout z0 e9) hr) zFU (1 : Int32) (2 : Int32) q1 hq1 ?_
  show zV X 0 0 (zwM κ ad M) [(0, .ref (ad 0)), (2, .int (0 : Int32)), (3, .int v1), (4, .int q1)] [] 32
  refine zr_iconst (pc := 32) hC zki_0 dX12_ordered_32 ?_
  refine zr_istore (pc := 33) (lv' := [(5, .int (0 : Int32)), (0, .ref (ad 0)), (2, .int (0 : Int32)), (3, .int v1), (4, .int q1)]) hC (by decide) rfl dX12_ordered_33 ?_
  obtain ⟨q2, hq2, h⟩ := zbd h
  refine zV.sub (lv' := [(0, .ref (ad 0)), (2, .int (0 : Int32)), (3, .int v1), (4, .int q1), (5, .int (0 : Int32))]) [1, 2, 3, 4, 0] rfl ?_
  refine zit5 (Wp := fun (y0 : zM) (y1 : Int32) (y2 : Int32) (y3 : Int32) (y4 : Int32) => zV X 0 0 (zwM κ ad y0) [(0, .ref (ad 0)), (2, .int y1), (3, .int y2), (4, .int y3), (5, .int y4)] [] 35) (Ex := fun (b9 : zM) => zV X 0 0 (zwM κ ad b9) [] [] 146) (fun y0 y1 y2 y3 y4 r9 hr hin hout => tX12_ordered_L35 hC hEk hin (fun z0 e9 => hout z0 e9) hr) zFU M (0 : Int32) v1 q1 (0 : Int32) q2 hq2 ?_
  show zV X 0 0 (zwM κ ad q2) [] [] 146
  obtain rfl := Option.some.inj h
  exact zr_vret hC hR ⟨rfl, rfl⟩ (Nat.le_refl _) (Nat.le_refl _) dX12_ordered_146
/-! X12_best -/
theorem hyX12_best : yX12_best.cls = RX12 ∧ yX12_best.cls ≠ "java/lang/invoke/MethodHandle" ∧ yX12_best.cls ≠ "java/lang/invoke/VarHandle" ∧ (parseMethodDescriptor yX12_best.desc).map (fun d => d.parameters.length) = some 2 := by decide +kernel
theorem flX12_best_102 : Cond.fieldLink RX12 102 "BeforeTheEndModel" "bestOrder" "[I" ∈ wsX12_best := by decide +kernel
theorem flX12_best_299 : Cond.fieldLink RX12 299 "BeforeTheEndModel" "facts" "I" ∈ wsX12_best := by decide +kernel
theorem flX12_best_99 : Cond.fieldLink RX12 99 "BeforeTheEndModel" "order" "[I" ∈ wsX12_best := by decide +kernel
theorem hinX12_best_X12 : ∀ w ∈ wsX120, w ∈ wsX12_best := fun _ h => List.mem_cons_of_mem _ (List.mem_append_right _ h)
def xX12_best_L17 (M : zM) (v1 : Int32) (v2 : Int32) (w0 : Int32) (w1 : Int32) : Option ((Int32 × Int32) ⊕ Int32) :=
  if (M.1 0 44) < w1 then
  (some (.inr w0))
  else
  zlet (w0 * w1) fun z2 =>
  some (.inl (z2, (w1 + (1 : Int32))))
set_option maxHeartbeats 4000000 in
set_option maxRecDepth 100000 in
theorem tX12_best_L17 {κ : Nat → ClassId} {E : zEn} {ad : Nat → Nat} {X : zX} {M : zM} {v1 : Int32} {v2 : Int32} {w0 : Int32} {w1 : Int32} {r : ((Int32 × Int32) ⊕ Int32)} (hC : zC X cX12_best RX12 wsX12_best vwCl (zty κ) E 8 ({ frames := 2, cells := 0, slots := 0, locals := 45 } : Room)) (hEk : zEk E) (hin : ∀ (x0' : Int32) (x1' : Int32), r = .inl (x0', x1') → zV X 0 0 (zwM κ ad M) [(0, .ref (ad 0)), (1, .int v1), (2, .int v2), (3, .int x0'), (4, .int x1')] [] 17) (hout0 : ∀ (x0' : Int32), r = .inr x0' → zV X 0 0 (zwM κ ad M) [(0, .ref (ad 0)), (1, .int v1), (2, .int v2), (3, .int x0')] [] 37) (h : xX12_best_L17 M v1 v2 w0 w1 = some r) : zV X 0 0 (zwM κ ad M) [(0, .ref (ad 0)), (1, .int v1), (2, .int v2), (3, .int w0), (4, .int w1)] [] 17 := by
  unfold xX12_best_L17 at h
  refine zr_iload (pc := 17) hC 4 rfl dX12_best_17 ?_
  refine zr_aload_n (pc := 19) hC 0 rfl rfl dX12_best_19 ?_
  refine zmg_44 (pc := 20) hC hinX12_best_X12 flX12_best_299 dX12_best_20 ?_
  refine zr_icmp_gt (pc := 23) (tgt := 37) hC dX12_best_23 (by decide) (fun c1 => ?_) (fun c1 => ?_)
  · replace h := zip h c1
    obtain rfl := Option.some.inj h
    exact zV.sub (lv' := [(0, .ref (ad 0)), (1, .int v1), (2, .int v2), (3, .int w0)]) [0, 1, 2, 3] rfl (hout0 w0 rfl)
  · replace h := zin h c1
    refine zr_iload_n (pc := 26) hC 3 rfl rfl dX12_best_26 ?_
    refine zr_iload (pc := 27) hC 4 rfl dX12_best_27 ?_
    refine zr_imul (pc := 29) hC dX12_best_29 ?_
    obtain ⟨z2, e3, h⟩ := zle h
    refine zr_topi e3 ?_
    refine zr_istore_n (pc := 30) (lv' := [(3, .int z2), (0, .ref (ad 0)), (1, .int v1), (2, .int v2), (4, .int w1)]) hC rfl (by decide) rfl dX12_best_30 ?_
    refine zr_iinc (pc := 31) (k := 4) (lv' := [(4, .int (w1 + (1 : Int32))), (3, .int z2), (0, .ref (ad 0)), (1, .int v1), (2, .int v2)]) hC zki_1 (by decide) rfl rfl dX12_best_31 ?_
    refine zr_goto (pc := 34) (tgt := 17) hC dX12_best_34 (by decide) ?_
    obtain rfl := Option.some.inj h
    exact zV.sub (lv' := [(0, .ref (ad 0)), (1, .int v1), (2, .int v2), (3, .int z2), (4, .int (w1 + (1 : Int32)))]) [2, 3, 4, 1, 0] rfl (hin z2 (w1 + (1 : Int32)) rfl)
def xX12_best_L101_L43 (v1 : Int32) (v2 : Int32) (v3 : Int32) (v4 : Int32) (v5 : Int32) (w0 : zM) (w1 : Int32) : Option ((zM × Int32) ⊕ zM) :=
  if (w0.1 0 44) ≤ w1 then
  (some (.inr w0))
  else
  if (w1 < 0 ∨ 5 ≤ w1.toNatClampNeg) then none else
  zlet (zsi w0 30 w1.toNatClampNeg (w0.1 29 w1.toNatClampNeg)) fun M3 =>
  some (.inl (M3, (w1 + (1 : Int32))))
set_option maxHeartbeats 4000000 in
set_option maxRecDepth 100000 in
theorem tX12_best_L101_L43 {κ : Nat → ClassId} {E : zEn} {ad : Nat → Nat} {X : zX} {v1 : Int32} {v2 : Int32} {v3 : Int32} {v4 : Int32} {v5 : Int32} {w0 : zM} {w1 : Int32} {r : ((zM × Int32) ⊕ zM)} (hC : zC X cX12_best RX12 wsX12_best vwCl (zty κ) E 8 ({ frames := 2, cells := 0, slots := 0, locals := 45 } : Room)) (hEk : zEk E) (hin : ∀ (x0' : zM) (x1' : Int32), r = .inl (x0', x1') → zV X 0 0 (zwM κ ad x0') [(0, .ref (ad 0)), (1, .int v1), (2, .int v2), (3, .int v3), (4, .int v4), (5, .int v5), (7, .int x1')] [] 101) (hout0 : ∀ (x0' : zM), r = .inr x0' → zV X 0 0 (zwM κ ad x0') [(0, .ref (ad 0)), (1, .int v1), (2, .int v2), (3, .int v3), (4, .int v4), (5, .int v5)] [] 130) (h : xX12_best_L101_L43  v1 v2 v3 v4 v5 w0 w1 = some r) : zV X 0 0 (zwM κ ad w0) [(0, .ref (ad 0)), (1, .int v1), (2, .int v2), (3, .int v3), (4, .int v4), (5, .int v5), (7, .int w1)] [] 101 := by
  unfold xX12_best_L101_L43 at h
  refine zr_iload (pc := 101) hC 6 rfl dX12_best_101 ?_
  refine zr_aload_n (pc := 103) hC 0 rfl rfl dX12_best_103 ?_
  refine zmg_44 (pc := 104) hC hinX12_best_X12 flX12_best_299 dX12_best_104 ?_
  refine zr_icmp_ge (pc := 107) (tgt := 130) hC dX12_best_107 (by decide) (fun c1 => ?_) (fun c1 => ?_)
  · replace h := zip h c1
    obtain rfl := Option.some.inj h
    exact zV.sub (lv' := [(0, .ref (ad 0)), (1, .int v1), (2, .int v2), (3, .int v3), (4, .int v4), (5, .int v5)]) [0, 1, 2, 3, 4, 5] rfl (hout0 w0 rfl)
  · replace h := zin h c1
    refine zr_aload_n (pc := 110) hC 0 rfl rfl dX12_best_110 ?_
    refine zmg_43 (pc := 111) hC hinX12_best_X12 flX12_best_102 dX12_best_111 ?_
    refine zr_iload (pc := 114) hC 6 rfl dX12_best_114 ?_
    refine zr_aload_n (pc := 116) hC 0 rfl rfl dX12_best_116 ?_
    refine zmg_42 (pc := 117) hC hinX12_best_X12 flX12_best_99 dX12_best_117 ?_
    refine zr_iload (pc := 120) hC 6 rfl dX12_best_120 ?_
    obtain ⟨i2, h⟩ := zgd h
    refine zml_29 (pc := 122) hC i2 dX12_best_122 ?_
    obtain ⟨M3, e4, h⟩ := zle h
    refine zms_30 (pc := 123) hC i2 e4 dX12_best_123 ?_
    refine zr_iinc (pc := 124) (k := 6) (lv' := [(7, .int (w1 + (1 : Int32))), (0, .ref (ad 0)), (1, .int v1), (2, .int v2), (3, .int v3), (4, .int v4), (5, .int v5)]) hC zki_1 (by decide) rfl rfl dX12_best_124 ?_
    refine zr_goto (pc := 127) (tgt := 101) hC dX12_best_127 (by decide) ?_
    obtain rfl := Option.some.inj h
    exact zV.sub (lv' := [(0, .ref (ad 0)), (1, .int v1), (2, .int v2), (3, .int v3), (4, .int v4), (5, .int v5), (7, .int (w1 + (1 : Int32)))]) [1, 2, 3, 4, 5, 6, 0] rfl (hin M3 (w1 + (1 : Int32)) rfl)
def xX12_best_L43 (v1 : Int32) (v2 : Int32) (v3 : Int32) (w0 : zM) (w1 : Int32) (w2 : Int32) : Option ((zM × Int32 × Int32) ⊕ (zM × Int32)) :=
  if v3 ≤ w2 then
  (some (.inr (w0, w1)))
  else
  (xX12_ordered w0 w2).bind fun q2 =>
  (xX12_hadOf q2 (q2.1 0 44)).bind fun q3 =>
  if w2 ≤ 0 then
  ((x_it (fun a9 => xX12_best_L101_L43 v1 v2 v3 q3 w2 a9.1 a9.2) zFU (q2, (0 : Int32))).bind fun q5 =>
  some (.inl (q5, q3, (w2 + (1 : Int32)))))
  else
  if v1 = 0 then
  (if q3 < w1 then
  ((x_it (fun a9 => xX12_best_L101_L43 v1 v2 v3 q3 w2 a9.1 a9.2) zFU (q2, (0 : Int32))).bind fun q8 =>
  some (.inl (q8, q3, (w2 + (1 : Int32)))))
  else
  some (.inl (q2, w1, (w2 + (1 : Int32)))))
  else
  if w1 < q3 then
  ((x_it (fun a9 => xX12_best_L101_L43 v1 v2 v3 q3 w2 a9.1 a9.2) zFU (q2, (0 : Int32))).bind fun q10 =>
  some (.inl (q10, q3, (w2 + (1 : Int32)))))
  else
  some (.inl (q2, w1, (w2 + (1 : Int32))))
set_option maxHeartbeats 4000000 in
set_option maxRecDepth 100000 in
theorem tX12_best_L43 {κ : Nat → ClassId} {E : zEn} {ad : Nat → Nat} {X : zX} {v1 : Int32} {v2 : Int32} {v3 : Int32} {w0 : zM} {w1 : Int32} {w2 : Int32} {r : ((zM × Int32 × Int32) ⊕ (zM × Int32))} (hC : zC X cX12_best RX12 wsX12_best vwCl (zty κ) E 8 ({ frames := 2, cells := 0, slots := 0, locals := 45 } : Room)) (hEk : zEk E) (hin : ∀ (x0' : zM) (x1' : Int32) (x2' : Int32), r = .inl (x0', x1', x2') → zV X 0 0 (zwM κ ad x0') [(0, .ref (ad 0)), (1, .int v1), (2, .int v2), (3, .int v3), (4, .int x1'), (5, .int x2')] [] 43) (hout0 : ∀ (x0' : zM) (x1' : Int32), r = .inr (x0', x1') → zV X 0 0 (zwM κ ad x0') [(0, .ref (ad 0)), (2, .int v2), (4, .int x1')] [] 136) (h : xX12_best_L43  v1 v2 v3 w0 w1 w2 = some r) : zV X 0 0 (zwM κ ad w0) [(0, .ref (ad 0)), (1, .int v1), (2, .int v2), (3, .int v3), (4, .int w1), (5, .int w2)] [] 43 := by
  unfold xX12_best_L43 at h
  refine zr_iload (pc := 43) hC 5 rfl dX12_best_43 ?_
  refine zr_iload_n (pc := 45) hC 3 rfl rfl dX12_best_45 ?_
  refine zr_icmp_ge (pc := 46) (tgt := 136) hC dX12_best_46 (by decide) (fun c1 => ?_) (fun c1 => ?_)
  · replace h := zip h c1
    obtain rfl := Option.some.inj h
    exact zV.sub (lv' := [(0, .ref (ad 0)), (2, .int v2), (4, .int w1)]) [0, 2, 4] rfl (hout0 w0 w1 rfl)
  · replace h := zin h c1
    refine zr_aload_n (pc := 49) hC 0 rfl rfl dX12_best_49 ?_
    refine zr_iload (pc := 50) hC 5 rfl dX12_best_50 ?_
    obtain ⟨q2, hq2, h⟩ := zbd h
    refine zr_cVv (pc := 52) hC hEk [.int w2] [] 0 1 (fun l D => tX12_ordered hEk hq2 l D) gX12_best_X12_ordered rfl rfl rfl ⟨Nat.le_of_ble_eq_true rfl, Nat.le_of_ble_eq_true rfl⟩ hyX12_ordered (by decide) entM_0 rfl rfl rfl (Nat.le_of_ble_eq_true rfl) ⟨Nat.le_of_ble_eq_true rfl, Nat.le_of_ble_eq_true rfl⟩ dX12_best_52 ?_
    refine zr_aload_n (pc := 55) hC 0 rfl rfl dX12_best_55 ?_
    refine zr_aload_n (pc := 56) hC 0 rfl rfl dX12_best_56 ?_
    refine zmg_44 (pc := 57) hC hinX12_best_X12 flX12_best_299 dX12_best_57 ?_
    obtain ⟨q3, hq3, h⟩ := zbd h
    refine zr_cVi (pc := 60) hC hEk [.int (q2.1 0 44)] [] 0 1 (fun l D => tX12_hadOf hEk hq3 l D) gX12_best_X12_hadOf rfl rfl rfl ⟨Nat.le_of_ble_eq_true rfl, Nat.le_of_ble_eq_true rfl⟩ hyX12_hadOf (by decide) entM_0 rfl rfl rfl (Nat.le_of_ble_eq_true rfl) ⟨Nat.le_of_ble_eq_true rfl, Nat.le_of_ble_eq_true rfl⟩ dX12_best_60 ?_
    refine zr_istore (pc := 63) (lv' := [(6, .int q3), (0, .ref (ad 0)), (1, .int v1), (2, .int v2), (3, .int v3), (4, .int w1), (5, .int w2)]) hC (by decide) rfl dX12_best_63 ?_
    refine zr_iload (pc := 65) hC 6 rfl dX12_best_65 ?_
    refine zr_if_le (pc := 67) (tgt := 94) hC dX12_best_67 (by decide) (fun c4 => ?_) (fun c4 => ?_)
    · replace h := zip h c4
      refine zr_iload (pc := 94) hC 0 rfl dX12_best_94 ?_
      refine zr_istore (pc := 96) (lv' := [(4, .int q3), (6, .int q3), (0, .ref (ad 0)), (1, .int v1), (2, .int v2), (3, .int v3), (5, .int w2)]) hC (by decide) rfl dX12_best_96 ?_
      refine zr_iconst (pc := 98) hC zki_0 dX12_best_98 ?_
      refine zr_istore (pc := 99) (lv' := [(7, .int (0 : Int32)), (4, .int q3), (6, .int q3), (0, .ref (ad 0)), (1, .int v1), (2, .int v2), (3, .int v3), (5, .int w2)]) hC (by decide) rfl dX12_best_99 ?_
      obtain ⟨q5, hq5, h⟩ := zbd h
      refine zV.sub (lv' := [(0, .ref (ad 0)), (1, .int v1), (2, .int v2), (3, .int v3), (4, .int q3), (5, .int w2), (7, .int (0 : Int32))]) [3, 4, 5, 6, 1, 7, 0] rfl ?_
      refine zit2 (Wp := fun (y0 : zM) (y1 : Int32) => zV X 0 0 (zwM κ ad y0) [(0, .ref (ad 0)), (1, .int v1), (2, .int v2), (3, .int v3), (4, .int q3), (5, .int w2), (7, .int y1)] [] 101) (Ex := fun (b9 : zM) => zV X 0 0 (zwM κ ad b9) [(0, .ref (ad 0)), (1, .int v1), (2, .int v2), (3, .int v3), (4, .int q3), (5, .int w2)] [] 130) (fun y0 y1 r9 hr hin hout => tX12_best_L101_L43 hC hEk hin (fun z0 e9 => hout z0 e9) hr) zFU q2 (0 : Int32) q5 hq5 ?_
      show zV X 0 0 (zwM κ ad q5) [(0, .ref (ad 0)), (1, .int v1), (2, .int v2), (3, .int v3), (4, .int q3), (5, .int w2)] [] 130
      refine zr_iinc (pc := 130) (k := 5) (lv' := [(5, .int (w2 + (1 : Int32))), (0, .ref (ad 0)), (1, .int v1), (2, .int v2), (3, .int v3), (4, .int q3)]) hC zki_1 (by decide) rfl rfl dX12_best_130 ?_
      refine zr_goto (pc := 133) (tgt := 43) hC dX12_best_133 (by decide) ?_
      obtain rfl := Option.some.inj h
      exact zV.sub (lv' := [(0, .ref (ad 0)), (1, .int v1), (2, .int v2), (3, .int v3), (4, .int q3), (5, .int (w2 + (1 : Int32)))]) [1, 2, 3, 4, 5, 0] rfl (hin q5 q3 (w2 + (1 : Int32)) rfl)
    · replace h := zin h c4
      refine zr_iload_n (pc := 70) hC 2 rfl rfl dX12_best_70 ?_
      refine zr_if_eq (pc := 71) (tgt := 84) hC dX12_best_71 (by decide) (fun c6 => ?_) (fun c6 => ?_)
      · replace h := zip h c6
        refine zr_iload (pc := 84) hC 0 rfl dX12_best_84 ?_
        refine zr_iload (pc := 86) hC 5 rfl dX12_best_86 ?_
        refine zr_icmp_lt (pc := 88) (tgt := 94) hC dX12_best_88 (by decide) (fun c7 => ?_) (fun c7 => ?_)
        · replace h := zip h c7
          refine zr_iload (pc := 94) hC 0 rfl dX12_best_94 ?_
          refine zr_istore (pc := 96) (lv' := [(4, .int q3), (6, .int q3), (0, .ref (ad 0)), (1, .int v1), (2, .int v2), (3, .int v3), (5, .int w2)]) hC (by decide) rfl dX12_best_96 ?_
          refine zr_iconst (pc := 98) hC zki_0 dX12_best_98 ?_
          refine zr_istore (pc := 99) (lv' := [(7, .int (0 : Int32)), (4, .int q3), (6, .int q3), (0, .ref (ad 0)), (1, .int v1), (2, .int v2), (3, .int v3), (5, .int w2)]) hC (by decide) rfl dX12_best_99 ?_
          obtain ⟨q8, hq8, h⟩ := zbd h
          refine zV.sub (lv' := [(0, .ref (ad 0)), (1, .int v1), (2, .int v2), (3, .int v3), (4, .int q3), (5, .int w2), (7, .int (0 : Int32))]) [3, 4, 5, 6, 1, 7, 0] rfl ?_
          refine zit2 (Wp := fun (y0 : zM) (y1 : Int32) => zV X 0 0 (zwM κ ad y0) [(0, .ref (ad 0)), (1, .int v1), (2, .int v2), (3, .int v3), (4, .int q3), (5, .int w2), (7, .int y1)] [] 101) (Ex := fun (b9 : zM) => zV X 0 0 (zwM κ ad b9) [(0, .ref (ad 0)), (1, .int v1), (2, .int v2), (3, .int v3), (4, .int q3), (5, .int w2)] [] 130) (fun y0 y1 r9 hr hin hout => tX12_best_L101_L43 hC hEk hin (fun z0 e9 => hout z0 e9) hr) zFU q2 (0 : Int32) q8 hq8 ?_
          show zV X 0 0 (zwM κ ad q8) [(0, .ref (ad 0)), (1, .int v1), (2, .int v2), (3, .int v3), (4, .int q3), (5, .int w2)] [] 130
          refine zr_iinc (pc := 130) (k := 5) (lv' := [(5, .int (w2 + (1 : Int32))), (0, .ref (ad 0)), (1, .int v1), (2, .int v2), (3, .int v3), (4, .int q3)]) hC zki_1 (by decide) rfl rfl dX12_best_130 ?_
          refine zr_goto (pc := 133) (tgt := 43) hC dX12_best_133 (by decide) ?_
          obtain rfl := Option.some.inj h
          exact zV.sub (lv' := [(0, .ref (ad 0)), (1, .int v1), (2, .int v2), (3, .int v3), (4, .int q3), (5, .int (w2 + (1 : Int32)))]) [1, 2, 3, 4, 5, 0] rfl (hin q8 q3 (w2 + (1 : Int32)) rfl)
        · replace h := zin h c7
          refine zr_goto (pc := 91) (tgt := 130) hC dX12_best_91 (by decide) ?_
          refine zr_iinc (pc := 130) (k := 6) (lv' := [(5, .int (w2 + (1 : Int32))), (6, .int q3), (0, .ref (ad 0)), (1, .int v1), (2, .int v2), (3, .int v3), (4, .int w1)]) hC zki_1 (by decide) rfl rfl dX12_best_130 ?_
          refine zr_goto (pc := 133) (tgt := 43) hC dX12_best_133 (by decide) ?_
          obtain rfl := Option.some.inj h
          exact zV.sub (lv' := [(0, .ref (ad 0)), (1, .int v1), (2, .int v2), (3, .int v3), (4, .int w1), (5, .int (w2 + (1 : Int32)))]) [2, 3, 4, 5, 6, 0] rfl (hin q2 w1 (w2 + (1 : Int32)) rfl)
      · replace h := zin h c6
        refine zr_iload (pc := 74) hC 0 rfl dX12_best_74 ?_
        refine zr_iload (pc := 76) hC 5 rfl dX12_best_76 ?_
        refine zr_icmp_gt (pc := 78) (tgt := 94) hC dX12_best_78 (by decide) (fun c9 => ?_) (fun c9 => ?_)
        · replace h := zip h c9
          refine zr_iload (pc := 94) hC 0 rfl dX12_best_94 ?_
          refine zr_istore (pc := 96) (lv' := [(4, .int q3), (6, .int q3), (0, .ref (ad 0)), (1, .int v1), (2, .int v2), (3, .int v3), (5, .int w2)]) hC (by decide) rfl dX12_best_96 ?_
          refine zr_iconst (pc := 98) hC zki_0 dX12_best_98 ?_
          refine zr_istore (pc := 99) (lv' := [(7, .int (0 : Int32)), (4, .int q3), (6, .int q3), (0, .ref (ad 0)), (1, .int v1), (2, .int v2), (3, .int v3), (5, .int w2)]) hC (by decide) rfl dX12_best_99 ?_
          obtain ⟨q10, hq10, h⟩ := zbd h
          refine zV.sub (lv' := [(0, .ref (ad 0)), (1, .int v1), (2, .int v2), (3, .int v3), (4, .int q3), (5, .int w2), (7, .int (0 : Int32))]) [3, 4, 5, 6, 1, 7, 0] rfl ?_
          refine zit2 (Wp := fun (y0 : zM) (y1 : Int32) => zV X 0 0 (zwM κ ad y0) [(0, .ref (ad 0)), (1, .int v1), (2, .int v2), (3, .int v3), (4, .int q3), (5, .int w2), (7, .int y1)] [] 101) (Ex := fun (b9 : zM) => zV X 0 0 (zwM κ ad b9) [(0, .ref (ad 0)), (1, .int v1), (2, .int v2), (3, .int v3), (4, .int q3), (5, .int w2)] [] 130) (fun y0 y1 r9 hr hin hout => tX12_best_L101_L43 hC hEk hin (fun z0 e9 => hout z0 e9) hr) zFU q2 (0 : Int32) q10 hq10 ?_
          show zV X 0 0 (zwM κ ad q10) [(0, .ref (ad 0)), (1, .int v1), (2, .int v2), (3, .int v3), (4, .int q3), (5, .int w2)] [] 130
          refine zr_iinc (pc := 130) (k := 5) (lv' := [(5, .int (w2 + (1 : Int32))), (0, .ref (ad 0)), (1, .int v1), (2, .int v2), (3, .int v3), (4, .int q3)]) hC zki_1 (by decide) rfl rfl dX12_best_130 ?_
          refine zr_goto (pc := 133) (tgt := 43) hC dX12_best_133 (by decide) ?_
          obtain rfl := Option.some.inj h
          exact zV.sub (lv' := [(0, .ref (ad 0)), (1, .int v1), (2, .int v2), (3, .int v3), (4, .int q3), (5, .int (w2 + (1 : Int32)))]) [1, 2, 3, 4, 5, 0] rfl (hin q10 q3 (w2 + (1 : Int32)) rfl)
        · replace h := zin h c9
          refine zr_goto (pc := 81) (tgt := 130) hC dX12_best_81 (by decide) ?_
          refine zr_iinc (pc := 130) (k := 6) (lv' := [(5, .int (w2 + (1 : Int32))), (6, .int q3), (0, .ref (ad 0)), (1, .int v1), (2, .int v2), (3, .int v3), (4, .int w1)]) hC zki_1 (by decide) rfl rfl dX12_best_130 ?_
          refine zr_goto (pc := 133) (tgt := 43) hC dX12_best_133 (by decide) ?_
          obtain rfl := Option.some.inj h
          exact zV.sub (lv' := [(0, .ref (ad 0)), (1, .int v1), (2, .int v2), (3, .int v3), (4, .int w1), (5, .int (w2 + (1 : Int32)))]) [2, 3, 4, 5, 6, 0] rfl (hin q2 w1 (w2 + (1 : Int32)) rfl)
def xX12_best (M : zM) (v1 : Int32) (v2 : Int32) : Option (Int32 × zM) :=
  if (-1 : Int32) ≤ v2 then
  ((x_it (fun a9 => xX12_best_L17 M v1 v2 a9.1 a9.2) zFU ((1 : Int32), (2 : Int32))).bind fun q2 =>
  (x_it (fun a9 => xX12_best_L43 v1 v2 q2 a9.1 a9.2.1 a9.2.2) zFU (M, (0 : Int32), (0 : Int32))).bind fun q3 =>
  if v2 = (-1 : Int32) then
  (some (q3.2, q3.1))
  else
  if (q3.1.1 0 44) ≤ v2 then
  (some ((-9 : Int32), q3.1))
  else
  if (v2 < 0 ∨ 5 ≤ v2.toNatClampNeg) then none else
  some ((q3.1.1 30 v2.toNatClampNeg), q3.1))
  else
  (xX12_no M (-4 : Int32)).bind fun q7 =>
  some (q7.1, q7.2)
set_option maxHeartbeats 4000000 in
set_option maxRecDepth 100000 in
theorem tX12_best {κ : Nat → ClassId} {E : zEn} {ad : Nat → Nat} (hEk : zEk E) {M : zM} {v1 : Int32} {v2 : Int32} {res : (Int32 × zM)} (h : xX12_best M v1 v2 = some res) (l : Launch) (D : va_G) : zCT E D vwCl (zty κ) l yX12_best wsX12_best ({ frames := 2, cells := 0, slots := 0, locals := 45 } : Room) 0 0 [.ref (ad 0), .int v1, .int v2] (zwM κ ad M) (zPd (some (.int res.1)) (zwM κ ad res.2)) := by
  refine zCT.of (cc := cX12_best) (maxL := 8) (ret := (some .int)) (by decide) rfl (Nat.le_of_ble_eq_true rfl) ?_
  intro X hC hR
  unfold xX12_best at h
  refine zV.sub (lv' := [(0, .ref (ad 0)), (1, .int v1), (2, .int v2)]) [0, 1, 2] rfl ?_
  refine zr_iload_n (pc := 0) hC 2 rfl rfl dX12_best_0 ?_
  refine zr_iconst (pc := 1) hC zki_m1 dX12_best_1 ?_
  refine zr_icmp_ge (pc := 2) (tgt := 12) hC dX12_best_2 (by decide) (fun c1 => ?_) (fun c1 => ?_)
  · replace h := zip h c1
    refine zr_iconst (pc := 12) hC zki_1 dX12_best_12 ?_
    refine zr_istore_n (pc := 13) (lv' := [(3, .int (1 : Int32)), (0, .ref (ad 0)), (1, .int v1), (2, .int v2)]) hC rfl (by decide) rfl dX12_best_13 ?_
    refine zr_iconst (pc := 14) hC zki_2 dX12_best_14 ?_
    refine zr_istore (pc := 15) (lv' := [(4, .int (2 : Int32)), (3, .int (1 : Int32)), (0, .ref (ad 0)), (1, .int v1), (2, .int v2)]) hC (by decide) rfl dX12_best_15 ?_
    obtain ⟨q2, hq2, h⟩ := zbd h
    refine zV.sub (lv' := [(0, .ref (ad 0)), (1, .int v1), (2, .int v2), (3, .int (1 : Int32)), (4, .int (2 : Int32))]) [2, 3, 4, 1, 0] rfl ?_
    refine zit2 (Wp := fun (y0 : Int32) (y1 : Int32) => zV X 0 0 (zwM κ ad M) [(0, .ref (ad 0)), (1, .int v1), (2, .int v2), (3, .int y0), (4, .int y1)] [] 17) (Ex := fun (b9 : Int32) => zV X 0 0 (zwM κ ad M) [(0, .ref (ad 0)), (1, .int v1), (2, .int v2), (3, .int b9)] [] 37) (fun y0 y1 r9 hr hin hout => tX12_best_L17 hC hEk hin (fun z0 e9 => hout z0 e9) hr) zFU (1 : Int32) (2 : Int32) q2 hq2 ?_
    show zV X 0 0 (zwM κ ad M) [(0, .ref (ad 0)), (1, .int v1), (2, .int v2), (3, .int q2)] [] 37
    refine zr_iconst (pc := 37) hC zki_0 dX12_best_37 ?_
    refine zr_istore (pc := 38) (lv' := [(4, .int (0 : Int32)), (0, .ref (ad 0)), (1, .int v1), (2, .int v2), (3, .int q2)]) hC (by decide) rfl dX12_best_38 ?_
    refine zr_iconst (pc := 40) hC zki_0 dX12_best_40 ?_
    refine zr_istore (pc := 41) (lv' := [(5, .int (0 : Int32)), (4, .int (0 : Int32)), (0, .ref (ad 0)), (1, .int v1), (2, .int v2), (3, .int q2)]) hC (by decide) rfl dX12_best_41 ?_
    obtain ⟨q3, hq3, h⟩ := zbd h
    refine zV.sub (lv' := [(0, .ref (ad 0)), (1, .int v1), (2, .int v2), (3, .int q2), (4, .int (0 : Int32)), (5, .int (0 : Int32))]) [2, 3, 4, 5, 1, 0] rfl ?_
    refine zit3 (Wp := fun (y0 : zM) (y1 : Int32) (y2 : Int32) => zV X 0 0 (zwM κ ad y0) [(0, .ref (ad 0)), (1, .int v1), (2, .int v2), (3, .int q2), (4, .int y1), (5, .int y2)] [] 43) (Ex := fun (b9 : (zM × Int32)) => zV X 0 0 (zwM κ ad b9.1) [(0, .ref (ad 0)), (2, .int v2), (4, .int b9.2)] [] 136) (fun y0 y1 y2 r9 hr hin hout => tX12_best_L43 hC hEk hin (fun z0 z1 e9 => hout (z0, z1) e9) hr) zFU M (0 : Int32) (0 : Int32) q3 hq3 ?_
    show zV X 0 0 (zwM κ ad q3.1) [(0, .ref (ad 0)), (2, .int v2), (4, .int q3.2)] [] 136
    refine zr_iload_n (pc := 136) hC 1 rfl rfl dX12_best_136 ?_
    refine zr_iconst (pc := 137) hC zki_m1 dX12_best_137 ?_
    refine zr_icmp_ne (pc := 138) (tgt := 146) hC dX12_best_138 (by decide) (fun c4 => ?_) (fun c4 => ?_)
    · replace h := zin h c4
      refine zr_iload_n (pc := 146) hC 1 rfl rfl dX12_best_146 ?_
      refine zr_aload_n (pc := 147) hC 0 rfl rfl dX12_best_147 ?_
      refine zmg_44 (pc := 148) hC hinX12_best_X12 flX12_best_299 dX12_best_148 ?_
      refine zr_icmp_ge (pc := 151) (tgt := 163) hC dX12_best_151 (by decide) (fun c5 => ?_) (fun c5 => ?_)
      · replace h := zip h c5
        refine zr_bipush (pc := 163) hC zkb_m9 dX12_best_163 ?_
        obtain rfl := Option.some.inj h
        exact zr_iret hC hR ⟨rfl, rfl⟩ (Nat.le_refl _) (Nat.le_refl _) dX12_best_165
      · replace h := zin h c5
        refine zr_aload_n (pc := 154) hC 0 rfl rfl dX12_best_154 ?_
        refine zmg_43 (pc := 155) hC hinX12_best_X12 flX12_best_102 dX12_best_155 ?_
        refine zr_iload_n (pc := 158) hC 1 rfl rfl dX12_best_158 ?_
        obtain ⟨i6, h⟩ := zgd h
        refine zml_30 (pc := 159) hC i6 dX12_best_159 ?_
        refine zr_goto (pc := 160) (tgt := 165) hC dX12_best_160 (by decide) ?_
        obtain rfl := Option.some.inj h
        exact zr_iret hC hR ⟨rfl, rfl⟩ (Nat.le_refl _) (Nat.le_refl _) dX12_best_165
    · replace h := zip h c4
      refine zr_iload (pc := 141) hC 2 rfl dX12_best_141 ?_
      refine zr_goto (pc := 143) (tgt := 165) hC dX12_best_143 (by decide) ?_
      obtain rfl := Option.some.inj h
      exact zr_iret hC hR ⟨rfl, rfl⟩ (Nat.le_refl _) (Nat.le_refl _) dX12_best_165
  · replace h := zin h c1
    refine zr_aload_n (pc := 5) hC 0 rfl rfl dX12_best_5 ?_
    refine zr_bipush (pc := 6) hC zkb_m4 dX12_best_6 ?_
    obtain ⟨q7, hq7, h⟩ := zbd h
    refine zr_cVi (pc := 8) hC hEk [.int (-4 : Int32)] [] 0 1 (fun l D => tX12_no hEk hq7 l D) gX12_best_X12_no rfl rfl rfl ⟨Nat.le_of_ble_eq_true rfl, Nat.le_of_ble_eq_true rfl⟩ hyX12_no (by decide) entM_0 rfl rfl rfl (Nat.le_of_ble_eq_true rfl) ⟨Nat.le_of_ble_eq_true rfl, Nat.le_of_ble_eq_true rfl⟩ dX12_best_8 ?_
    obtain rfl := Option.some.inj h
    exact zr_iret hC hR ⟨rfl, rfl⟩ (Nat.le_refl _) (Nat.le_refl _) dX12_best_11
/-! X12_late -/
theorem hyX12_late : yX12_late.cls = RX12 ∧ yX12_late.cls ≠ "java/lang/invoke/MethodHandle" ∧ yX12_late.cls ≠ "java/lang/invoke/VarHandle" ∧ (parseMethodDescriptor yX12_late.desc).map (fun d => d.parameters.length) = some 1 := by decide +kernel
theorem hinX12_late_X12 : ∀ w ∈ wsX120, w ∈ wsX12_late := fun _ h => List.mem_cons_of_mem _ (List.mem_append_right _ h)
def xX12_late (M : zM) (v1 : Int32) : Option (Int32 × zM) :=
  (xX12_best M (1 : Int32) v1).bind fun q1 =>
  some (q1.1, q1.2)
set_option maxHeartbeats 4000000 in
set_option maxRecDepth 100000 in
theorem tX12_late {κ : Nat → ClassId} {E : zEn} {ad : Nat → Nat} (hEk : zEk E) {M : zM} {v1 : Int32} {res : (Int32 × zM)} (h : xX12_late M v1 = some res) (l : Launch) (D : va_G) : zCT E D vwCl (zty κ) l yX12_late wsX12_late ({ frames := 3, cells := 0, slots := 0, locals := 72 } : Room) 0 0 [.ref (ad 0), .int v1] (zwM κ ad M) (zPd (some (.int res.1)) (zwM κ ad res.2)) := by
  refine zCT.of (cc := cX12_late) (maxL := 2) (ret := (some .int)) (by decide) rfl (Nat.le_of_ble_eq_true rfl) ?_
  intro X hC hR
  unfold xX12_late at h
  refine zV.sub (lv' := [(0, .ref (ad 0)), (1, .int v1)]) [0, 1] rfl ?_
  refine zr_aload_n (pc := 0) hC 0 rfl rfl dX12_late_0 ?_
  refine zr_iconst (pc := 1) hC zki_1 dX12_late_1 ?_
  refine zr_iload_n (pc := 2) hC 1 rfl rfl dX12_late_2 ?_
  obtain ⟨q1, hq1, h⟩ := zbd h
  refine zr_cVi (pc := 3) hC hEk [.int (1 : Int32), .int v1] [] 0 2 (fun l D => tX12_best hEk hq1 l D) gX12_late_X12_best rfl rfl rfl ⟨Nat.le_of_ble_eq_true rfl, Nat.le_of_ble_eq_true rfl⟩ hyX12_best (by decide) entM_0 rfl rfl rfl (Nat.le_of_ble_eq_true rfl) ⟨Nat.le_of_ble_eq_true rfl, Nat.le_of_ble_eq_true rfl⟩ dX12_late_3 ?_
  obtain rfl := Option.some.inj h
  exact zr_iret hC hR ⟨rfl, rfl⟩ (Nat.le_refl _) (Nat.le_refl _) dX12_late_6
/-! X12_soon -/
theorem hyX12_soon : yX12_soon.cls = RX12 ∧ yX12_soon.cls ≠ "java/lang/invoke/MethodHandle" ∧ yX12_soon.cls ≠ "java/lang/invoke/VarHandle" ∧ (parseMethodDescriptor yX12_soon.desc).map (fun d => d.parameters.length) = some 1 := by decide +kernel
theorem hinX12_soon_X12 : ∀ w ∈ wsX120, w ∈ wsX12_soon := fun _ h => List.mem_cons_of_mem _ (List.mem_append_right _ h)
def xX12_soon (M : zM) (v1 : Int32) : Option (Int32 × zM) :=
  (xX12_best M (0 : Int32) v1).bind fun q1 =>
  some (q1.1, q1.2)
set_option maxHeartbeats 4000000 in
set_option maxRecDepth 100000 in
theorem tX12_soon {κ : Nat → ClassId} {E : zEn} {ad : Nat → Nat} (hEk : zEk E) {M : zM} {v1 : Int32} {res : (Int32 × zM)} (h : xX12_soon M v1 = some res) (l : Launch) (D : va_G) : zCT E D vwCl (zty κ) l yX12_soon wsX12_soon ({ frames := 3, cells := 0, slots := 0, locals := 72 } : Room) 0 0 [.ref (ad 0), .int v1] (zwM κ ad M) (zPd (some (.int res.1)) (zwM κ ad res.2)) := by
  refine zCT.of (cc := cX12_soon) (maxL := 2) (ret := (some .int)) (by decide) rfl (Nat.le_of_ble_eq_true rfl) ?_
  intro X hC hR
  unfold xX12_soon at h
  refine zV.sub (lv' := [(0, .ref (ad 0)), (1, .int v1)]) [0, 1] rfl ?_
  refine zr_aload_n (pc := 0) hC 0 rfl rfl dX12_soon_0 ?_
  refine zr_iconst (pc := 1) hC zki_0 dX12_soon_1 ?_
  refine zr_iload_n (pc := 2) hC 1 rfl rfl dX12_soon_2 ?_
  obtain ⟨q1, hq1, h⟩ := zbd h
  refine zr_cVi (pc := 3) hC hEk [.int (0 : Int32), .int v1] [] 0 2 (fun l D => tX12_best hEk hq1 l D) gX12_soon_X12_best rfl rfl rfl ⟨Nat.le_of_ble_eq_true rfl, Nat.le_of_ble_eq_true rfl⟩ hyX12_best (by decide) entM_0 rfl rfl rfl (Nat.le_of_ble_eq_true rfl) ⟨Nat.le_of_ble_eq_true rfl, Nat.le_of_ble_eq_true rfl⟩ dX12_soon_3 ?_
  obtain rfl := Option.some.inj h
  exact zr_iret hC hR ⟨rfl, rfl⟩ (Nat.le_refl _) (Nat.le_refl _) dX12_soon_6
/-! X12_drawn -/
theorem hyX12_drawn : yX12_drawn.cls = RX12 ∧ yX12_drawn.cls ≠ "java/lang/invoke/MethodHandle" ∧ yX12_drawn.cls ≠ "java/lang/invoke/VarHandle" ∧ (parseMethodDescriptor yX12_drawn.desc).map (fun d => d.parameters.length) = some 0 := by decide +kernel
theorem flX12_drawn_13 : Cond.fieldLink RX12 13 "BeforeTheEndModel" "parent" "[I" ∈ wsX12_drawn := by decide +kernel
theorem flX12_drawn_16 : Cond.fieldLink RX12 16 "BeforeTheEndModel" "weight" "[I" ∈ wsX12_drawn := by decide +kernel
theorem flX12_drawn_19 : Cond.fieldLink RX12 19 "BeforeTheEndModel" "answer" "[I" ∈ wsX12_drawn := by decide +kernel
theorem flX12_drawn_315 : Cond.fieldLink RX12 315 "BeforeTheEndModel" "lots" "I" ∈ wsX12_drawn := by decide +kernel
theorem flX12_drawn_318 : Jvm.Cond.constant RX12 318 (1664525) ∈ wsX12_drawn := by decide +kernel
theorem flX12_drawn_319 : Jvm.Cond.constant RX12 319 (1013904223) ∈ wsX12_drawn := by decide +kernel
theorem flX12_drawn_320 : Jvm.Cond.constant RX12 320 (2147483647) ∈ wsX12_drawn := by decide +kernel
theorem hinX12_drawn_X12 : ∀ w ∈ wsX120, w ∈ wsX12_drawn := fun _ h => List.mem_cons_of_mem _ (List.mem_append_right _ h)
def xX12_drawn_L50_L2 (M : zM) (v1 : Int32) (w0 : Int32) (w1 : Int32) : Option ((Int32 × Int32) ⊕ Int32) :=
  if (w1 < 0 ∨ 24 ≤ w1.toNatClampNeg) then none else
  if (M.1 2 w1.toNatClampNeg) = v1 then
  (if w0 < (M.1 3 w1.toNatClampNeg) then
  (some (.inr w1))
  else
  if (M.1 2 w1.toNatClampNeg) = v1 then
  (zlet (w0 - (M.1 3 w1.toNatClampNeg)) fun z12 =>
  some (.inl (z12, (w1 + (1 : Int32)))))
  else
  zlet (w0 - (0 : Int32)) fun z10 =>
  some (.inl (z10, (w1 + (1 : Int32)))))
  else
  if (M.1 2 w1.toNatClampNeg) = v1 then
  (zlet (w0 - (M.1 3 w1.toNatClampNeg)) fun z6 =>
  some (.inl (z6, (w1 + (1 : Int32)))))
  else
  zlet (w0 - (0 : Int32)) fun z4 =>
  some (.inl (z4, (w1 + (1 : Int32))))
set_option maxHeartbeats 4000000 in
set_option maxRecDepth 100000 in
theorem tX12_drawn_L50_L2 {κ : Nat → ClassId} {E : zEn} {ad : Nat → Nat} {X : zX} {M : zM} {v1 : Int32} {w0 : Int32} {w1 : Int32} {r : ((Int32 × Int32) ⊕ Int32)} (hC : zC X cX12_drawn RX12 wsX12_drawn vwCl (zty κ) E 4 ({ frames := 1, cells := 0, slots := 0, locals := 23 } : Room)) (hEk : zEk E) (hin : ∀ (x0' : Int32) (x1' : Int32), r = .inl (x0', x1') → zV X 0 0 (zwM κ ad M) [(0, .ref (ad 0)), (1, .int v1), (2, .int x0'), (3, .int x1')] [] 50) (hout0 : ∀ (x0' : Int32), r = .inr x0' → zV X 0 0 (zwM κ ad M) [(0, .ref (ad 0)), (3, .int x0')] [] 99) (h : xX12_drawn_L50_L2 M v1 w0 w1 = some r) : zV X 0 0 (zwM κ ad M) [(0, .ref (ad 0)), (1, .int v1), (2, .int w0), (3, .int w1)] [] 50 := by
  unfold xX12_drawn_L50_L2 at h
  refine zr_aload_n (pc := 50) hC 0 rfl rfl dX12_drawn_50 ?_
  refine zmg_1 (pc := 51) hC hinX12_drawn_X12 flX12_drawn_13 dX12_drawn_51 ?_
  refine zr_iload_n (pc := 54) hC 3 rfl rfl dX12_drawn_54 ?_
  obtain ⟨i1, h⟩ := zgd h
  refine zml_2 (pc := 55) hC i1 dX12_drawn_55 ?_
  refine zr_iload_n (pc := 56) hC 1 rfl rfl dX12_drawn_56 ?_
  refine zr_icmp_ne (pc := 57) (tgt := 70) hC dX12_drawn_57 (by decide) (fun c2 => ?_) (fun c2 => ?_)
  · replace h := zin h c2
    refine zr_iload_n (pc := 70) hC 2 rfl rfl dX12_drawn_70 ?_
    refine zr_aload_n (pc := 71) hC 0 rfl rfl dX12_drawn_71 ?_
    refine zmg_1 (pc := 72) hC hinX12_drawn_X12 flX12_drawn_13 dX12_drawn_72 ?_
    refine zr_iload_n (pc := 75) hC 3 rfl rfl dX12_drawn_75 ?_
    refine zml_2 (pc := 76) hC i1 dX12_drawn_76 ?_
    refine zr_iload_n (pc := 77) hC 1 rfl rfl dX12_drawn_77 ?_
    refine zr_icmp_ne (pc := 78) (tgt := 90) hC dX12_drawn_78 (by decide) (fun c3 => ?_) (fun c3 => ?_)
    · replace h := zin h c3
      refine zr_iconst (pc := 90) hC zki_0 dX12_drawn_90 ?_
      refine zr_isub (pc := 91) hC dX12_drawn_91 ?_
      obtain ⟨z4, e5, h⟩ := zle h
      refine zr_topi e5 ?_
      refine zr_istore_n (pc := 92) (lv' := [(2, .int z4), (0, .ref (ad 0)), (1, .int v1), (3, .int w1)]) hC rfl (by decide) rfl dX12_drawn_92 ?_
      refine zr_iinc (pc := 93) (k := 3) (lv' := [(3, .int (w1 + (1 : Int32))), (2, .int z4), (0, .ref (ad 0)), (1, .int v1)]) hC zki_1 (by decide) rfl rfl dX12_drawn_93 ?_
      refine zr_goto (pc := 96) (tgt := 50) hC dX12_drawn_96 (by decide) ?_
      obtain rfl := Option.some.inj h
      exact zV.sub (lv' := [(0, .ref (ad 0)), (1, .int v1), (2, .int z4), (3, .int (w1 + (1 : Int32)))]) [2, 3, 1, 0] rfl (hin z4 (w1 + (1 : Int32)) rfl)
    · replace h := zip h c3
      refine zr_aload_n (pc := 81) hC 0 rfl rfl dX12_drawn_81 ?_
      refine zmg_2 (pc := 82) hC hinX12_drawn_X12 flX12_drawn_16 dX12_drawn_82 ?_
      refine zr_iload_n (pc := 85) hC 3 rfl rfl dX12_drawn_85 ?_
      refine zml_3 (pc := 86) hC i1 dX12_drawn_86 ?_
      refine zr_goto (pc := 87) (tgt := 91) hC dX12_drawn_87 (by decide) ?_
      refine zr_isub (pc := 91) hC dX12_drawn_91 ?_
      obtain ⟨z6, e7, h⟩ := zle h
      refine zr_topi e7 ?_
      refine zr_istore_n (pc := 92) (lv' := [(2, .int z6), (0, .ref (ad 0)), (1, .int v1), (3, .int w1)]) hC rfl (by decide) rfl dX12_drawn_92 ?_
      refine zr_iinc (pc := 93) (k := 3) (lv' := [(3, .int (w1 + (1 : Int32))), (2, .int z6), (0, .ref (ad 0)), (1, .int v1)]) hC zki_1 (by decide) rfl rfl dX12_drawn_93 ?_
      refine zr_goto (pc := 96) (tgt := 50) hC dX12_drawn_96 (by decide) ?_
      obtain rfl := Option.some.inj h
      exact zV.sub (lv' := [(0, .ref (ad 0)), (1, .int v1), (2, .int z6), (3, .int (w1 + (1 : Int32)))]) [2, 3, 1, 0] rfl (hin z6 (w1 + (1 : Int32)) rfl)
  · replace h := zip h c2
    refine zr_iload_n (pc := 60) hC 2 rfl rfl dX12_drawn_60 ?_
    refine zr_aload_n (pc := 61) hC 0 rfl rfl dX12_drawn_61 ?_
    refine zmg_2 (pc := 62) hC hinX12_drawn_X12 flX12_drawn_16 dX12_drawn_62 ?_
    refine zr_iload_n (pc := 65) hC 3 rfl rfl dX12_drawn_65 ?_
    refine zml_3 (pc := 66) hC i1 dX12_drawn_66 ?_
    refine zr_icmp_lt (pc := 67) (tgt := 99) hC dX12_drawn_67 (by decide) (fun c8 => ?_) (fun c8 => ?_)
    · replace h := zip h c8
      obtain rfl := Option.some.inj h
      exact zV.sub (lv' := [(0, .ref (ad 0)), (3, .int w1)]) [0, 3] rfl (hout0 w1 rfl)
    · replace h := zin h c8
      refine zr_iload_n (pc := 70) hC 2 rfl rfl dX12_drawn_70 ?_
      refine zr_aload_n (pc := 71) hC 0 rfl rfl dX12_drawn_71 ?_
      refine zmg_1 (pc := 72) hC hinX12_drawn_X12 flX12_drawn_13 dX12_drawn_72 ?_
      refine zr_iload_n (pc := 75) hC 3 rfl rfl dX12_drawn_75 ?_
      refine zml_2 (pc := 76) hC i1 dX12_drawn_76 ?_
      refine zr_iload_n (pc := 77) hC 1 rfl rfl dX12_drawn_77 ?_
      refine zr_icmp_ne (pc := 78) (tgt := 90) hC dX12_drawn_78 (by decide) (fun c9 => ?_) (fun c9 => ?_)
      · replace h := zin h c9
        refine zr_iconst (pc := 90) hC zki_0 dX12_drawn_90 ?_
        refine zr_isub (pc := 91) hC dX12_drawn_91 ?_
        obtain ⟨z10, e11, h⟩ := zle h
        refine zr_topi e11 ?_
        refine zr_istore_n (pc := 92) (lv' := [(2, .int z10), (0, .ref (ad 0)), (1, .int v1), (3, .int w1)]) hC rfl (by decide) rfl dX12_drawn_92 ?_
        refine zr_iinc (pc := 93) (k := 3) (lv' := [(3, .int (w1 + (1 : Int32))), (2, .int z10), (0, .ref (ad 0)), (1, .int v1)]) hC zki_1 (by decide) rfl rfl dX12_drawn_93 ?_
        refine zr_goto (pc := 96) (tgt := 50) hC dX12_drawn_96 (by decide) ?_
        obtain rfl := Option.some.inj h
        exact zV.sub (lv' := [(0, .ref (ad 0)), (1, .int v1), (2, .int z10), (3, .int (w1 + (1 : Int32)))]) [2, 3, 1, 0] rfl (hin z10 (w1 + (1 : Int32)) rfl)
      · replace h := zip h c9
        refine zr_aload_n (pc := 81) hC 0 rfl rfl dX12_drawn_81 ?_
        refine zmg_2 (pc := 82) hC hinX12_drawn_X12 flX12_drawn_16 dX12_drawn_82 ?_
        refine zr_iload_n (pc := 85) hC 3 rfl rfl dX12_drawn_85 ?_
        refine zml_3 (pc := 86) hC i1 dX12_drawn_86 ?_
        refine zr_goto (pc := 87) (tgt := 91) hC dX12_drawn_87 (by decide) ?_
        refine zr_isub (pc := 91) hC dX12_drawn_91 ?_
        obtain ⟨z12, e13, h⟩ := zle h
        refine zr_topi e13 ?_
        refine zr_istore_n (pc := 92) (lv' := [(2, .int z12), (0, .ref (ad 0)), (1, .int v1), (3, .int w1)]) hC rfl (by decide) rfl dX12_drawn_92 ?_
        refine zr_iinc (pc := 93) (k := 3) (lv' := [(3, .int (w1 + (1 : Int32))), (2, .int z12), (0, .ref (ad 0)), (1, .int v1)]) hC zki_1 (by decide) rfl rfl dX12_drawn_93 ?_
        refine zr_goto (pc := 96) (tgt := 50) hC dX12_drawn_96 (by decide) ?_
        obtain rfl := Option.some.inj h
        exact zV.sub (lv' := [(0, .ref (ad 0)), (1, .int v1), (2, .int z12), (3, .int (w1 + (1 : Int32)))]) [2, 3, 1, 0] rfl (hin z12 (w1 + (1 : Int32)) rfl)
def xX12_drawn_L2 (w0 : zM) (w1 : Int32) : Option ((zM × Int32) ⊕ (zM × Int32)) :=
  if (w1 < 0 ∨ 24 ≤ w1.toNatClampNeg) then none else
  if (w0.1 4 w1.toNatClampNeg) = 0 then
  (zlet (zsi w0 0 45 (((w0.1 0 45) * (1664525 : Int32)) + (1013904223 : Int32))) fun M3 =>
  (xX12_sumOf M3 w1).bind fun q5 =>
  if q5 = 0 then none else
  zlet ((((M3.1 0 45) &&& (2147483647 : Int32)) / (256 : Int32)) - (((M3.1 0 45) &&& (2147483647 : Int32)) / (256 : Int32)) / q5 * q5) fun z7 =>
  zlet (w1 + (1 : Int32)) fun z9 =>
  (x_it (fun a9 => xX12_drawn_L50_L2 M3 w1 a9.1 a9.2) zFU (z7, z9)).bind fun q11 =>
  some (.inl (M3, q11)))
  else
  some (.inr (w0, w1))
set_option maxHeartbeats 4000000 in
set_option maxRecDepth 100000 in
theorem tX12_drawn_L2 {κ : Nat → ClassId} {E : zEn} {ad : Nat → Nat} {X : zX} {w0 : zM} {w1 : Int32} {r : ((zM × Int32) ⊕ (zM × Int32))} (hC : zC X cX12_drawn RX12 wsX12_drawn vwCl (zty κ) E 4 ({ frames := 1, cells := 0, slots := 0, locals := 23 } : Room)) (hEk : zEk E) (hin : ∀ (x0' : zM) (x1' : Int32), r = .inl (x0', x1') → zV X 0 0 (zwM κ ad x0') [(0, .ref (ad 0)), (1, .int x1')] [] 2) (hout0 : ∀ (x0' : zM) (x1' : Int32), r = .inr (x0', x1') → zV X 0 0 (zwM κ ad x0') [(1, .int x1')] [] 104) (h : xX12_drawn_L2   w0 w1 = some r) : zV X 0 0 (zwM κ ad w0) [(0, .ref (ad 0)), (1, .int w1)] [] 2 := by
  unfold xX12_drawn_L2 at h
  refine zr_aload_n (pc := 2) hC 0 rfl rfl dX12_drawn_2 ?_
  refine zmg_3 (pc := 3) hC hinX12_drawn_X12 flX12_drawn_19 dX12_drawn_3 ?_
  refine zr_iload_n (pc := 6) hC 1 rfl rfl dX12_drawn_6 ?_
  obtain ⟨i1, h⟩ := zgd h
  refine zml_4 (pc := 7) hC i1 dX12_drawn_7 ?_
  refine zr_if_ne (pc := 8) (tgt := 104) hC dX12_drawn_8 (by decide) (fun c2 => ?_) (fun c2 => ?_)
  · replace h := zin h c2
    obtain rfl := Option.some.inj h
    exact zV.sub (lv' := [(1, .int w1)]) [1] rfl (hout0 w0 w1 rfl)
  · replace h := zip h c2
    refine zr_aload_n (pc := 11) hC 0 rfl rfl dX12_drawn_11 ?_
    refine zr_aload_n (pc := 12) hC 0 rfl rfl dX12_drawn_12 ?_
    refine zmg_45 (pc := 13) hC hinX12_drawn_X12 flX12_drawn_315 dX12_drawn_13 ?_
    refine zr_ldcw (pc := 16) hC flX12_drawn_318 dX12_drawn_16 ?_
    refine zr_imul (pc := 19) hC dX12_drawn_19 ?_
    refine zr_ldcw (pc := 20) hC flX12_drawn_319 dX12_drawn_20 ?_
    refine zr_iadd (pc := 23) hC dX12_drawn_23 ?_
    obtain ⟨M3, e4, h⟩ := zle h
    refine zmp_45 (pc := 24) hC hinX12_drawn_X12 flX12_drawn_315 e4 dX12_drawn_24 ?_
    refine zr_aload_n (pc := 27) hC 0 rfl rfl dX12_drawn_27 ?_
    refine zmg_45 (pc := 28) hC hinX12_drawn_X12 flX12_drawn_315 dX12_drawn_28 ?_
    refine zr_ldcw (pc := 31) hC flX12_drawn_320 dX12_drawn_31 ?_
    refine zr_iand (pc := 34) hC dX12_drawn_34 ?_
    refine zr_sipush (pc := 35) hC zks_256 dX12_drawn_35 ?_
    refine zr_idiv (pc := 38) hC (by decide) dX12_drawn_38 ?_
    refine zr_aload_n (pc := 39) hC 0 rfl rfl dX12_drawn_39 ?_
    refine zr_iload_n (pc := 40) hC 1 rfl rfl dX12_drawn_40 ?_
    obtain ⟨q5, hq5, h⟩ := zbd h
    refine zr_cVi (pc := 41) hC hEk [.int w1] [.int (((M3.1 0 45) &&& (2147483647 : Int32)) / (256 : Int32))] 0 1 (fun l D => tX12_sumOf hEk hq5 l D) gX12_drawn_X12_sumOf rfl rfl rfl ⟨Nat.le_of_ble_eq_true rfl, Nat.le_of_ble_eq_true rfl⟩ hyX12_sumOf (by decide) entM_0 rfl rfl rfl (Nat.le_of_ble_eq_true rfl) ⟨Nat.le_of_ble_eq_true rfl, Nat.le_of_ble_eq_true rfl⟩ dX12_drawn_41 ?_
    obtain ⟨n6, h⟩ := zgd h
    refine zr_irem (pc := 44) hC n6 dX12_drawn_44 ?_
    obtain ⟨z7, e8, h⟩ := zle h
    refine zr_topi e8 ?_
    refine zr_istore_n (pc := 45) (lv' := [(2, .int z7), (0, .ref (ad 0)), (1, .int w1)]) hC rfl (by decide) rfl dX12_drawn_45 ?_
    refine zr_iload_n (pc := 46) hC 2 rfl rfl dX12_drawn_46 ?_
    refine zr_iconst (pc := 47) hC zki_1 dX12_drawn_47 ?_
    refine zr_iadd (pc := 48) hC dX12_drawn_48 ?_
    obtain ⟨z9, e10, h⟩ := zle h
    refine zr_topi e10 ?_
    refine zr_istore_n (pc := 49) (lv' := [(3, .int z9), (2, .int z7), (0, .ref (ad 0)), (1, .int w1)]) hC rfl (by decide) rfl dX12_drawn_49 ?_
    obtain ⟨q11, hq11, h⟩ := zbd h
    refine zV.sub (lv' := [(0, .ref (ad 0)), (1, .int w1), (2, .int z7), (3, .int z9)]) [2, 3, 1, 0] rfl ?_
    refine zit2 (Wp := fun (y0 : Int32) (y1 : Int32) => zV X 0 0 (zwM κ ad M3) [(0, .ref (ad 0)), (1, .int w1), (2, .int y0), (3, .int y1)] [] 50) (Ex := fun (b9 : Int32) => zV X 0 0 (zwM κ ad M3) [(0, .ref (ad 0)), (3, .int b9)] [] 99) (fun y0 y1 r9 hr hin hout => tX12_drawn_L50_L2 hC hEk hin (fun z0 e9 => hout z0 e9) hr) zFU z7 z9 q11 hq11 ?_
    show zV X 0 0 (zwM κ ad M3) [(0, .ref (ad 0)), (3, .int q11)] [] 99
    refine zr_iload_n (pc := 99) hC 1 rfl rfl dX12_drawn_99 ?_
    refine zr_istore_n (pc := 100) (lv' := [(1, .int q11), (0, .ref (ad 0)), (3, .int q11)]) hC rfl (by decide) rfl dX12_drawn_100 ?_
    refine zr_goto (pc := 101) (tgt := 2) hC dX12_drawn_101 (by decide) ?_
    obtain rfl := Option.some.inj h
    exact zV.sub (lv' := [(0, .ref (ad 0)), (1, .int q11)]) [1, 0] rfl (hin M3 q11 rfl)
def xX12_drawn (M : zM)  : Option (Int32 × zM) :=
  (x_it (fun a9 => xX12_drawn_L2 a9.1 a9.2) zFU (M, (0 : Int32))).bind fun q1 =>
  some (q1.2, q1.1)
set_option maxHeartbeats 4000000 in
set_option maxRecDepth 100000 in
theorem tX12_drawn {κ : Nat → ClassId} {E : zEn} {ad : Nat → Nat} (hEk : zEk E) {M : zM}  {res : (Int32 × zM)} (h : xX12_drawn M  = some res) (l : Launch) (D : va_G) : zCT E D vwCl (zty κ) l yX12_drawn wsX12_drawn ({ frames := 1, cells := 0, slots := 0, locals := 23 } : Room) 0 0 [.ref (ad 0)] (zwM κ ad M) (zPd (some (.int res.1)) (zwM κ ad res.2)) := by
  refine zCT.of (cc := cX12_drawn) (maxL := 4) (ret := (some .int)) (by decide) rfl (Nat.le_of_ble_eq_true rfl) ?_
  intro X hC hR
  unfold xX12_drawn at h
  refine zV.sub (lv' := [(0, .ref (ad 0))]) [0] rfl ?_
  refine zr_iconst (pc := 0) hC zki_0 dX12_drawn_0 ?_
  refine zr_istore_n (pc := 1) (lv' := [(1, .int (0 : Int32)), (0, .ref (ad 0))]) hC rfl (by decide) rfl dX12_drawn_1 ?_
  obtain ⟨q1, hq1, h⟩ := zbd h
  refine zV.sub (lv' := [(0, .ref (ad 0)), (1, .int (0 : Int32))]) [1, 0] rfl ?_
  refine zit2 (Wp := fun (y0 : zM) (y1 : Int32) => zV X 0 0 (zwM κ ad y0) [(0, .ref (ad 0)), (1, .int y1)] [] 2) (Ex := fun (b9 : (zM × Int32)) => zV X 0 0 (zwM κ ad b9.1) [(1, .int b9.2)] [] 104) (fun y0 y1 r9 hr hin hout => tX12_drawn_L2 hC hEk hin (fun z0 z1 e9 => hout (z0, z1) e9) hr) zFU M (0 : Int32) q1 hq1 ?_
  show zV X 0 0 (zwM κ ad q1.1) [(1, .int q1.2)] [] 104
  refine zr_iload_n (pc := 104) hC 0 rfl rfl dX12_drawn_104 ?_
  obtain rfl := Option.some.inj h
  exact zr_iret hC hR ⟨rfl, rfl⟩ (Nat.le_refl _) (Nat.le_refl _) dX12_drawn_105
/-! X12_evening -/
theorem hyX12_evening : yX12_evening.cls = RX12 ∧ yX12_evening.cls ≠ "java/lang/invoke/MethodHandle" ∧ yX12_evening.cls ≠ "java/lang/invoke/VarHandle" ∧ (parseMethodDescriptor yX12_evening.desc).map (fun d => d.parameters.length) = some 3 := by decide +kernel
theorem flX12_evening_315 : Cond.fieldLink RX12 315 "BeforeTheEndModel" "lots" "I" ∈ wsX12_evening := by decide +kernel
theorem flX12_evening_93 : Cond.fieldLink RX12 93 "BeforeTheEndModel" "gets" "[I" ∈ wsX12_evening := by decide +kernel
theorem hinX12_evening_X12 : ∀ w ∈ wsX120, w ∈ wsX12_evening := fun _ h => List.mem_cons_of_mem _ (List.mem_append_right _ h)
def xX12_evening_L66_b39 (v1 : Int32) (v3 : Int32) (w0 : zM) (w1 : Int32) (w2 : Int32) : Option ((zM × Int32 × Int32) ⊕ (zM × Int32)) :=
  if v1 ≤ w2 then
  (some (.inr (w0, w1)))
  else
  (xX12_drawn w0).bind fun q2 =>
  (xX12_runs q2.2 q2.1).bind fun q3 =>
  if (v3 < 0 ∨ 4 ≤ v3.toNatClampNeg) then none else
  zlet (w1 + (q3.1 27 v3.toNatClampNeg)) fun z5 =>
  some (.inl (q3, z5, (w2 + (1 : Int32))))
set_option maxHeartbeats 4000000 in
set_option maxRecDepth 100000 in
theorem tX12_evening_L66_b39 {κ : Nat → ClassId} {E : zEn} {ad : Nat → Nat} {X : zX} {v1 : Int32} {v3 : Int32} {w0 : zM} {w1 : Int32} {w2 : Int32} {r : ((zM × Int32 × Int32) ⊕ (zM × Int32))} (hC : zC X cX12_evening RX12 wsX12_evening vwCl (zty κ) E 7 ({ frames := 5, cells := 0, slots := 0, locals := 115 } : Room)) (hEk : zEk E) (hin : ∀ (x0' : zM) (x1' : Int32) (x2' : Int32), r = .inl (x0', x1', x2') → zV X 0 0 (zwM κ ad x0') [(0, .ref (ad 0)), (1, .int v1), (3, .int v3), (5, .int x1'), (6, .int x2')] [] 66) (hout0 : ∀ (x0' : zM) (x1' : Int32), r = .inr (x0', x1') → zV X 0 0 (zwM κ ad x0') [(5, .int x1')] [] 97) (h : xX12_evening_L66_b39  v1 v3 w0 w1 w2 = some r) : zV X 0 0 (zwM κ ad w0) [(0, .ref (ad 0)), (1, .int v1), (3, .int v3), (5, .int w1), (6, .int w2)] [] 66 := by
  unfold xX12_evening_L66_b39 at h
  refine zr_iload (pc := 66) hC 4 rfl dX12_evening_66 ?_
  refine zr_iload_n (pc := 68) hC 1 rfl rfl dX12_evening_68 ?_
  refine zr_icmp_ge (pc := 69) (tgt := 97) hC dX12_evening_69 (by decide) (fun c1 => ?_) (fun c1 => ?_)
  · replace h := zip h c1
    obtain rfl := Option.some.inj h
    exact zV.sub (lv' := [(5, .int w1)]) [3] rfl (hout0 w0 w1 rfl)
  · replace h := zin h c1
    refine zr_aload_n (pc := 72) hC 0 rfl rfl dX12_evening_72 ?_
    refine zr_aload_n (pc := 73) hC 0 rfl rfl dX12_evening_73 ?_
    obtain ⟨q2, hq2, h⟩ := zbd h
    refine zr_cVi (pc := 74) hC hEk [] [.ref (ad 0)] 0 0 (fun l D => tX12_drawn hEk hq2 l D) gX12_evening_X12_drawn rfl rfl rfl ⟨Nat.le_of_ble_eq_true rfl, Nat.le_of_ble_eq_true rfl⟩ hyX12_drawn (by decide) entM_0 rfl rfl rfl (Nat.le_of_ble_eq_true rfl) ⟨Nat.le_of_ble_eq_true rfl, Nat.le_of_ble_eq_true rfl⟩ dX12_evening_74 ?_
    obtain ⟨q3, hq3, h⟩ := zbd h
    refine zr_cVv (pc := 77) hC hEk [.int q2.1] [] 0 1 (fun l D => tX12_runs hEk hq3 l D) gX12_evening_X12_runs rfl rfl rfl ⟨Nat.le_of_ble_eq_true rfl, Nat.le_of_ble_eq_true rfl⟩ hyX12_runs (by decide) entM_0 rfl rfl rfl (Nat.le_of_ble_eq_true rfl) ⟨Nat.le_of_ble_eq_true rfl, Nat.le_of_ble_eq_true rfl⟩ dX12_evening_77 ?_
    refine zr_iload (pc := 80) hC 3 rfl dX12_evening_80 ?_
    refine zr_aload_n (pc := 82) hC 0 rfl rfl dX12_evening_82 ?_
    refine zmg_33 (pc := 83) hC hinX12_evening_X12 flX12_evening_93 dX12_evening_83 ?_
    refine zr_iload_n (pc := 86) hC 2 rfl rfl dX12_evening_86 ?_
    obtain ⟨i4, h⟩ := zgd h
    refine zml_27 (pc := 87) hC i4 dX12_evening_87 ?_
    refine zr_iadd (pc := 88) hC dX12_evening_88 ?_
    obtain ⟨z5, e6, h⟩ := zle h
    refine zr_topi e6 ?_
    refine zr_istore (pc := 89) (lv' := [(5, .int z5), (0, .ref (ad 0)), (1, .int v1), (3, .int v3), (6, .int w2)]) hC (by decide) rfl dX12_evening_89 ?_
    refine zr_iinc (pc := 91) (k := 4) (lv' := [(6, .int (w2 + (1 : Int32))), (5, .int z5), (0, .ref (ad 0)), (1, .int v1), (3, .int v3)]) hC zki_1 (by decide) rfl rfl dX12_evening_91 ?_
    refine zr_goto (pc := 94) (tgt := 66) hC dX12_evening_94 (by decide) ?_
    obtain rfl := Option.some.inj h
    exact zV.sub (lv' := [(0, .ref (ad 0)), (1, .int v1), (3, .int v3), (5, .int z5), (6, .int (w2 + (1 : Int32)))]) [2, 3, 4, 1, 0] rfl (hin q3 z5 (w2 + (1 : Int32)) rfl)
def xX12_evening_b39 (M : zM) (v1 : Int32) (v2 : Int32) (v3 : Int32) (v4 : Int32) : Option (Int32 × zM) :=
  if v4 = 0 then
  ((xX12_finds M).bind fun q2 =>
  zlet (zsi q2 0 45 v2) fun M3 =>
  (x_it (fun a9 => xX12_evening_L66_b39 v1 v3 a9.1 a9.2.1 a9.2.2) zFU (M3, (0 : Int32), (0 : Int32))).bind fun q5 =>
  some (q5.2, q5.1))
  else
  (xX12_lower M v4).bind fun q6 =>
  some (q6.1, q6.2)
set_option maxHeartbeats 4000000 in
set_option maxRecDepth 100000 in
theorem tX12_evening_b39 {κ : Nat → ClassId} {E : zEn} {ad : Nat → Nat} {X : zX} {res : (Int32 × zM)} {M : zM} {v1 : Int32} {v2 : Int32} {v3 : Int32} {v4 : Int32} (hC : zC X cX12_evening RX12 wsX12_evening vwCl (zty κ) E 7 ({ frames := 5, cells := 0, slots := 0, locals := 115 } : Room)) (hEk : zEk E) (hR : zR X (some .int) (zPd (some (.int res.1)) (zwM κ ad res.2)) 0 0) (h : xX12_evening_b39 M v1 v2 v3 v4  = some res) : zV X 0 0 (zwM κ ad M) [(0, .ref (ad 0)), (1, .int v1), (2, .int v2), (3, .int v3), (4, .int v4)] [] 39 := by
  unfold xX12_evening_b39 at h
  refine zr_iload (pc := 39) hC 4 rfl dX12_evening_39 ?_
  refine zr_if_eq (pc := 41) (tgt := 51) hC dX12_evening_41 (by decide) (fun c1 => ?_) (fun c1 => ?_)
  · replace h := zip h c1
    refine zr_aload_n (pc := 51) hC 0 rfl rfl dX12_evening_51 ?_
    obtain ⟨q2, hq2, h⟩ := zbd h
    refine zr_cVv (pc := 52) hC hEk [] [] 0 0 (fun l D => tX12_finds hEk hq2 l D) gX12_evening_X12_finds rfl rfl rfl ⟨Nat.le_of_ble_eq_true rfl, Nat.le_of_ble_eq_true rfl⟩ hyX12_finds (by decide) entM_0 rfl rfl rfl (Nat.le_of_ble_eq_true rfl) ⟨Nat.le_of_ble_eq_true rfl, Nat.le_of_ble_eq_true rfl⟩ dX12_evening_52 ?_
    refine zr_aload_n (pc := 55) hC 0 rfl rfl dX12_evening_55 ?_
    refine zr_iload_n (pc := 56) hC 2 rfl rfl dX12_evening_56 ?_
    obtain ⟨M3, e4, h⟩ := zle h
    refine zmp_45 (pc := 57) hC hinX12_evening_X12 flX12_evening_315 e4 dX12_evening_57 ?_
    refine zr_iconst (pc := 60) hC zki_0 dX12_evening_60 ?_
    refine zr_istore (pc := 61) (lv' := [(5, .int (0 : Int32)), (0, .ref (ad 0)), (1, .int v1), (2, .int v2), (3, .int v3), (4, .int v4)]) hC (by decide) rfl dX12_evening_61 ?_
    refine zr_iconst (pc := 63) hC zki_0 dX12_evening_63 ?_
    refine zr_istore (pc := 64) (lv' := [(6, .int (0 : Int32)), (5, .int (0 : Int32)), (0, .ref (ad 0)), (1, .int v1), (2, .int v2), (3, .int v3), (4, .int v4)]) hC (by decide) rfl dX12_evening_64 ?_
    obtain ⟨q5, hq5, h⟩ := zbd h
    refine zV.sub (lv' := [(0, .ref (ad 0)), (1, .int v1), (3, .int v3), (5, .int (0 : Int32)), (6, .int (0 : Int32))]) [2, 3, 5, 1, 0] rfl ?_
    refine zit3 (Wp := fun (y0 : zM) (y1 : Int32) (y2 : Int32) => zV X 0 0 (zwM κ ad y0) [(0, .ref (ad 0)), (1, .int v1), (3, .int v3), (5, .int y1), (6, .int y2)] [] 66) (Ex := fun (b9 : (zM × Int32)) => zV X 0 0 (zwM κ ad b9.1) [(5, .int b9.2)] [] 97) (fun y0 y1 y2 r9 hr hin hout => tX12_evening_L66_b39 hC hEk hin (fun z0 z1 e9 => hout (z0, z1) e9) hr) zFU M3 (0 : Int32) (0 : Int32) q5 hq5 ?_
    show zV X 0 0 (zwM κ ad q5.1) [(5, .int q5.2)] [] 97
    refine zr_iload (pc := 97) hC 0 rfl dX12_evening_97 ?_
    obtain rfl := Option.some.inj h
    exact zr_iret hC hR ⟨rfl, rfl⟩ (Nat.le_refl _) (Nat.le_refl _) dX12_evening_99
  · replace h := zin h c1
    refine zr_aload_n (pc := 44) hC 0 rfl rfl dX12_evening_44 ?_
    refine zr_iload (pc := 45) hC 4 rfl dX12_evening_45 ?_
    obtain ⟨q6, hq6, h⟩ := zbd h
    refine zr_cVi (pc := 47) hC hEk [.int v4] [] 0 1 (fun l D => tX12_lower hEk hq6 l D) gX12_evening_X12_lower rfl rfl rfl ⟨Nat.le_of_ble_eq_true rfl, Nat.le_of_ble_eq_true rfl⟩ hyX12_lower (by decide) entM_0 rfl rfl rfl (Nat.le_of_ble_eq_true rfl) ⟨Nat.le_of_ble_eq_true rfl, Nat.le_of_ble_eq_true rfl⟩ dX12_evening_47 ?_
    obtain rfl := Option.some.inj h
    exact zr_iret hC hR ⟨rfl, rfl⟩ (Nat.le_refl _) (Nat.le_refl _) dX12_evening_50
def xX12_evening (M : zM) (v1 : Int32) (v2 : Int32) (v3 : Int32) : Option (Int32 × zM) :=
  (xX12_isPlayer M v3).bind fun q1 =>
  if q1 = 0 then
  ((xX12_lower M (-1 : Int32)).bind fun q7 =>
  some (q7.1, q7.2))
  else
  (xX12_bound v1 (1 : Int32) (20 : Int32)).bind fun q3 =>
  if q3 = 0 then
  ((xX12_isWhole M).bind fun q5 =>
  if q5 = 0 then
  (xX12_evening_b39 M v1 v2 v3 (-3 : Int32))
  else
  xX12_evening_b39 M v1 v2 v3 q3)
  else
  xX12_evening_b39 M v1 v2 v3 q3
set_option maxHeartbeats 4000000 in
set_option maxRecDepth 100000 in
theorem tX12_evening {κ : Nat → ClassId} {E : zEn} {ad : Nat → Nat} (hEk : zEk E) {M : zM} {v1 : Int32} {v2 : Int32} {v3 : Int32} {res : (Int32 × zM)} (h : xX12_evening M v1 v2 v3 = some res) (l : Launch) (D : va_G) : zCT E D vwCl (zty κ) l yX12_evening wsX12_evening ({ frames := 5, cells := 0, slots := 0, locals := 115 } : Room) 0 0 [.ref (ad 0), .int v1, .int v2, .int v3] (zwM κ ad M) (zPd (some (.int res.1)) (zwM κ ad res.2)) := by
  refine zCT.of (cc := cX12_evening) (maxL := 7) (ret := (some .int)) (by decide) rfl (Nat.le_of_ble_eq_true rfl) ?_
  intro X hC hR
  unfold xX12_evening at h
  refine zV.sub (lv' := [(0, .ref (ad 0)), (1, .int v1), (2, .int v2), (3, .int v3)]) [0, 1, 2, 3] rfl ?_
  refine zr_aload_n (pc := 0) hC 0 rfl rfl dX12_evening_0 ?_
  refine zr_iload_n (pc := 1) hC 3 rfl rfl dX12_evening_1 ?_
  obtain ⟨q1, hq1, h⟩ := zbd h
  refine zr_cVi (pc := 2) hC hEk [.int v3] [] 0 1 (fun l D => tX12_isPlayer hEk hq1 l D) gX12_evening_X12_isPlayer rfl rfl rfl ⟨Nat.le_of_ble_eq_true rfl, Nat.le_of_ble_eq_true rfl⟩ hyX12_isPlayer (by decide) entM_0 rfl rfl rfl (Nat.le_of_ble_eq_true rfl) ⟨Nat.le_of_ble_eq_true rfl, Nat.le_of_ble_eq_true rfl⟩ dX12_evening_2 ?_
  refine zr_if_ne (pc := 5) (tgt := 14) hC dX12_evening_5 (by decide) (fun c2 => ?_) (fun c2 => ?_)
  · replace h := zin h c2
    refine zr_iload_n (pc := 14) hC 1 rfl rfl dX12_evening_14 ?_
    refine zr_iconst (pc := 15) hC zki_1 dX12_evening_15 ?_
    refine zr_bipush (pc := 16) hC zkb_20 dX12_evening_16 ?_
    obtain ⟨q3, hq3, h⟩ := zbd h
    refine zr_cSi (pc := 18) hC hEk [.int v1, .int (1 : Int32), .int (20 : Int32)] [] 3 (fun l D => tX12_bound hEk hq3 l D) gX12_evening_X12_bound rfl rfl rfl ⟨Nat.le_of_ble_eq_true rfl, Nat.le_of_ble_eq_true rfl⟩ hyX12_bound rfl rfl (Nat.le_of_ble_eq_true rfl) ⟨Nat.le_of_ble_eq_true rfl, Nat.le_of_ble_eq_true rfl⟩ dX12_evening_18 ?_
    refine zr_istore (pc := 21) (lv' := [(4, .int q3), (0, .ref (ad 0)), (1, .int v1), (2, .int v2), (3, .int v3)]) hC (by decide) rfl dX12_evening_21 ?_
    refine zr_iload (pc := 23) hC 0 rfl dX12_evening_23 ?_
    refine zr_if_ne (pc := 25) (tgt := 39) hC dX12_evening_25 (by decide) (fun c4 => ?_) (fun c4 => ?_)
    · replace h := zin h c4
      exact zV.sub (lv' := [(0, .ref (ad 0)), (1, .int v1), (2, .int v2), (3, .int v3), (4, .int q3)]) [1, 2, 3, 4, 0] rfl (tX12_evening_b39 hC hEk hR h)
    · replace h := zip h c4
      refine zr_aload_n (pc := 28) hC 1 rfl rfl dX12_evening_28 ?_
      obtain ⟨q5, hq5, h⟩ := zbd h
      refine zr_cVi (pc := 29) hC hEk [] [] 0 0 (fun l D => tX12_isWhole hEk hq5 l D) gX12_evening_X12_isWhole rfl rfl rfl ⟨Nat.le_of_ble_eq_true rfl, Nat.le_of_ble_eq_true rfl⟩ hyX12_isWhole (by decide) entM_0 rfl rfl rfl (Nat.le_of_ble_eq_true rfl) ⟨Nat.le_of_ble_eq_true rfl, Nat.le_of_ble_eq_true rfl⟩ dX12_evening_29 ?_
      refine zr_if_ne (pc := 32) (tgt := 39) hC dX12_evening_32 (by decide) (fun c6 => ?_) (fun c6 => ?_)
      · replace h := zin h c6
        exact zV.sub (lv' := [(0, .ref (ad 0)), (1, .int v1), (2, .int v2), (3, .int v3), (4, .int q3)]) [1, 2, 3, 4, 0] rfl (tX12_evening_b39 hC hEk hR h)
      · replace h := zip h c6
        refine zr_bipush (pc := 35) hC zkb_m3 dX12_evening_35 ?_
        refine zr_istore (pc := 37) (lv' := [(4, .int (-3 : Int32)), (0, .ref (ad 0)), (1, .int v1), (2, .int v2), (3, .int v3)]) hC (by decide) rfl dX12_evening_37 ?_
        exact zV.sub (lv' := [(0, .ref (ad 0)), (1, .int v1), (2, .int v2), (3, .int v3), (4, .int (-3 : Int32))]) [1, 2, 3, 4, 0] rfl (tX12_evening_b39 hC hEk hR h)
  · replace h := zip h c2
    refine zr_aload_n (pc := 8) hC 0 rfl rfl dX12_evening_8 ?_
    refine zr_iconst (pc := 9) hC zki_m1 dX12_evening_9 ?_
    obtain ⟨q7, hq7, h⟩ := zbd h
    refine zr_cVi (pc := 10) hC hEk [.int (-1 : Int32)] [] 0 1 (fun l D => tX12_lower hEk hq7 l D) gX12_evening_X12_lower rfl rfl rfl ⟨Nat.le_of_ble_eq_true rfl, Nat.le_of_ble_eq_true rfl⟩ hyX12_lower (by decide) entM_0 rfl rfl rfl (Nat.le_of_ble_eq_true rfl) ⟨Nat.le_of_ble_eq_true rfl, Nat.le_of_ble_eq_true rfl⟩ dX12_evening_10 ?_
    obtain rfl := Option.some.inj h
    exact zr_iret hC hR ⟨rfl, rfl⟩ (Nat.le_refl _) (Nat.le_refl _) dX12_evening_13
/-! X12_row -/
theorem hyX12_row : yX12_row.cls = RX12 ∧ yX12_row.cls ≠ "java/lang/invoke/MethodHandle" ∧ yX12_row.cls ≠ "java/lang/invoke/VarHandle" ∧ (parseMethodDescriptor yX12_row.desc).map (fun d => d.parameters.length) = some 1 := by decide +kernel
theorem flX12_row_105 : Cond.fieldLink RX12 105 "BeforeTheEndModel" "row" "[I" ∈ wsX12_row := by decide +kernel
theorem flX12_row_327 : Cond.fieldLink RX12 327 "BeforeTheEndModel" "rowMany" "I" ∈ wsX12_row := by decide +kernel
theorem hinX12_row_X12 : ∀ w ∈ wsX120, w ∈ wsX12_row := fun _ h => List.mem_cons_of_mem _ (List.mem_append_right _ h)
def xX12_row (M : zM) (v1 : Int32) : Option (Int32 × zM) :=
  (xX12_bound v1 (0 : Int32) (9 : Int32)).bind fun q1 =>
  if q1 = 0 then
  (if (M.1 0 47) = (20 : Int32) then
  ((xX12_no M (-6 : Int32)).bind fun q18 =>
  some (q18.1, q18.2))
  else
  if q1 = 0 then
  (if ((M.1 0 47) < 0 ∨ 20 ≤ (M.1 0 47).toNatClampNeg) then none else
  zlet (zsi M 31 (M.1 0 47).toNatClampNeg v1) fun M13 =>
  zlet (zsi M13 0 47 ((M13.1 0 47) + (1 : Int32))) fun M15 =>
  some ((M15.1 0 47), M15))
  else
  (xX12_no M q1).bind fun q17 =>
  some (q17.1, q17.2))
  else
  if q1 = 0 then
  (if ((M.1 0 47) < 0 ∨ 20 ≤ (M.1 0 47).toNatClampNeg) then none else
  zlet (zsi M 31 (M.1 0 47).toNatClampNeg v1) fun M5 =>
  zlet (zsi M5 0 47 ((M5.1 0 47) + (1 : Int32))) fun M7 =>
  some ((M7.1 0 47), M7))
  else
  (xX12_no M q1).bind fun q9 =>
  some (q9.1, q9.2)
set_option maxHeartbeats 4000000 in
set_option maxRecDepth 100000 in
theorem tX12_row {κ : Nat → ClassId} {E : zEn} {ad : Nat → Nat} (hEk : zEk E) {M : zM} {v1 : Int32} {res : (Int32 × zM)} (h : xX12_row M v1 = some res) (l : Launch) (D : va_G) : zCT E D vwCl (zty κ) l yX12_row wsX12_row ({ frames := 1, cells := 0, slots := 0, locals := 22 } : Room) 0 0 [.ref (ad 0), .int v1] (zwM κ ad M) (zPd (some (.int res.1)) (zwM κ ad res.2)) := by
  refine zCT.of (cc := cX12_row) (maxL := 3) (ret := (some .int)) (by decide) rfl (Nat.le_of_ble_eq_true rfl) ?_
  intro X hC hR
  unfold xX12_row at h
  refine zV.sub (lv' := [(0, .ref (ad 0)), (1, .int v1)]) [0, 1] rfl ?_
  refine zr_iload_n (pc := 0) hC 1 rfl rfl dX12_row_0 ?_
  refine zr_iconst (pc := 1) hC zki_0 dX12_row_1 ?_
  refine zr_bipush (pc := 2) hC zkb_9 dX12_row_2 ?_
  obtain ⟨q1, hq1, h⟩ := zbd h
  refine zr_cSi (pc := 4) hC hEk [.int v1, .int (0 : Int32), .int (9 : Int32)] [] 3 (fun l D => tX12_bound hEk hq1 l D) gX12_row_X12_bound rfl rfl rfl ⟨Nat.le_of_ble_eq_true rfl, Nat.le_of_ble_eq_true rfl⟩ hyX12_bound rfl rfl (Nat.le_of_ble_eq_true rfl) ⟨Nat.le_of_ble_eq_true rfl, Nat.le_of_ble_eq_true rfl⟩ dX12_row_4 ?_
  refine zr_istore_n (pc := 7) (lv' := [(2, .int q1), (0, .ref (ad 0)), (1, .int v1)]) hC rfl (by decide) rfl dX12_row_7 ?_
  refine zr_iload_n (pc := 8) hC 0 rfl rfl dX12_row_8 ?_
  refine zr_if_ne (pc := 9) (tgt := 24) hC dX12_row_9 (by decide) (fun c2 => ?_) (fun c2 => ?_)
  · replace h := zin h c2
    refine zr_iload_n (pc := 24) hC 0 rfl rfl dX12_row_24 ?_
    refine zr_if_eq (pc := 25) (tgt := 34) hC dX12_row_25 (by decide) (fun c3 => ?_) (fun c3 => ?_)
    · replace h := zip h c3
      refine zr_aload_n (pc := 34) hC 1 rfl rfl dX12_row_34 ?_
      refine zmg_46 (pc := 35) hC hinX12_row_X12 flX12_row_105 dX12_row_35 ?_
      refine zr_aload_n (pc := 38) hC 1 rfl rfl dX12_row_38 ?_
      refine zmg_47 (pc := 39) hC hinX12_row_X12 flX12_row_327 dX12_row_39 ?_
      refine zr_iload_n (pc := 42) hC 2 rfl rfl dX12_row_42 ?_
      obtain ⟨i4, h⟩ := zgd h
      obtain ⟨M5, e6, h⟩ := zle h
      refine zms_31 (pc := 43) hC i4 e6 dX12_row_43 ?_
      refine zr_aload_n (pc := 44) hC 1 rfl rfl dX12_row_44 ?_
      refine zr_dup (pc := 45) hC rfl dX12_row_45 ?_
      refine zmg_47 (pc := 46) hC hinX12_row_X12 flX12_row_327 dX12_row_46 ?_
      refine zr_iconst (pc := 49) hC zki_1 dX12_row_49 ?_
      refine zr_iadd (pc := 50) hC dX12_row_50 ?_
      obtain ⟨M7, e8, h⟩ := zle h
      refine zmp_47 (pc := 51) hC hinX12_row_X12 flX12_row_327 e8 dX12_row_51 ?_
      refine zr_aload_n (pc := 54) hC 1 rfl rfl dX12_row_54 ?_
      refine zmg_47 (pc := 55) hC hinX12_row_X12 flX12_row_327 dX12_row_55 ?_
      obtain rfl := Option.some.inj h
      exact zr_iret hC hR ⟨rfl, rfl⟩ (Nat.le_refl _) (Nat.le_refl _) dX12_row_58
    · replace h := zin h c3
      refine zr_aload_n (pc := 28) hC 1 rfl rfl dX12_row_28 ?_
      refine zr_iload_n (pc := 29) hC 0 rfl rfl dX12_row_29 ?_
      obtain ⟨q9, hq9, h⟩ := zbd h
      refine zr_cVi (pc := 30) hC hEk [.int q1] [] 0 1 (fun l D => tX12_no hEk hq9 l D) gX12_row_X12_no rfl rfl rfl ⟨Nat.le_of_ble_eq_true rfl, Nat.le_of_ble_eq_true rfl⟩ hyX12_no (by decide) entM_0 rfl rfl rfl (Nat.le_of_ble_eq_true rfl) ⟨Nat.le_of_ble_eq_true rfl, Nat.le_of_ble_eq_true rfl⟩ dX12_row_30 ?_
      obtain rfl := Option.some.inj h
      exact zr_iret hC hR ⟨rfl, rfl⟩ (Nat.le_refl _) (Nat.le_refl _) dX12_row_33
  · replace h := zip h c2
    refine zr_aload_n (pc := 12) hC 1 rfl rfl dX12_row_12 ?_
    refine zmg_47 (pc := 13) hC hinX12_row_X12 flX12_row_327 dX12_row_13 ?_
    refine zr_bipush (pc := 16) hC zkb_20 dX12_row_16 ?_
    refine zr_icmp_ne (pc := 18) (tgt := 24) hC dX12_row_18 (by decide) (fun c10 => ?_) (fun c10 => ?_)
    · replace h := zin h c10
      refine zr_iload_n (pc := 24) hC 0 rfl rfl dX12_row_24 ?_
      refine zr_if_eq (pc := 25) (tgt := 34) hC dX12_row_25 (by decide) (fun c11 => ?_) (fun c11 => ?_)
      · replace h := zip h c11
        refine zr_aload_n (pc := 34) hC 1 rfl rfl dX12_row_34 ?_
        refine zmg_46 (pc := 35) hC hinX12_row_X12 flX12_row_105 dX12_row_35 ?_
        refine zr_aload_n (pc := 38) hC 1 rfl rfl dX12_row_38 ?_
        refine zmg_47 (pc := 39) hC hinX12_row_X12 flX12_row_327 dX12_row_39 ?_
        refine zr_iload_n (pc := 42) hC 2 rfl rfl dX12_row_42 ?_
        obtain ⟨i12, h⟩ := zgd h
        obtain ⟨M13, e14, h⟩ := zle h
        refine zms_31 (pc := 43) hC i12 e14 dX12_row_43 ?_
        refine zr_aload_n (pc := 44) hC 1 rfl rfl dX12_row_44 ?_
        refine zr_dup (pc := 45) hC rfl dX12_row_45 ?_
        refine zmg_47 (pc := 46) hC hinX12_row_X12 flX12_row_327 dX12_row_46 ?_
        refine zr_iconst (pc := 49) hC zki_1 dX12_row_49 ?_
        refine zr_iadd (pc := 50) hC dX12_row_50 ?_
        obtain ⟨M15, e16, h⟩ := zle h
        refine zmp_47 (pc := 51) hC hinX12_row_X12 flX12_row_327 e16 dX12_row_51 ?_
        refine zr_aload_n (pc := 54) hC 1 rfl rfl dX12_row_54 ?_
        refine zmg_47 (pc := 55) hC hinX12_row_X12 flX12_row_327 dX12_row_55 ?_
        obtain rfl := Option.some.inj h
        exact zr_iret hC hR ⟨rfl, rfl⟩ (Nat.le_refl _) (Nat.le_refl _) dX12_row_58
      · replace h := zin h c11
        refine zr_aload_n (pc := 28) hC 1 rfl rfl dX12_row_28 ?_
        refine zr_iload_n (pc := 29) hC 0 rfl rfl dX12_row_29 ?_
        obtain ⟨q17, hq17, h⟩ := zbd h
        refine zr_cVi (pc := 30) hC hEk [.int q1] [] 0 1 (fun l D => tX12_no hEk hq17 l D) gX12_row_X12_no rfl rfl rfl ⟨Nat.le_of_ble_eq_true rfl, Nat.le_of_ble_eq_true rfl⟩ hyX12_no (by decide) entM_0 rfl rfl rfl (Nat.le_of_ble_eq_true rfl) ⟨Nat.le_of_ble_eq_true rfl, Nat.le_of_ble_eq_true rfl⟩ dX12_row_30 ?_
        obtain rfl := Option.some.inj h
        exact zr_iret hC hR ⟨rfl, rfl⟩ (Nat.le_refl _) (Nat.le_refl _) dX12_row_33
    · replace h := zip h c10
      refine zr_bipush (pc := 21) hC zkb_m6 dX12_row_21 ?_
      refine zr_istore_n (pc := 23) (lv' := [(2, .int (-6 : Int32)), (0, .ref (ad 0)), (1, .int v1)]) hC rfl (by decide) rfl dX12_row_23 ?_
      refine zr_iload_n (pc := 24) hC 0 rfl rfl dX12_row_24 ?_
      refine zr_if_eq (pc := 25) (tgt := 34) hC dX12_row_25 (by decide) (fun c => absurd c (by decide)) (fun _ => ?_)
      refine zr_aload_n (pc := 28) hC 1 rfl rfl dX12_row_28 ?_
      refine zr_iload_n (pc := 29) hC 0 rfl rfl dX12_row_29 ?_
      obtain ⟨q18, hq18, h⟩ := zbd h
      refine zr_cVi (pc := 30) hC hEk [.int (-6 : Int32)] [] 0 1 (fun l D => tX12_no hEk hq18 l D) gX12_row_X12_no rfl rfl rfl ⟨Nat.le_of_ble_eq_true rfl, Nat.le_of_ble_eq_true rfl⟩ hyX12_no (by decide) entM_0 rfl rfl rfl (Nat.le_of_ble_eq_true rfl) ⟨Nat.le_of_ble_eq_true rfl, Nat.le_of_ble_eq_true rfl⟩ dX12_row_30 ?_
      obtain rfl := Option.some.inj h
      exact zr_iret hC hR ⟨rfl, rfl⟩ (Nat.le_refl _) (Nat.le_refl _) dX12_row_33
/-! X12_judge -/
theorem hyX12_judge : yX12_judge.cls = RX12 ∧ yX12_judge.cls ≠ "java/lang/invoke/MethodHandle" ∧ yX12_judge.cls ≠ "java/lang/invoke/VarHandle" ∧ (parseMethodDescriptor yX12_judge.desc).map (fun d => d.parameters.length) = some 1 := by decide +kernel
theorem flX12_judge_105 : Cond.fieldLink RX12 105 "BeforeTheEndModel" "row" "[I" ∈ wsX12_judge := by decide +kernel
theorem flX12_judge_256 : Cond.fieldLink RX12 256 "BeforeTheEndModel" "firstWho" "I" ∈ wsX12_judge := by decide +kernel
theorem flX12_judge_315 : Cond.fieldLink RX12 315 "BeforeTheEndModel" "lots" "I" ∈ wsX12_judge := by decide +kernel
theorem flX12_judge_327 : Cond.fieldLink RX12 327 "BeforeTheEndModel" "rowMany" "I" ∈ wsX12_judge := by decide +kernel
theorem hinX12_judge_X12 : ∀ w ∈ wsX120, w ∈ wsX12_judge := fun _ h => List.mem_cons_of_mem _ (List.mem_append_right _ h)
def xX12_judge_L35 (v2 : Int32) (w0 : zM) (w1 : Int32) : Option ((zM × Int32) ⊕ ((zM × Int32) ⊕ zM)) :=
  if v2 ≤ w1 then
  (some (.inr (.inr w0)))
  else
  (xX12_drawn w0).bind fun q2 =>
  (xX12_runs q2.2 q2.1).bind fun q3 =>
  if (w1 < 0 ∨ 20 ≤ w1.toNatClampNeg) then none else
  if 0 ≤ (q3.1 0 36) then
  (if (q3.1 31 w1.toNatClampNeg) = (q3.1 0 36) then
  (some (.inl (q3, (w1 + (1 : Int32)))))
  else
  some (.inr (.inl (q3, w1))))
  else
  if (q3.1 31 w1.toNatClampNeg) = (9 : Int32) then
  (some (.inl (q3, (w1 + (1 : Int32)))))
  else
  some (.inr (.inl (q3, w1)))
set_option maxHeartbeats 4000000 in
set_option maxRecDepth 100000 in
theorem tX12_judge_L35 {κ : Nat → ClassId} {E : zEn} {ad : Nat → Nat} {X : zX} {v2 : Int32} {w0 : zM} {w1 : Int32} {r : ((zM × Int32) ⊕ ((zM × Int32) ⊕ zM))} (hC : zC X cX12_judge RX12 wsX12_judge vwCl (zty κ) E 4 ({ frames := 5, cells := 0, slots := 0, locals := 115 } : Room)) (hEk : zEk E) (hin : ∀ (x0' : zM) (x1' : Int32), r = .inl (x0', x1') → zV X 0 0 (zwM κ ad x0') [(0, .ref (ad 0)), (2, .int v2), (3, .int x1')] [] 35) (hout0 : ∀ (x0' : zM) (x1' : Int32), r = .inr (.inl (x0', x1')) → zV X 0 0 (zwM κ ad x0') [(3, .int x1')] [] 73) (hout1 : ∀ (x0' : zM), r = .inr (.inr x0') → zV X 0 0 (zwM κ ad x0') [] [] 81) (h : xX12_judge_L35  v2 w0 w1 = some r) : zV X 0 0 (zwM κ ad w0) [(0, .ref (ad 0)), (2, .int v2), (3, .int w1)] [] 35 := by
  unfold xX12_judge_L35 at h
  refine zr_iload_n (pc := 35) hC 2 rfl rfl dX12_judge_35 ?_
  refine zr_iload_n (pc := 36) hC 1 rfl rfl dX12_judge_36 ?_
  refine zr_icmp_ge (pc := 37) (tgt := 81) hC dX12_judge_37 (by decide) (fun c1 => ?_) (fun c1 => ?_)
  · replace h := zip h c1
    obtain rfl := Option.some.inj h
    exact zV.sub (lv' := []) [] rfl (hout1 w0 rfl)
  · replace h := zin h c1
    refine zr_aload_n (pc := 40) hC 0 rfl rfl dX12_judge_40 ?_
    refine zr_aload_n (pc := 41) hC 0 rfl rfl dX12_judge_41 ?_
    obtain ⟨q2, hq2, h⟩ := zbd h
    refine zr_cVi (pc := 42) hC hEk [] [.ref (ad 0)] 0 0 (fun l D => tX12_drawn hEk hq2 l D) gX12_judge_X12_drawn rfl rfl rfl ⟨Nat.le_of_ble_eq_true rfl, Nat.le_of_ble_eq_true rfl⟩ hyX12_drawn (by decide) entM_0 rfl rfl rfl (Nat.le_of_ble_eq_true rfl) ⟨Nat.le_of_ble_eq_true rfl, Nat.le_of_ble_eq_true rfl⟩ dX12_judge_42 ?_
    obtain ⟨q3, hq3, h⟩ := zbd h
    refine zr_cVv (pc := 45) hC hEk [.int q2.1] [] 0 1 (fun l D => tX12_runs hEk hq3 l D) gX12_judge_X12_runs rfl rfl rfl ⟨Nat.le_of_ble_eq_true rfl, Nat.le_of_ble_eq_true rfl⟩ hyX12_runs (by decide) entM_0 rfl rfl rfl (Nat.le_of_ble_eq_true rfl) ⟨Nat.le_of_ble_eq_true rfl, Nat.le_of_ble_eq_true rfl⟩ dX12_judge_45 ?_
    refine zr_aload_n (pc := 48) hC 0 rfl rfl dX12_judge_48 ?_
    refine zmg_46 (pc := 49) hC hinX12_judge_X12 flX12_judge_105 dX12_judge_49 ?_
    refine zr_iload_n (pc := 52) hC 2 rfl rfl dX12_judge_52 ?_
    obtain ⟨i4, h⟩ := zgd h
    refine zml_31 (pc := 53) hC i4 dX12_judge_53 ?_
    refine zr_aload_n (pc := 54) hC 0 rfl rfl dX12_judge_54 ?_
    refine zmg_36 (pc := 55) hC hinX12_judge_X12 flX12_judge_256 dX12_judge_55 ?_
    refine zr_if_ge (pc := 58) (tgt := 66) hC dX12_judge_58 (by decide) (fun c5 => ?_) (fun c5 => ?_)
    · replace h := zip h c5
      refine zr_aload_n (pc := 66) hC 0 rfl rfl dX12_judge_66 ?_
      refine zmg_36 (pc := 67) hC hinX12_judge_X12 flX12_judge_256 dX12_judge_67 ?_
      refine zr_icmp_eq (pc := 70) (tgt := 75) hC dX12_judge_70 (by decide) (fun c6 => ?_) (fun c6 => ?_)
      · replace h := zip h c6
        refine zr_iinc (pc := 75) (k := 2) (lv' := [(3, .int (w1 + (1 : Int32))), (0, .ref (ad 0)), (2, .int v2)]) hC zki_1 (by decide) rfl rfl dX12_judge_75 ?_
        refine zr_goto (pc := 78) (tgt := 35) hC dX12_judge_78 (by decide) ?_
        obtain rfl := Option.some.inj h
        exact zV.sub (lv' := [(0, .ref (ad 0)), (2, .int v2), (3, .int (w1 + (1 : Int32)))]) [1, 2, 0] rfl (hin q3 (w1 + (1 : Int32)) rfl)
      · replace h := zin h c6
        obtain rfl := Option.some.inj h
        exact zV.sub (lv' := [(3, .int w1)]) [2] rfl (hout0 q3 w1 rfl)
    · replace h := zin h c5
      refine zr_bipush (pc := 61) hC zkb_9 dX12_judge_61 ?_
      refine zr_goto (pc := 63) (tgt := 70) hC dX12_judge_63 (by decide) ?_
      refine zr_icmp_eq (pc := 70) (tgt := 75) hC dX12_judge_70 (by decide) (fun c7 => ?_) (fun c7 => ?_)
      · replace h := zip h c7
        refine zr_iinc (pc := 75) (k := 2) (lv' := [(3, .int (w1 + (1 : Int32))), (0, .ref (ad 0)), (2, .int v2)]) hC zki_1 (by decide) rfl rfl dX12_judge_75 ?_
        refine zr_goto (pc := 78) (tgt := 35) hC dX12_judge_78 (by decide) ?_
        obtain rfl := Option.some.inj h
        exact zV.sub (lv' := [(0, .ref (ad 0)), (2, .int v2), (3, .int (w1 + (1 : Int32)))]) [1, 2, 0] rfl (hin q3 (w1 + (1 : Int32)) rfl)
      · replace h := zin h c7
        obtain rfl := Option.some.inj h
        exact zV.sub (lv' := [(3, .int w1)]) [2] rfl (hout0 q3 w1 rfl)
def xX12_judge (M : zM) (v1 : Int32) : Option (Int32 × zM) :=
  (xX12_isWhole M).bind fun q1 =>
  if q1 = 0 then
  ((xX12_no M (-3 : Int32)).bind fun q13 =>
  some (q13.1, q13.2))
  else
  (xX12_finds M).bind fun q3 =>
  zlet (q3.1 0 47) fun z4 =>
  zlet (zsi q3 0 47 (0 : Int32)) fun M6 =>
  zlet (zsi M6 0 45 v1) fun M8 =>
  (x_it (fun a9 => xX12_judge_L35 z4 a9.1 a9.2) zFU (M8, (0 : Int32))).bind fun q10 =>
  Sum.elim (fun b11 => some (b11.2, b11.1)) (fun c12 => some ((-9 : Int32), c12)) q10
set_option maxHeartbeats 4000000 in
set_option maxRecDepth 100000 in
theorem tX12_judge {κ : Nat → ClassId} {E : zEn} {ad : Nat → Nat} (hEk : zEk E) {M : zM} {v1 : Int32} {res : (Int32 × zM)} (h : xX12_judge M v1 = some res) (l : Launch) (D : va_G) : zCT E D vwCl (zty κ) l yX12_judge wsX12_judge ({ frames := 5, cells := 0, slots := 0, locals := 115 } : Room) 0 0 [.ref (ad 0), .int v1] (zwM κ ad M) (zPd (some (.int res.1)) (zwM κ ad res.2)) := by
  refine zCT.of (cc := cX12_judge) (maxL := 4) (ret := (some .int)) (by decide) rfl (Nat.le_of_ble_eq_true rfl) ?_
  intro X hC hR
  unfold xX12_judge at h
  refine zV.sub (lv' := [(0, .ref (ad 0)), (1, .int v1)]) [0, 1] rfl ?_
  refine zr_aload_n (pc := 0) hC 0 rfl rfl dX12_judge_0 ?_
  obtain ⟨q1, hq1, h⟩ := zbd h
  refine zr_cVi (pc := 1) hC hEk [] [] 0 0 (fun l D => tX12_isWhole hEk hq1 l D) gX12_judge_X12_isWhole rfl rfl rfl ⟨Nat.le_of_ble_eq_true rfl, Nat.le_of_ble_eq_true rfl⟩ hyX12_isWhole (by decide) entM_0 rfl rfl rfl (Nat.le_of_ble_eq_true rfl) ⟨Nat.le_of_ble_eq_true rfl, Nat.le_of_ble_eq_true rfl⟩ dX12_judge_1 ?_
  refine zr_if_ne (pc := 4) (tgt := 14) hC dX12_judge_4 (by decide) (fun c2 => ?_) (fun c2 => ?_)
  · replace h := zin h c2
    refine zr_aload_n (pc := 14) hC 0 rfl rfl dX12_judge_14 ?_
    obtain ⟨q3, hq3, h⟩ := zbd h
    refine zr_cVv (pc := 15) hC hEk [] [] 0 0 (fun l D => tX12_finds hEk hq3 l D) gX12_judge_X12_finds rfl rfl rfl ⟨Nat.le_of_ble_eq_true rfl, Nat.le_of_ble_eq_true rfl⟩ hyX12_finds (by decide) entM_0 rfl rfl rfl (Nat.le_of_ble_eq_true rfl) ⟨Nat.le_of_ble_eq_true rfl, Nat.le_of_ble_eq_true rfl⟩ dX12_judge_15 ?_
    refine zr_aload_n (pc := 18) hC 0 rfl rfl dX12_judge_18 ?_
    refine zmg_47 (pc := 19) hC hinX12_judge_X12 flX12_judge_327 dX12_judge_19 ?_
    obtain ⟨z4, e5, h⟩ := zle h
    refine zr_topi e5 ?_
    refine zr_istore_n (pc := 22) (lv' := [(2, .int z4), (0, .ref (ad 0)), (1, .int v1)]) hC rfl (by decide) rfl dX12_judge_22 ?_
    refine zr_aload_n (pc := 23) hC 1 rfl rfl dX12_judge_23 ?_
    refine zr_iconst (pc := 24) hC zki_0 dX12_judge_24 ?_
    obtain ⟨M6, e7, h⟩ := zle h
    refine zmp_47 (pc := 25) hC hinX12_judge_X12 flX12_judge_327 e7 dX12_judge_25 ?_
    refine zr_aload_n (pc := 28) hC 1 rfl rfl dX12_judge_28 ?_
    refine zr_iload_n (pc := 29) hC 2 rfl rfl dX12_judge_29 ?_
    obtain ⟨M8, e9, h⟩ := zle h
    refine zmp_45 (pc := 30) hC hinX12_judge_X12 flX12_judge_315 e9 dX12_judge_30 ?_
    refine zr_iconst (pc := 33) hC zki_0 dX12_judge_33 ?_
    refine zr_istore_n (pc := 34) (lv' := [(3, .int (0 : Int32)), (2, .int z4), (0, .ref (ad 0)), (1, .int v1)]) hC rfl (by decide) rfl dX12_judge_34 ?_
    obtain ⟨q10, hq10, h⟩ := zbd h
    refine zV.sub (lv' := [(0, .ref (ad 0)), (2, .int z4), (3, .int (0 : Int32))]) [2, 1, 0] rfl ?_
    refine zit2 (Wp := fun (y0 : zM) (y1 : Int32) => zV X 0 0 (zwM κ ad y0) [(0, .ref (ad 0)), (2, .int z4), (3, .int y1)] [] 35) (Ex := fun (b9 : ((zM × Int32) ⊕ zM)) => Sum.elim (fun (b0 : (zM × Int32)) => zV X 0 0 (zwM κ ad b0.1) [(3, .int b0.2)] [] 73) (fun (c0 : zM) => zV X 0 0 (zwM κ ad c0) [] [] 81) b9) (fun y0 y1 r9 hr hin hout => tX12_judge_L35 hC hEk hin (fun z0 z1 e9 => hout (.inl (z0, z1)) e9) (fun z0 e9 => hout (.inr z0) e9) hr) zFU M8 (0 : Int32) q10 hq10 ?_
    rcases q10 with b11 | c12
    · replace h := zel h
      show zV X 0 0 (zwM κ ad b11.1) [(3, .int b11.2)] [] 73
      refine zr_iload_n (pc := 73) hC 0 rfl rfl dX12_judge_73 ?_
      obtain rfl := Option.some.inj h
      exact zr_iret hC hR ⟨rfl, rfl⟩ (Nat.le_refl _) (Nat.le_refl _) dX12_judge_74
    · replace h := zer h
      show zV X 0 0 (zwM κ ad c12) [] [] 81
      refine zr_bipush (pc := 81) hC zkb_m9 dX12_judge_81 ?_
      obtain rfl := Option.some.inj h
      exact zr_iret hC hR ⟨rfl, rfl⟩ (Nat.le_refl _) (Nat.le_refl _) dX12_judge_83
  · replace h := zip h c2
    refine zr_aload_n (pc := 7) hC 0 rfl rfl dX12_judge_7 ?_
    refine zr_bipush (pc := 8) hC zkb_m3 dX12_judge_8 ?_
    obtain ⟨q13, hq13, h⟩ := zbd h
    refine zr_cVi (pc := 10) hC hEk [.int (-3 : Int32)] [] 0 1 (fun l D => tX12_no hEk hq13 l D) gX12_judge_X12_no rfl rfl rfl ⟨Nat.le_of_ble_eq_true rfl, Nat.le_of_ble_eq_true rfl⟩ hyX12_no (by decide) entM_0 rfl rfl rfl (Nat.le_of_ble_eq_true rfl) ⟨Nat.le_of_ble_eq_true rfl, Nat.le_of_ble_eq_true rfl⟩ dX12_judge_10 ?_
    obtain rfl := Option.some.inj h
    exact zr_iret hC hR ⟨rfl, rfl⟩ (Nat.le_refl _) (Nat.le_refl _) dX12_judge_13
/-! X12_passOne -/
theorem hyX12_passOne : yX12_passOne.cls = RX12 ∧ yX12_passOne.cls ≠ "java/lang/invoke/MethodHandle" ∧ yX12_passOne.cls ≠ "java/lang/invoke/VarHandle" ∧ (parseMethodDescriptor yX12_passOne.desc).map (fun d => d.parameters.length) = some 1 := by decide +kernel
theorem flX12_passOne_108 : Cond.fieldLink RX12 108 "BeforeTheEndModel" "kept" "[I" ∈ wsX12_passOne := by decide +kernel
theorem flX12_passOne_330 : Cond.fieldLink RX12 330 "BeforeTheEndModel" "isKeeping" "Z" ∈ wsX12_passOne := by decide +kernel
theorem flX12_passOne_334 : Cond.fieldLink RX12 334 "BeforeTheEndModel" "cursor" "I" ∈ wsX12_passOne := by decide +kernel
theorem hinX12_passOne_X12 : ∀ w ∈ wsX120, w ∈ wsX12_passOne := fun _ h => List.mem_cons_of_mem _ (List.mem_append_right _ h)
def xX12_passOne (M : zM) (v1 : Int32) : Option (Int32 × zM) :=
  if (M.1 0 50) = 0 then
  (if ((M.1 0 51) < 0 ∨ 140 ≤ (M.1 0 51).toNatClampNeg) then none else
  zlet (M.1 32 (M.1 0 51).toNatClampNeg) fun z3 =>
  if (M.1 0 50) = 0 then
  (zlet (zsi M 0 51 ((M.1 0 51) + (1 : Int32))) fun M6 =>
  some (z3, M6))
  else
  zlet (zsi M 32 (M.1 0 51).toNatClampNeg v1) fun M8 =>
  zlet (zsi M8 0 51 ((M8.1 0 51) + (1 : Int32))) fun M10 =>
  some (z3, M10))
  else
  if (M.1 0 50) = 0 then
  (zlet (zsi M 0 51 ((M.1 0 51) + (1 : Int32))) fun M13 =>
  some (v1, M13))
  else
  if ((M.1 0 51) < 0 ∨ 140 ≤ (M.1 0 51).toNatClampNeg) then none else
  zlet (zsi M 32 (M.1 0 51).toNatClampNeg v1) fun M16 =>
  zlet (zsi M16 0 51 ((M16.1 0 51) + (1 : Int32))) fun M18 =>
  some (v1, M18)
set_option maxHeartbeats 4000000 in
set_option maxRecDepth 100000 in
theorem tX12_passOne {κ : Nat → ClassId} {E : zEn} {ad : Nat → Nat} (hEk : zEk E) {M : zM} {v1 : Int32} {res : (Int32 × zM)} (h : xX12_passOne M v1 = some res) (l : Launch) (D : va_G) : zCT E D vwCl (zty κ) l yX12_passOne wsX12_passOne ({ frames := 0, cells := 0, slots := 0, locals := 0 } : Room) 0 0 [.ref (ad 0), .int v1] (zwM κ ad M) (zPd (some (.int res.1)) (zwM κ ad res.2)) := by
  refine zCT.of (cc := cX12_passOne) (maxL := 3) (ret := (some .int)) (by decide) rfl (Nat.le_of_ble_eq_true rfl) ?_
  intro X hC hR
  unfold xX12_passOne at h
  refine zV.sub (lv' := [(0, .ref (ad 0)), (1, .int v1)]) [0, 1] rfl ?_
  refine zr_aload_n (pc := 0) hC 0 rfl rfl dX12_passOne_0 ?_
  refine zmg_50 (pc := 1) hC hinX12_passOne_X12 flX12_passOne_330 dX12_passOne_1 ?_
  refine zr_if_eq (pc := 4) (tgt := 11) hC dX12_passOne_4 (by decide) (fun c1 => ?_) (fun c1 => ?_)
  · replace h := zip h c1
    refine zr_aload_n (pc := 11) hC 0 rfl rfl dX12_passOne_11 ?_
    refine zmg_48 (pc := 12) hC hinX12_passOne_X12 flX12_passOne_108 dX12_passOne_12 ?_
    refine zr_aload_n (pc := 15) hC 0 rfl rfl dX12_passOne_15 ?_
    refine zmg_51 (pc := 16) hC hinX12_passOne_X12 flX12_passOne_334 dX12_passOne_16 ?_
    obtain ⟨i2, h⟩ := zgd h
    refine zml_32 (pc := 19) hC i2 dX12_passOne_19 ?_
    obtain ⟨z3, e4, h⟩ := zle h
    refine zr_topi e4 ?_
    refine zr_istore_n (pc := 20) (lv' := [(2, .int z3), (0, .ref (ad 0)), (1, .int v1)]) hC rfl (by decide) rfl dX12_passOne_20 ?_
    refine zr_aload_n (pc := 21) hC 1 rfl rfl dX12_passOne_21 ?_
    refine zmg_50 (pc := 22) hC hinX12_passOne_X12 flX12_passOne_330 dX12_passOne_22 ?_
    refine zr_if_eq (pc := 25) (tgt := 38) hC dX12_passOne_25 (by decide) (fun c5 => ?_) (fun c5 => ?_)
    · replace h := zip h c5
      refine zr_aload_n (pc := 38) hC 1 rfl rfl dX12_passOne_38 ?_
      refine zr_dup (pc := 39) hC rfl dX12_passOne_39 ?_
      refine zmg_51 (pc := 40) hC hinX12_passOne_X12 flX12_passOne_334 dX12_passOne_40 ?_
      refine zr_iconst (pc := 43) hC zki_1 dX12_passOne_43 ?_
      refine zr_iadd (pc := 44) hC dX12_passOne_44 ?_
      obtain ⟨M6, e7, h⟩ := zle h
      refine zmp_51 (pc := 45) hC hinX12_passOne_X12 flX12_passOne_334 e7 dX12_passOne_45 ?_
      refine zr_iload_n (pc := 48) hC 0 rfl rfl dX12_passOne_48 ?_
      obtain rfl := Option.some.inj h
      exact zr_iret hC hR ⟨rfl, rfl⟩ (Nat.le_refl _) (Nat.le_refl _) dX12_passOne_49
    · replace h := zin h c5
      refine zr_aload_n (pc := 28) hC 1 rfl rfl dX12_passOne_28 ?_
      refine zmg_48 (pc := 29) hC hinX12_passOne_X12 flX12_passOne_108 dX12_passOne_29 ?_
      refine zr_aload_n (pc := 32) hC 1 rfl rfl dX12_passOne_32 ?_
      refine zmg_51 (pc := 33) hC hinX12_passOne_X12 flX12_passOne_334 dX12_passOne_33 ?_
      refine zr_iload_n (pc := 36) hC 2 rfl rfl dX12_passOne_36 ?_
      obtain ⟨M8, e9, h⟩ := zle h
      refine zms_32 (pc := 37) hC i2 e9 dX12_passOne_37 ?_
      refine zr_aload_n (pc := 38) hC 1 rfl rfl dX12_passOne_38 ?_
      refine zr_dup (pc := 39) hC rfl dX12_passOne_39 ?_
      refine zmg_51 (pc := 40) hC hinX12_passOne_X12 flX12_passOne_334 dX12_passOne_40 ?_
      refine zr_iconst (pc := 43) hC zki_1 dX12_passOne_43 ?_
      refine zr_iadd (pc := 44) hC dX12_passOne_44 ?_
      obtain ⟨M10, e11, h⟩ := zle h
      refine zmp_51 (pc := 45) hC hinX12_passOne_X12 flX12_passOne_334 e11 dX12_passOne_45 ?_
      refine zr_iload_n (pc := 48) hC 0 rfl rfl dX12_passOne_48 ?_
      obtain rfl := Option.some.inj h
      exact zr_iret hC hR ⟨rfl, rfl⟩ (Nat.le_refl _) (Nat.le_refl _) dX12_passOne_49
  · replace h := zin h c1
    refine zr_iload_n (pc := 7) hC 1 rfl rfl dX12_passOne_7 ?_
    refine zr_goto (pc := 8) (tgt := 20) hC dX12_passOne_8 (by decide) ?_
    refine zr_istore_n (pc := 20) (lv' := [(2, .int v1), (0, .ref (ad 0)), (1, .int v1)]) hC rfl (by decide) rfl dX12_passOne_20 ?_
    refine zr_aload_n (pc := 21) hC 1 rfl rfl dX12_passOne_21 ?_
    refine zmg_50 (pc := 22) hC hinX12_passOne_X12 flX12_passOne_330 dX12_passOne_22 ?_
    refine zr_if_eq (pc := 25) (tgt := 38) hC dX12_passOne_25 (by decide) (fun c12 => ?_) (fun c12 => ?_)
    · replace h := zip h c12
      refine zr_aload_n (pc := 38) hC 1 rfl rfl dX12_passOne_38 ?_
      refine zr_dup (pc := 39) hC rfl dX12_passOne_39 ?_
      refine zmg_51 (pc := 40) hC hinX12_passOne_X12 flX12_passOne_334 dX12_passOne_40 ?_
      refine zr_iconst (pc := 43) hC zki_1 dX12_passOne_43 ?_
      refine zr_iadd (pc := 44) hC dX12_passOne_44 ?_
      obtain ⟨M13, e14, h⟩ := zle h
      refine zmp_51 (pc := 45) hC hinX12_passOne_X12 flX12_passOne_334 e14 dX12_passOne_45 ?_
      refine zr_iload_n (pc := 48) hC 0 rfl rfl dX12_passOne_48 ?_
      obtain rfl := Option.some.inj h
      exact zr_iret hC hR ⟨rfl, rfl⟩ (Nat.le_refl _) (Nat.le_refl _) dX12_passOne_49
    · replace h := zin h c12
      refine zr_aload_n (pc := 28) hC 1 rfl rfl dX12_passOne_28 ?_
      refine zmg_48 (pc := 29) hC hinX12_passOne_X12 flX12_passOne_108 dX12_passOne_29 ?_
      refine zr_aload_n (pc := 32) hC 1 rfl rfl dX12_passOne_32 ?_
      refine zmg_51 (pc := 33) hC hinX12_passOne_X12 flX12_passOne_334 dX12_passOne_33 ?_
      refine zr_iload_n (pc := 36) hC 2 rfl rfl dX12_passOne_36 ?_
      obtain ⟨i15, h⟩ := zgd h
      obtain ⟨M16, e17, h⟩ := zle h
      refine zms_32 (pc := 37) hC i15 e17 dX12_passOne_37 ?_
      refine zr_aload_n (pc := 38) hC 1 rfl rfl dX12_passOne_38 ?_
      refine zr_dup (pc := 39) hC rfl dX12_passOne_39 ?_
      refine zmg_51 (pc := 40) hC hinX12_passOne_X12 flX12_passOne_334 dX12_passOne_40 ?_
      refine zr_iconst (pc := 43) hC zki_1 dX12_passOne_43 ?_
      refine zr_iadd (pc := 44) hC dX12_passOne_44 ?_
      obtain ⟨M18, e19, h⟩ := zle h
      refine zmp_51 (pc := 45) hC hinX12_passOne_X12 flX12_passOne_334 e19 dX12_passOne_45 ?_
      refine zr_iload_n (pc := 48) hC 0 rfl rfl dX12_passOne_48 ?_
      obtain rfl := Option.some.inj h
      exact zr_iret hC hR ⟨rfl, rfl⟩ (Nat.le_refl _) (Nat.le_refl _) dX12_passOne_49
/-! X12_passes_a2 -/
theorem hyX12_passes : yX12_passes.cls = RX12 ∧ yX12_passes.cls ≠ "java/lang/invoke/MethodHandle" ∧ yX12_passes.cls ≠ "java/lang/invoke/VarHandle" ∧ (parseMethodDescriptor yX12_passes.desc).map (fun d => d.parameters.length) = some 1 := by decide +kernel
theorem flX12_passes_a2_108 : Cond.fieldLink RX12 108 "BeforeTheEndModel" "kept" "[I" ∈ wsX12_passes := by decide +kernel
theorem flX12_passes_a2_330 : Cond.fieldLink RX12 330 "BeforeTheEndModel" "isKeeping" "Z" ∈ wsX12_passes := by decide +kernel
theorem flX12_passes_a2_334 : Cond.fieldLink RX12 334 "BeforeTheEndModel" "cursor" "I" ∈ wsX12_passes := by decide +kernel
theorem hinX12_passes_a2_X12 : ∀ w ∈ wsX120, w ∈ wsX12_passes := fun _ h => List.mem_cons_of_mem _ (List.mem_append_right _ h)
def xX12_passes_a2_L2 (w0 : zM) (w1 : Int32) : Option ((zM × Int32) ⊕ zM) :=
  if (24 : Int32) ≤ w1 then
  (some (.inr w0))
  else
  if (w0.1 0 50) = 0 then
  (if ((w0.1 0 51) < 0 ∨ 140 ≤ (w0.1 0 51).toNatClampNeg) then none else
  if (w1 < 0 ∨ 24 ≤ w1.toNatClampNeg) then none else
  zlet (zsi w0 2 w1.toNatClampNeg (w0.1 32 (w0.1 0 51).toNatClampNeg)) fun M5 =>
  zlet (zsi M5 0 51 ((M5.1 0 51) + (1 : Int32))) fun M7 =>
  some (.inl (M7, (w1 + (1 : Int32)))))
  else
  if (w1 < 0 ∨ 24 ≤ w1.toNatClampNeg) then none else
  if ((w0.1 0 51) < 0 ∨ 140 ≤ (w0.1 0 51).toNatClampNeg) then none else
  zlet (zsi w0 32 (w0.1 0 51).toNatClampNeg (w0.1 2 w1.toNatClampNeg)) fun M11 =>
  zlet (zsi M11 0 51 ((M11.1 0 51) + (1 : Int32))) fun M13 =>
  some (.inl (M13, (w1 + (1 : Int32))))
set_option maxHeartbeats 4000000 in
set_option maxRecDepth 100000 in
theorem tX12_passes_a2_L2 {κ : Nat → ClassId} {E : zEn} {ad : Nat → Nat} {X : zX} {w0 : zM} {w1 : Int32} {r : ((zM × Int32) ⊕ zM)} (hC : zC X cX12_passes RX12 wsX12_passes vwCl (zty κ) E 3 ({ frames := 0, cells := 0, slots := 0, locals := 0 } : Room)) (hEk : zEk E) (hin : ∀ (x0' : zM) (x1' : Int32), r = .inl (x0', x1') → zV X 0 0 (zwM κ ad x0') [(0, .ref (ad 0)), (1, .ref (ad 2)), (2, .int x1')] [] 2) (hout0 : ∀ (x0' : zM), r = .inr x0' → zV X 0 0 (zwM κ ad x0') [] [] 58) (h : xX12_passes_a2_L2   w0 w1 = some r) : zV X 0 0 (zwM κ ad w0) [(0, .ref (ad 0)), (1, .ref (ad 2)), (2, .int w1)] [] 2 := by
  unfold xX12_passes_a2_L2 at h
  refine zr_iload_n (pc := 2) hC 2 rfl rfl dX12_passes_2 ?_
  refine zr_aload_n (pc := 3) hC 1 rfl rfl dX12_passes_3 ?_
  refine zma_2 (pc := 4) hC dX12_passes_4 ?_
  refine zr_icmp_ge (pc := 5) (tgt := 58) hC dX12_passes_5 (by decide) (fun c1 => ?_) (fun c1 => ?_)
  · replace h := zip h c1
    obtain rfl := Option.some.inj h
    exact zV.sub (lv' := []) [] rfl (hout0 w0 rfl)
  · replace h := zin h c1
    refine zr_aload_n (pc := 8) hC 0 rfl rfl dX12_passes_8 ?_
    refine zmg_50 (pc := 9) hC hinX12_passes_a2_X12 flX12_passes_a2_330 dX12_passes_9 ?_
    refine zr_if_eq (pc := 12) (tgt := 30) hC dX12_passes_12 (by decide) (fun c2 => ?_) (fun c2 => ?_)
    · replace h := zip h c2
      refine zr_aload_n (pc := 30) hC 1 rfl rfl dX12_passes_30 ?_
      refine zr_iload_n (pc := 31) hC 2 rfl rfl dX12_passes_31 ?_
      refine zr_aload_n (pc := 32) hC 0 rfl rfl dX12_passes_32 ?_
      refine zmg_48 (pc := 33) hC hinX12_passes_a2_X12 flX12_passes_a2_108 dX12_passes_33 ?_
      refine zr_aload_n (pc := 36) hC 0 rfl rfl dX12_passes_36 ?_
      refine zmg_51 (pc := 37) hC hinX12_passes_a2_X12 flX12_passes_a2_334 dX12_passes_37 ?_
      obtain ⟨i3, h⟩ := zgd h
      refine zml_32 (pc := 40) hC i3 dX12_passes_40 ?_
      obtain ⟨i4, h⟩ := zgd h
      obtain ⟨M5, e6, h⟩ := zle h
      refine zms_2 (pc := 41) hC i4 e6 dX12_passes_41 ?_
      refine zr_aload_n (pc := 42) hC 0 rfl rfl dX12_passes_42 ?_
      refine zr_dup (pc := 43) hC rfl dX12_passes_43 ?_
      refine zmg_51 (pc := 44) hC hinX12_passes_a2_X12 flX12_passes_a2_334 dX12_passes_44 ?_
      refine zr_iconst (pc := 47) hC zki_1 dX12_passes_47 ?_
      refine zr_iadd (pc := 48) hC dX12_passes_48 ?_
      obtain ⟨M7, e8, h⟩ := zle h
      refine zmp_51 (pc := 49) hC hinX12_passes_a2_X12 flX12_passes_a2_334 e8 dX12_passes_49 ?_
      refine zr_iinc (pc := 52) (k := 2) (lv' := [(2, .int (w1 + (1 : Int32))), (0, .ref (ad 0)), (1, .ref (ad 2))]) hC zki_1 (by decide) rfl rfl dX12_passes_52 ?_
      refine zr_goto (pc := 55) (tgt := 2) hC dX12_passes_55 (by decide) ?_
      obtain rfl := Option.some.inj h
      exact zV.sub (lv' := [(0, .ref (ad 0)), (1, .ref (ad 2)), (2, .int (w1 + (1 : Int32)))]) [1, 2, 0] rfl (hin M7 (w1 + (1 : Int32)) rfl)
    · replace h := zin h c2
      refine zr_aload_n (pc := 15) hC 0 rfl rfl dX12_passes_15 ?_
      refine zmg_48 (pc := 16) hC hinX12_passes_a2_X12 flX12_passes_a2_108 dX12_passes_16 ?_
      refine zr_aload_n (pc := 19) hC 0 rfl rfl dX12_passes_19 ?_
      refine zmg_51 (pc := 20) hC hinX12_passes_a2_X12 flX12_passes_a2_334 dX12_passes_20 ?_
      refine zr_aload_n (pc := 23) hC 1 rfl rfl dX12_passes_23 ?_
      refine zr_iload_n (pc := 24) hC 2 rfl rfl dX12_passes_24 ?_
      obtain ⟨i9, h⟩ := zgd h
      refine zml_2 (pc := 25) hC i9 dX12_passes_25 ?_
      obtain ⟨i10, h⟩ := zgd h
      obtain ⟨M11, e12, h⟩ := zle h
      refine zms_32 (pc := 26) hC i10 e12 dX12_passes_26 ?_
      refine zr_goto (pc := 27) (tgt := 42) hC dX12_passes_27 (by decide) ?_
      refine zr_aload_n (pc := 42) hC 0 rfl rfl dX12_passes_42 ?_
      refine zr_dup (pc := 43) hC rfl dX12_passes_43 ?_
      refine zmg_51 (pc := 44) hC hinX12_passes_a2_X12 flX12_passes_a2_334 dX12_passes_44 ?_
      refine zr_iconst (pc := 47) hC zki_1 dX12_passes_47 ?_
      refine zr_iadd (pc := 48) hC dX12_passes_48 ?_
      obtain ⟨M13, e14, h⟩ := zle h
      refine zmp_51 (pc := 49) hC hinX12_passes_a2_X12 flX12_passes_a2_334 e14 dX12_passes_49 ?_
      refine zr_iinc (pc := 52) (k := 2) (lv' := [(2, .int (w1 + (1 : Int32))), (0, .ref (ad 0)), (1, .ref (ad 2))]) hC zki_1 (by decide) rfl rfl dX12_passes_52 ?_
      refine zr_goto (pc := 55) (tgt := 2) hC dX12_passes_55 (by decide) ?_
      obtain rfl := Option.some.inj h
      exact zV.sub (lv' := [(0, .ref (ad 0)), (1, .ref (ad 2)), (2, .int (w1 + (1 : Int32)))]) [1, 2, 0] rfl (hin M13 (w1 + (1 : Int32)) rfl)
def xX12_passes_a2 (M : zM)  : Option zM :=
  (x_it (fun a9 => xX12_passes_a2_L2 a9.1 a9.2) zFU (M, (0 : Int32))).bind fun q1 =>
  some q1
set_option maxHeartbeats 4000000 in
set_option maxRecDepth 100000 in
theorem tX12_passes_a2 {κ : Nat → ClassId} {E : zEn} {ad : Nat → Nat} (hEk : zEk E) {M : zM}  {res : zM} (h : xX12_passes_a2 M  = some res) (l : Launch) (D : va_G) : zCT E D vwCl (zty κ) l yX12_passes wsX12_passes ({ frames := 0, cells := 0, slots := 0, locals := 0 } : Room) 0 0 [.ref (ad 0), .ref (ad 2)] (zwM κ ad M) (zPd none (zwM κ ad res)) := by
  refine zCT.of (cc := cX12_passes) (maxL := 3) (ret := none) (by decide) rfl (Nat.le_of_ble_eq_true rfl) ?_
  intro X hC hR
  unfold xX12_passes_a2 at h
  refine zV.sub (lv' := [(0, .ref (ad 0)), (1, .ref (ad 2))]) [0, 1] rfl ?_
  refine zr_iconst (pc := 0) hC zki_0 dX12_passes_0 ?_
  refine zr_istore_n (pc := 1) (lv' := [(2, .int (0 : Int32)), (0, .ref (ad 0)), (1, .ref (ad 2))]) hC rfl (by decide) rfl dX12_passes_1 ?_
  obtain ⟨q1, hq1, h⟩ := zbd h
  refine zV.sub (lv' := [(0, .ref (ad 0)), (1, .ref (ad 2)), (2, .int (0 : Int32))]) [1, 2, 0] rfl ?_
  refine zit2 (Wp := fun (y0 : zM) (y1 : Int32) => zV X 0 0 (zwM κ ad y0) [(0, .ref (ad 0)), (1, .ref (ad 2)), (2, .int y1)] [] 2) (Ex := fun (b9 : zM) => zV X 0 0 (zwM κ ad b9) [] [] 58) (fun y0 y1 r9 hr hin hout => tX12_passes_a2_L2 hC hEk hin (fun z0 e9 => hout z0 e9) hr) zFU M (0 : Int32) q1 hq1 ?_
  show zV X 0 0 (zwM κ ad q1) [] [] 58
  obtain rfl := Option.some.inj h
  exact zr_vret hC hR ⟨rfl, rfl⟩ (Nat.le_refl _) (Nat.le_refl _) dX12_passes_58
/-! X12_passes_a3 -/
theorem flX12_passes_a3_108 : Cond.fieldLink RX12 108 "BeforeTheEndModel" "kept" "[I" ∈ wsX12_passes := by decide +kernel
theorem flX12_passes_a3_330 : Cond.fieldLink RX12 330 "BeforeTheEndModel" "isKeeping" "Z" ∈ wsX12_passes := by decide +kernel
theorem flX12_passes_a3_334 : Cond.fieldLink RX12 334 "BeforeTheEndModel" "cursor" "I" ∈ wsX12_passes := by decide +kernel
theorem hinX12_passes_a3_X12 : ∀ w ∈ wsX120, w ∈ wsX12_passes := fun _ h => List.mem_cons_of_mem _ (List.mem_append_right _ h)
def xX12_passes_a3_L2 (w0 : zM) (w1 : Int32) : Option ((zM × Int32) ⊕ zM) :=
  if (24 : Int32) ≤ w1 then
  (some (.inr w0))
  else
  if (w0.1 0 50) = 0 then
  (if ((w0.1 0 51) < 0 ∨ 140 ≤ (w0.1 0 51).toNatClampNeg) then none else
  if (w1 < 0 ∨ 24 ≤ w1.toNatClampNeg) then none else
  zlet (zsi w0 3 w1.toNatClampNeg (w0.1 32 (w0.1 0 51).toNatClampNeg)) fun M5 =>
  zlet (zsi M5 0 51 ((M5.1 0 51) + (1 : Int32))) fun M7 =>
  some (.inl (M7, (w1 + (1 : Int32)))))
  else
  if (w1 < 0 ∨ 24 ≤ w1.toNatClampNeg) then none else
  if ((w0.1 0 51) < 0 ∨ 140 ≤ (w0.1 0 51).toNatClampNeg) then none else
  zlet (zsi w0 32 (w0.1 0 51).toNatClampNeg (w0.1 3 w1.toNatClampNeg)) fun M11 =>
  zlet (zsi M11 0 51 ((M11.1 0 51) + (1 : Int32))) fun M13 =>
  some (.inl (M13, (w1 + (1 : Int32))))
set_option maxHeartbeats 4000000 in
set_option maxRecDepth 100000 in
theorem tX12_passes_a3_L2 {κ : Nat → ClassId} {E : zEn} {ad : Nat → Nat} {X : zX} {w0 : zM} {w1 : Int32} {r : ((zM × Int32) ⊕ zM)} (hC : zC X cX12_passes RX12 wsX12_passes vwCl (zty κ) E 3 ({ frames := 0, cells := 0, slots := 0, locals := 0 } : Room)) (hEk : zEk E) (hin : ∀ (x0' : zM) (x1' : Int32), r = .inl (x0', x1') → zV X 0 0 (zwM κ ad x0') [(0, .ref (ad 0)), (1, .ref (ad 3)), (2, .int x1')] [] 2) (hout0 : ∀ (x0' : zM), r = .inr x0' → zV X 0 0 (zwM κ ad x0') [] [] 58) (h : xX12_passes_a3_L2   w0 w1 = some r) : zV X 0 0 (zwM κ ad w0) [(0, .ref (ad 0)), (1, .ref (ad 3)), (2, .int w1)] [] 2 := by
  unfold xX12_passes_a3_L2 at h
  refine zr_iload_n (pc := 2) hC 2 rfl rfl dX12_passes_2 ?_
  refine zr_aload_n (pc := 3) hC 1 rfl rfl dX12_passes_3 ?_
  refine zma_3 (pc := 4) hC dX12_passes_4 ?_
  refine zr_icmp_ge (pc := 5) (tgt := 58) hC dX12_passes_5 (by decide) (fun c1 => ?_) (fun c1 => ?_)
  · replace h := zip h c1
    obtain rfl := Option.some.inj h
    exact zV.sub (lv' := []) [] rfl (hout0 w0 rfl)
  · replace h := zin h c1
    refine zr_aload_n (pc := 8) hC 0 rfl rfl dX12_passes_8 ?_
    refine zmg_50 (pc := 9) hC hinX12_passes_a3_X12 flX12_passes_a3_330 dX12_passes_9 ?_
    refine zr_if_eq (pc := 12) (tgt := 30) hC dX12_passes_12 (by decide) (fun c2 => ?_) (fun c2 => ?_)
    · replace h := zip h c2
      refine zr_aload_n (pc := 30) hC 1 rfl rfl dX12_passes_30 ?_
      refine zr_iload_n (pc := 31) hC 2 rfl rfl dX12_passes_31 ?_
      refine zr_aload_n (pc := 32) hC 0 rfl rfl dX12_passes_32 ?_
      refine zmg_48 (pc := 33) hC hinX12_passes_a3_X12 flX12_passes_a3_108 dX12_passes_33 ?_
      refine zr_aload_n (pc := 36) hC 0 rfl rfl dX12_passes_36 ?_
      refine zmg_51 (pc := 37) hC hinX12_passes_a3_X12 flX12_passes_a3_334 dX12_passes_37 ?_
      obtain ⟨i3, h⟩ := zgd h
      refine zml_32 (pc := 40) hC i3 dX12_passes_40 ?_
      obtain ⟨i4, h⟩ := zgd h
      obtain ⟨M5, e6, h⟩ := zle h
      refine zms_3 (pc := 41) hC i4 e6 dX12_passes_41 ?_
      refine zr_aload_n (pc := 42) hC 0 rfl rfl dX12_passes_42 ?_
      refine zr_dup (pc := 43) hC rfl dX12_passes_43 ?_
      refine zmg_51 (pc := 44) hC hinX12_passes_a3_X12 flX12_passes_a3_334 dX12_passes_44 ?_
      refine zr_iconst (pc := 47) hC zki_1 dX12_passes_47 ?_
      refine zr_iadd (pc := 48) hC dX12_passes_48 ?_
      obtain ⟨M7, e8, h⟩ := zle h
      refine zmp_51 (pc := 49) hC hinX12_passes_a3_X12 flX12_passes_a3_334 e8 dX12_passes_49 ?_
      refine zr_iinc (pc := 52) (k := 2) (lv' := [(2, .int (w1 + (1 : Int32))), (0, .ref (ad 0)), (1, .ref (ad 3))]) hC zki_1 (by decide) rfl rfl dX12_passes_52 ?_
      refine zr_goto (pc := 55) (tgt := 2) hC dX12_passes_55 (by decide) ?_
      obtain rfl := Option.some.inj h
      exact zV.sub (lv' := [(0, .ref (ad 0)), (1, .ref (ad 3)), (2, .int (w1 + (1 : Int32)))]) [1, 2, 0] rfl (hin M7 (w1 + (1 : Int32)) rfl)
    · replace h := zin h c2
      refine zr_aload_n (pc := 15) hC 0 rfl rfl dX12_passes_15 ?_
      refine zmg_48 (pc := 16) hC hinX12_passes_a3_X12 flX12_passes_a3_108 dX12_passes_16 ?_
      refine zr_aload_n (pc := 19) hC 0 rfl rfl dX12_passes_19 ?_
      refine zmg_51 (pc := 20) hC hinX12_passes_a3_X12 flX12_passes_a3_334 dX12_passes_20 ?_
      refine zr_aload_n (pc := 23) hC 1 rfl rfl dX12_passes_23 ?_
      refine zr_iload_n (pc := 24) hC 2 rfl rfl dX12_passes_24 ?_
      obtain ⟨i9, h⟩ := zgd h
      refine zml_3 (pc := 25) hC i9 dX12_passes_25 ?_
      obtain ⟨i10, h⟩ := zgd h
      obtain ⟨M11, e12, h⟩ := zle h
      refine zms_32 (pc := 26) hC i10 e12 dX12_passes_26 ?_
      refine zr_goto (pc := 27) (tgt := 42) hC dX12_passes_27 (by decide) ?_
      refine zr_aload_n (pc := 42) hC 0 rfl rfl dX12_passes_42 ?_
      refine zr_dup (pc := 43) hC rfl dX12_passes_43 ?_
      refine zmg_51 (pc := 44) hC hinX12_passes_a3_X12 flX12_passes_a3_334 dX12_passes_44 ?_
      refine zr_iconst (pc := 47) hC zki_1 dX12_passes_47 ?_
      refine zr_iadd (pc := 48) hC dX12_passes_48 ?_
      obtain ⟨M13, e14, h⟩ := zle h
      refine zmp_51 (pc := 49) hC hinX12_passes_a3_X12 flX12_passes_a3_334 e14 dX12_passes_49 ?_
      refine zr_iinc (pc := 52) (k := 2) (lv' := [(2, .int (w1 + (1 : Int32))), (0, .ref (ad 0)), (1, .ref (ad 3))]) hC zki_1 (by decide) rfl rfl dX12_passes_52 ?_
      refine zr_goto (pc := 55) (tgt := 2) hC dX12_passes_55 (by decide) ?_
      obtain rfl := Option.some.inj h
      exact zV.sub (lv' := [(0, .ref (ad 0)), (1, .ref (ad 3)), (2, .int (w1 + (1 : Int32)))]) [1, 2, 0] rfl (hin M13 (w1 + (1 : Int32)) rfl)
def xX12_passes_a3 (M : zM)  : Option zM :=
  (x_it (fun a9 => xX12_passes_a3_L2 a9.1 a9.2) zFU (M, (0 : Int32))).bind fun q1 =>
  some q1
set_option maxHeartbeats 4000000 in
set_option maxRecDepth 100000 in
theorem tX12_passes_a3 {κ : Nat → ClassId} {E : zEn} {ad : Nat → Nat} (hEk : zEk E) {M : zM}  {res : zM} (h : xX12_passes_a3 M  = some res) (l : Launch) (D : va_G) : zCT E D vwCl (zty κ) l yX12_passes wsX12_passes ({ frames := 0, cells := 0, slots := 0, locals := 0 } : Room) 0 0 [.ref (ad 0), .ref (ad 3)] (zwM κ ad M) (zPd none (zwM κ ad res)) := by
  refine zCT.of (cc := cX12_passes) (maxL := 3) (ret := none) (by decide) rfl (Nat.le_of_ble_eq_true rfl) ?_
  intro X hC hR
  unfold xX12_passes_a3 at h
  refine zV.sub (lv' := [(0, .ref (ad 0)), (1, .ref (ad 3))]) [0, 1] rfl ?_
  refine zr_iconst (pc := 0) hC zki_0 dX12_passes_0 ?_
  refine zr_istore_n (pc := 1) (lv' := [(2, .int (0 : Int32)), (0, .ref (ad 0)), (1, .ref (ad 3))]) hC rfl (by decide) rfl dX12_passes_1 ?_
  obtain ⟨q1, hq1, h⟩ := zbd h
  refine zV.sub (lv' := [(0, .ref (ad 0)), (1, .ref (ad 3)), (2, .int (0 : Int32))]) [1, 2, 0] rfl ?_
  refine zit2 (Wp := fun (y0 : zM) (y1 : Int32) => zV X 0 0 (zwM κ ad y0) [(0, .ref (ad 0)), (1, .ref (ad 3)), (2, .int y1)] [] 2) (Ex := fun (b9 : zM) => zV X 0 0 (zwM κ ad b9) [] [] 58) (fun y0 y1 r9 hr hin hout => tX12_passes_a3_L2 hC hEk hin (fun z0 e9 => hout z0 e9) hr) zFU M (0 : Int32) q1 hq1 ?_
  show zV X 0 0 (zwM κ ad q1) [] [] 58
  obtain rfl := Option.some.inj h
  exact zr_vret hC hR ⟨rfl, rfl⟩ (Nat.le_refl _) (Nat.le_refl _) dX12_passes_58
/-! X12_passes_a4 -/
theorem flX12_passes_a4_108 : Cond.fieldLink RX12 108 "BeforeTheEndModel" "kept" "[I" ∈ wsX12_passes := by decide +kernel
theorem flX12_passes_a4_330 : Cond.fieldLink RX12 330 "BeforeTheEndModel" "isKeeping" "Z" ∈ wsX12_passes := by decide +kernel
theorem flX12_passes_a4_334 : Cond.fieldLink RX12 334 "BeforeTheEndModel" "cursor" "I" ∈ wsX12_passes := by decide +kernel
theorem hinX12_passes_a4_X12 : ∀ w ∈ wsX120, w ∈ wsX12_passes := fun _ h => List.mem_cons_of_mem _ (List.mem_append_right _ h)
def xX12_passes_a4_L2 (w0 : zM) (w1 : Int32) : Option ((zM × Int32) ⊕ zM) :=
  if (24 : Int32) ≤ w1 then
  (some (.inr w0))
  else
  if (w0.1 0 50) = 0 then
  (if ((w0.1 0 51) < 0 ∨ 140 ≤ (w0.1 0 51).toNatClampNeg) then none else
  if (w1 < 0 ∨ 24 ≤ w1.toNatClampNeg) then none else
  zlet (zsi w0 4 w1.toNatClampNeg (w0.1 32 (w0.1 0 51).toNatClampNeg)) fun M5 =>
  zlet (zsi M5 0 51 ((M5.1 0 51) + (1 : Int32))) fun M7 =>
  some (.inl (M7, (w1 + (1 : Int32)))))
  else
  if (w1 < 0 ∨ 24 ≤ w1.toNatClampNeg) then none else
  if ((w0.1 0 51) < 0 ∨ 140 ≤ (w0.1 0 51).toNatClampNeg) then none else
  zlet (zsi w0 32 (w0.1 0 51).toNatClampNeg (w0.1 4 w1.toNatClampNeg)) fun M11 =>
  zlet (zsi M11 0 51 ((M11.1 0 51) + (1 : Int32))) fun M13 =>
  some (.inl (M13, (w1 + (1 : Int32))))
set_option maxHeartbeats 4000000 in
set_option maxRecDepth 100000 in
theorem tX12_passes_a4_L2 {κ : Nat → ClassId} {E : zEn} {ad : Nat → Nat} {X : zX} {w0 : zM} {w1 : Int32} {r : ((zM × Int32) ⊕ zM)} (hC : zC X cX12_passes RX12 wsX12_passes vwCl (zty κ) E 3 ({ frames := 0, cells := 0, slots := 0, locals := 0 } : Room)) (hEk : zEk E) (hin : ∀ (x0' : zM) (x1' : Int32), r = .inl (x0', x1') → zV X 0 0 (zwM κ ad x0') [(0, .ref (ad 0)), (1, .ref (ad 4)), (2, .int x1')] [] 2) (hout0 : ∀ (x0' : zM), r = .inr x0' → zV X 0 0 (zwM κ ad x0') [] [] 58) (h : xX12_passes_a4_L2   w0 w1 = some r) : zV X 0 0 (zwM κ ad w0) [(0, .ref (ad 0)), (1, .ref (ad 4)), (2, .int w1)] [] 2 := by
  unfold xX12_passes_a4_L2 at h
  refine zr_iload_n (pc := 2) hC 2 rfl rfl dX12_passes_2 ?_
  refine zr_aload_n (pc := 3) hC 1 rfl rfl dX12_passes_3 ?_
  refine zma_4 (pc := 4) hC dX12_passes_4 ?_
  refine zr_icmp_ge (pc := 5) (tgt := 58) hC dX12_passes_5 (by decide) (fun c1 => ?_) (fun c1 => ?_)
  · replace h := zip h c1
    obtain rfl := Option.some.inj h
    exact zV.sub (lv' := []) [] rfl (hout0 w0 rfl)
  · replace h := zin h c1
    refine zr_aload_n (pc := 8) hC 0 rfl rfl dX12_passes_8 ?_
    refine zmg_50 (pc := 9) hC hinX12_passes_a4_X12 flX12_passes_a4_330 dX12_passes_9 ?_
    refine zr_if_eq (pc := 12) (tgt := 30) hC dX12_passes_12 (by decide) (fun c2 => ?_) (fun c2 => ?_)
    · replace h := zip h c2
      refine zr_aload_n (pc := 30) hC 1 rfl rfl dX12_passes_30 ?_
      refine zr_iload_n (pc := 31) hC 2 rfl rfl dX12_passes_31 ?_
      refine zr_aload_n (pc := 32) hC 0 rfl rfl dX12_passes_32 ?_
      refine zmg_48 (pc := 33) hC hinX12_passes_a4_X12 flX12_passes_a4_108 dX12_passes_33 ?_
      refine zr_aload_n (pc := 36) hC 0 rfl rfl dX12_passes_36 ?_
      refine zmg_51 (pc := 37) hC hinX12_passes_a4_X12 flX12_passes_a4_334 dX12_passes_37 ?_
      obtain ⟨i3, h⟩ := zgd h
      refine zml_32 (pc := 40) hC i3 dX12_passes_40 ?_
      obtain ⟨i4, h⟩ := zgd h
      obtain ⟨M5, e6, h⟩ := zle h
      refine zms_4 (pc := 41) hC i4 e6 dX12_passes_41 ?_
      refine zr_aload_n (pc := 42) hC 0 rfl rfl dX12_passes_42 ?_
      refine zr_dup (pc := 43) hC rfl dX12_passes_43 ?_
      refine zmg_51 (pc := 44) hC hinX12_passes_a4_X12 flX12_passes_a4_334 dX12_passes_44 ?_
      refine zr_iconst (pc := 47) hC zki_1 dX12_passes_47 ?_
      refine zr_iadd (pc := 48) hC dX12_passes_48 ?_
      obtain ⟨M7, e8, h⟩ := zle h
      refine zmp_51 (pc := 49) hC hinX12_passes_a4_X12 flX12_passes_a4_334 e8 dX12_passes_49 ?_
      refine zr_iinc (pc := 52) (k := 2) (lv' := [(2, .int (w1 + (1 : Int32))), (0, .ref (ad 0)), (1, .ref (ad 4))]) hC zki_1 (by decide) rfl rfl dX12_passes_52 ?_
      refine zr_goto (pc := 55) (tgt := 2) hC dX12_passes_55 (by decide) ?_
      obtain rfl := Option.some.inj h
      exact zV.sub (lv' := [(0, .ref (ad 0)), (1, .ref (ad 4)), (2, .int (w1 + (1 : Int32)))]) [1, 2, 0] rfl (hin M7 (w1 + (1 : Int32)) rfl)
    · replace h := zin h c2
      refine zr_aload_n (pc := 15) hC 0 rfl rfl dX12_passes_15 ?_
      refine zmg_48 (pc := 16) hC hinX12_passes_a4_X12 flX12_passes_a4_108 dX12_passes_16 ?_
      refine zr_aload_n (pc := 19) hC 0 rfl rfl dX12_passes_19 ?_
      refine zmg_51 (pc := 20) hC hinX12_passes_a4_X12 flX12_passes_a4_334 dX12_passes_20 ?_
      refine zr_aload_n (pc := 23) hC 1 rfl rfl dX12_passes_23 ?_
      refine zr_iload_n (pc := 24) hC 2 rfl rfl dX12_passes_24 ?_
      obtain ⟨i9, h⟩ := zgd h
      refine zml_4 (pc := 25) hC i9 dX12_passes_25 ?_
      obtain ⟨i10, h⟩ := zgd h
      obtain ⟨M11, e12, h⟩ := zle h
      refine zms_32 (pc := 26) hC i10 e12 dX12_passes_26 ?_
      refine zr_goto (pc := 27) (tgt := 42) hC dX12_passes_27 (by decide) ?_
      refine zr_aload_n (pc := 42) hC 0 rfl rfl dX12_passes_42 ?_
      refine zr_dup (pc := 43) hC rfl dX12_passes_43 ?_
      refine zmg_51 (pc := 44) hC hinX12_passes_a4_X12 flX12_passes_a4_334 dX12_passes_44 ?_
      refine zr_iconst (pc := 47) hC zki_1 dX12_passes_47 ?_
      refine zr_iadd (pc := 48) hC dX12_passes_48 ?_
      obtain ⟨M13, e14, h⟩ := zle h
      refine zmp_51 (pc := 49) hC hinX12_passes_a4_X12 flX12_passes_a4_334 e14 dX12_passes_49 ?_
      refine zr_iinc (pc := 52) (k := 2) (lv' := [(2, .int (w1 + (1 : Int32))), (0, .ref (ad 0)), (1, .ref (ad 4))]) hC zki_1 (by decide) rfl rfl dX12_passes_52 ?_
      refine zr_goto (pc := 55) (tgt := 2) hC dX12_passes_55 (by decide) ?_
      obtain rfl := Option.some.inj h
      exact zV.sub (lv' := [(0, .ref (ad 0)), (1, .ref (ad 4)), (2, .int (w1 + (1 : Int32)))]) [1, 2, 0] rfl (hin M13 (w1 + (1 : Int32)) rfl)
def xX12_passes_a4 (M : zM)  : Option zM :=
  (x_it (fun a9 => xX12_passes_a4_L2 a9.1 a9.2) zFU (M, (0 : Int32))).bind fun q1 =>
  some q1
set_option maxHeartbeats 4000000 in
set_option maxRecDepth 100000 in
theorem tX12_passes_a4 {κ : Nat → ClassId} {E : zEn} {ad : Nat → Nat} (hEk : zEk E) {M : zM}  {res : zM} (h : xX12_passes_a4 M  = some res) (l : Launch) (D : va_G) : zCT E D vwCl (zty κ) l yX12_passes wsX12_passes ({ frames := 0, cells := 0, slots := 0, locals := 0 } : Room) 0 0 [.ref (ad 0), .ref (ad 4)] (zwM κ ad M) (zPd none (zwM κ ad res)) := by
  refine zCT.of (cc := cX12_passes) (maxL := 3) (ret := none) (by decide) rfl (Nat.le_of_ble_eq_true rfl) ?_
  intro X hC hR
  unfold xX12_passes_a4 at h
  refine zV.sub (lv' := [(0, .ref (ad 0)), (1, .ref (ad 4))]) [0, 1] rfl ?_
  refine zr_iconst (pc := 0) hC zki_0 dX12_passes_0 ?_
  refine zr_istore_n (pc := 1) (lv' := [(2, .int (0 : Int32)), (0, .ref (ad 0)), (1, .ref (ad 4))]) hC rfl (by decide) rfl dX12_passes_1 ?_
  obtain ⟨q1, hq1, h⟩ := zbd h
  refine zV.sub (lv' := [(0, .ref (ad 0)), (1, .ref (ad 4)), (2, .int (0 : Int32))]) [1, 2, 0] rfl ?_
  refine zit2 (Wp := fun (y0 : zM) (y1 : Int32) => zV X 0 0 (zwM κ ad y0) [(0, .ref (ad 0)), (1, .ref (ad 4)), (2, .int y1)] [] 2) (Ex := fun (b9 : zM) => zV X 0 0 (zwM κ ad b9) [] [] 58) (fun y0 y1 r9 hr hin hout => tX12_passes_a4_L2 hC hEk hin (fun z0 e9 => hout z0 e9) hr) zFU M (0 : Int32) q1 hq1 ?_
  show zV X 0 0 (zwM κ ad q1) [] [] 58
  obtain rfl := Option.some.inj h
  exact zr_vret hC hR ⟨rfl, rfl⟩ (Nat.le_refl _) (Nat.le_refl _) dX12_passes_58
/-! X12_passes_a5 -/
theorem flX12_passes_a5_108 : Cond.fieldLink RX12 108 "BeforeTheEndModel" "kept" "[I" ∈ wsX12_passes := by decide +kernel
theorem flX12_passes_a5_330 : Cond.fieldLink RX12 330 "BeforeTheEndModel" "isKeeping" "Z" ∈ wsX12_passes := by decide +kernel
theorem flX12_passes_a5_334 : Cond.fieldLink RX12 334 "BeforeTheEndModel" "cursor" "I" ∈ wsX12_passes := by decide +kernel
theorem hinX12_passes_a5_X12 : ∀ w ∈ wsX120, w ∈ wsX12_passes := fun _ h => List.mem_cons_of_mem _ (List.mem_append_right _ h)
def xX12_passes_a5_L2 (w0 : zM) (w1 : Int32) : Option ((zM × Int32) ⊕ zM) :=
  if (24 : Int32) ≤ w1 then
  (some (.inr w0))
  else
  if (w0.1 0 50) = 0 then
  (if ((w0.1 0 51) < 0 ∨ 140 ≤ (w0.1 0 51).toNatClampNeg) then none else
  if (w1 < 0 ∨ 24 ≤ w1.toNatClampNeg) then none else
  zlet (zsi w0 5 w1.toNatClampNeg (w0.1 32 (w0.1 0 51).toNatClampNeg)) fun M5 =>
  zlet (zsi M5 0 51 ((M5.1 0 51) + (1 : Int32))) fun M7 =>
  some (.inl (M7, (w1 + (1 : Int32)))))
  else
  if (w1 < 0 ∨ 24 ≤ w1.toNatClampNeg) then none else
  if ((w0.1 0 51) < 0 ∨ 140 ≤ (w0.1 0 51).toNatClampNeg) then none else
  zlet (zsi w0 32 (w0.1 0 51).toNatClampNeg (w0.1 5 w1.toNatClampNeg)) fun M11 =>
  zlet (zsi M11 0 51 ((M11.1 0 51) + (1 : Int32))) fun M13 =>
  some (.inl (M13, (w1 + (1 : Int32))))
set_option maxHeartbeats 4000000 in
set_option maxRecDepth 100000 in
theorem tX12_passes_a5_L2 {κ : Nat → ClassId} {E : zEn} {ad : Nat → Nat} {X : zX} {w0 : zM} {w1 : Int32} {r : ((zM × Int32) ⊕ zM)} (hC : zC X cX12_passes RX12 wsX12_passes vwCl (zty κ) E 3 ({ frames := 0, cells := 0, slots := 0, locals := 0 } : Room)) (hEk : zEk E) (hin : ∀ (x0' : zM) (x1' : Int32), r = .inl (x0', x1') → zV X 0 0 (zwM κ ad x0') [(0, .ref (ad 0)), (1, .ref (ad 5)), (2, .int x1')] [] 2) (hout0 : ∀ (x0' : zM), r = .inr x0' → zV X 0 0 (zwM κ ad x0') [] [] 58) (h : xX12_passes_a5_L2   w0 w1 = some r) : zV X 0 0 (zwM κ ad w0) [(0, .ref (ad 0)), (1, .ref (ad 5)), (2, .int w1)] [] 2 := by
  unfold xX12_passes_a5_L2 at h
  refine zr_iload_n (pc := 2) hC 2 rfl rfl dX12_passes_2 ?_
  refine zr_aload_n (pc := 3) hC 1 rfl rfl dX12_passes_3 ?_
  refine zma_5 (pc := 4) hC dX12_passes_4 ?_
  refine zr_icmp_ge (pc := 5) (tgt := 58) hC dX12_passes_5 (by decide) (fun c1 => ?_) (fun c1 => ?_)
  · replace h := zip h c1
    obtain rfl := Option.some.inj h
    exact zV.sub (lv' := []) [] rfl (hout0 w0 rfl)
  · replace h := zin h c1
    refine zr_aload_n (pc := 8) hC 0 rfl rfl dX12_passes_8 ?_
    refine zmg_50 (pc := 9) hC hinX12_passes_a5_X12 flX12_passes_a5_330 dX12_passes_9 ?_
    refine zr_if_eq (pc := 12) (tgt := 30) hC dX12_passes_12 (by decide) (fun c2 => ?_) (fun c2 => ?_)
    · replace h := zip h c2
      refine zr_aload_n (pc := 30) hC 1 rfl rfl dX12_passes_30 ?_
      refine zr_iload_n (pc := 31) hC 2 rfl rfl dX12_passes_31 ?_
      refine zr_aload_n (pc := 32) hC 0 rfl rfl dX12_passes_32 ?_
      refine zmg_48 (pc := 33) hC hinX12_passes_a5_X12 flX12_passes_a5_108 dX12_passes_33 ?_
      refine zr_aload_n (pc := 36) hC 0 rfl rfl dX12_passes_36 ?_
      refine zmg_51 (pc := 37) hC hinX12_passes_a5_X12 flX12_passes_a5_334 dX12_passes_37 ?_
      obtain ⟨i3, h⟩ := zgd h
      refine zml_32 (pc := 40) hC i3 dX12_passes_40 ?_
      obtain ⟨i4, h⟩ := zgd h
      obtain ⟨M5, e6, h⟩ := zle h
      refine zms_5 (pc := 41) hC i4 e6 dX12_passes_41 ?_
      refine zr_aload_n (pc := 42) hC 0 rfl rfl dX12_passes_42 ?_
      refine zr_dup (pc := 43) hC rfl dX12_passes_43 ?_
      refine zmg_51 (pc := 44) hC hinX12_passes_a5_X12 flX12_passes_a5_334 dX12_passes_44 ?_
      refine zr_iconst (pc := 47) hC zki_1 dX12_passes_47 ?_
      refine zr_iadd (pc := 48) hC dX12_passes_48 ?_
      obtain ⟨M7, e8, h⟩ := zle h
      refine zmp_51 (pc := 49) hC hinX12_passes_a5_X12 flX12_passes_a5_334 e8 dX12_passes_49 ?_
      refine zr_iinc (pc := 52) (k := 2) (lv' := [(2, .int (w1 + (1 : Int32))), (0, .ref (ad 0)), (1, .ref (ad 5))]) hC zki_1 (by decide) rfl rfl dX12_passes_52 ?_
      refine zr_goto (pc := 55) (tgt := 2) hC dX12_passes_55 (by decide) ?_
      obtain rfl := Option.some.inj h
      exact zV.sub (lv' := [(0, .ref (ad 0)), (1, .ref (ad 5)), (2, .int (w1 + (1 : Int32)))]) [1, 2, 0] rfl (hin M7 (w1 + (1 : Int32)) rfl)
    · replace h := zin h c2
      refine zr_aload_n (pc := 15) hC 0 rfl rfl dX12_passes_15 ?_
      refine zmg_48 (pc := 16) hC hinX12_passes_a5_X12 flX12_passes_a5_108 dX12_passes_16 ?_
      refine zr_aload_n (pc := 19) hC 0 rfl rfl dX12_passes_19 ?_
      refine zmg_51 (pc := 20) hC hinX12_passes_a5_X12 flX12_passes_a5_334 dX12_passes_20 ?_
      refine zr_aload_n (pc := 23) hC 1 rfl rfl dX12_passes_23 ?_
      refine zr_iload_n (pc := 24) hC 2 rfl rfl dX12_passes_24 ?_
      obtain ⟨i9, h⟩ := zgd h
      refine zml_5 (pc := 25) hC i9 dX12_passes_25 ?_
      obtain ⟨i10, h⟩ := zgd h
      obtain ⟨M11, e12, h⟩ := zle h
      refine zms_32 (pc := 26) hC i10 e12 dX12_passes_26 ?_
      refine zr_goto (pc := 27) (tgt := 42) hC dX12_passes_27 (by decide) ?_
      refine zr_aload_n (pc := 42) hC 0 rfl rfl dX12_passes_42 ?_
      refine zr_dup (pc := 43) hC rfl dX12_passes_43 ?_
      refine zmg_51 (pc := 44) hC hinX12_passes_a5_X12 flX12_passes_a5_334 dX12_passes_44 ?_
      refine zr_iconst (pc := 47) hC zki_1 dX12_passes_47 ?_
      refine zr_iadd (pc := 48) hC dX12_passes_48 ?_
      obtain ⟨M13, e14, h⟩ := zle h
      refine zmp_51 (pc := 49) hC hinX12_passes_a5_X12 flX12_passes_a5_334 e14 dX12_passes_49 ?_
      refine zr_iinc (pc := 52) (k := 2) (lv' := [(2, .int (w1 + (1 : Int32))), (0, .ref (ad 0)), (1, .ref (ad 5))]) hC zki_1 (by decide) rfl rfl dX12_passes_52 ?_
      refine zr_goto (pc := 55) (tgt := 2) hC dX12_passes_55 (by decide) ?_
      obtain rfl := Option.some.inj h
      exact zV.sub (lv' := [(0, .ref (ad 0)), (1, .ref (ad 5)), (2, .int (w1 + (1 : Int32)))]) [1, 2, 0] rfl (hin M13 (w1 + (1 : Int32)) rfl)
def xX12_passes_a5 (M : zM)  : Option zM :=
  (x_it (fun a9 => xX12_passes_a5_L2 a9.1 a9.2) zFU (M, (0 : Int32))).bind fun q1 =>
  some q1
set_option maxHeartbeats 4000000 in
set_option maxRecDepth 100000 in
theorem tX12_passes_a5 {κ : Nat → ClassId} {E : zEn} {ad : Nat → Nat} (hEk : zEk E) {M : zM}  {res : zM} (h : xX12_passes_a5 M  = some res) (l : Launch) (D : va_G) : zCT E D vwCl (zty κ) l yX12_passes wsX12_passes ({ frames := 0, cells := 0, slots := 0, locals := 0 } : Room) 0 0 [.ref (ad 0), .ref (ad 5)] (zwM κ ad M) (zPd none (zwM κ ad res)) := by
  refine zCT.of (cc := cX12_passes) (maxL := 3) (ret := none) (by decide) rfl (Nat.le_of_ble_eq_true rfl) ?_
  intro X hC hR
  unfold xX12_passes_a5 at h
  refine zV.sub (lv' := [(0, .ref (ad 0)), (1, .ref (ad 5))]) [0, 1] rfl ?_
  refine zr_iconst (pc := 0) hC zki_0 dX12_passes_0 ?_
  refine zr_istore_n (pc := 1) (lv' := [(2, .int (0 : Int32)), (0, .ref (ad 0)), (1, .ref (ad 5))]) hC rfl (by decide) rfl dX12_passes_1 ?_
  obtain ⟨q1, hq1, h⟩ := zbd h
  refine zV.sub (lv' := [(0, .ref (ad 0)), (1, .ref (ad 5)), (2, .int (0 : Int32))]) [1, 2, 0] rfl ?_
  refine zit2 (Wp := fun (y0 : zM) (y1 : Int32) => zV X 0 0 (zwM κ ad y0) [(0, .ref (ad 0)), (1, .ref (ad 5)), (2, .int y1)] [] 2) (Ex := fun (b9 : zM) => zV X 0 0 (zwM κ ad b9) [] [] 58) (fun y0 y1 r9 hr hin hout => tX12_passes_a5_L2 hC hEk hin (fun z0 e9 => hout z0 e9) hr) zFU M (0 : Int32) q1 hq1 ?_
  show zV X 0 0 (zwM κ ad q1) [] [] 58
  obtain rfl := Option.some.inj h
  exact zr_vret hC hR ⟨rfl, rfl⟩ (Nat.le_refl _) (Nat.le_refl _) dX12_passes_58
/-! X12_passes_a6 -/
theorem flX12_passes_a6_108 : Cond.fieldLink RX12 108 "BeforeTheEndModel" "kept" "[I" ∈ wsX12_passes := by decide +kernel
theorem flX12_passes_a6_330 : Cond.fieldLink RX12 330 "BeforeTheEndModel" "isKeeping" "Z" ∈ wsX12_passes := by decide +kernel
theorem flX12_passes_a6_334 : Cond.fieldLink RX12 334 "BeforeTheEndModel" "cursor" "I" ∈ wsX12_passes := by decide +kernel
theorem hinX12_passes_a6_X12 : ∀ w ∈ wsX120, w ∈ wsX12_passes := fun _ h => List.mem_cons_of_mem _ (List.mem_append_right _ h)
def xX12_passes_a6_L2 (w0 : zM) (w1 : Int32) : Option ((zM × Int32) ⊕ zM) :=
  if (4 : Int32) ≤ w1 then
  (some (.inr w0))
  else
  if (w0.1 0 50) = 0 then
  (if ((w0.1 0 51) < 0 ∨ 140 ≤ (w0.1 0 51).toNatClampNeg) then none else
  if (w1 < 0 ∨ 4 ≤ w1.toNatClampNeg) then none else
  zlet (zsi w0 6 w1.toNatClampNeg (w0.1 32 (w0.1 0 51).toNatClampNeg)) fun M5 =>
  zlet (zsi M5 0 51 ((M5.1 0 51) + (1 : Int32))) fun M7 =>
  some (.inl (M7, (w1 + (1 : Int32)))))
  else
  if (w1 < 0 ∨ 4 ≤ w1.toNatClampNeg) then none else
  if ((w0.1 0 51) < 0 ∨ 140 ≤ (w0.1 0 51).toNatClampNeg) then none else
  zlet (zsi w0 32 (w0.1 0 51).toNatClampNeg (w0.1 6 w1.toNatClampNeg)) fun M11 =>
  zlet (zsi M11 0 51 ((M11.1 0 51) + (1 : Int32))) fun M13 =>
  some (.inl (M13, (w1 + (1 : Int32))))
set_option maxHeartbeats 4000000 in
set_option maxRecDepth 100000 in
theorem tX12_passes_a6_L2 {κ : Nat → ClassId} {E : zEn} {ad : Nat → Nat} {X : zX} {w0 : zM} {w1 : Int32} {r : ((zM × Int32) ⊕ zM)} (hC : zC X cX12_passes RX12 wsX12_passes vwCl (zty κ) E 3 ({ frames := 0, cells := 0, slots := 0, locals := 0 } : Room)) (hEk : zEk E) (hin : ∀ (x0' : zM) (x1' : Int32), r = .inl (x0', x1') → zV X 0 0 (zwM κ ad x0') [(0, .ref (ad 0)), (1, .ref (ad 6)), (2, .int x1')] [] 2) (hout0 : ∀ (x0' : zM), r = .inr x0' → zV X 0 0 (zwM κ ad x0') [] [] 58) (h : xX12_passes_a6_L2   w0 w1 = some r) : zV X 0 0 (zwM κ ad w0) [(0, .ref (ad 0)), (1, .ref (ad 6)), (2, .int w1)] [] 2 := by
  unfold xX12_passes_a6_L2 at h
  refine zr_iload_n (pc := 2) hC 2 rfl rfl dX12_passes_2 ?_
  refine zr_aload_n (pc := 3) hC 1 rfl rfl dX12_passes_3 ?_
  refine zma_6 (pc := 4) hC dX12_passes_4 ?_
  refine zr_icmp_ge (pc := 5) (tgt := 58) hC dX12_passes_5 (by decide) (fun c1 => ?_) (fun c1 => ?_)
  · replace h := zip h c1
    obtain rfl := Option.some.inj h
    exact zV.sub (lv' := []) [] rfl (hout0 w0 rfl)
  · replace h := zin h c1
    refine zr_aload_n (pc := 8) hC 0 rfl rfl dX12_passes_8 ?_
    refine zmg_50 (pc := 9) hC hinX12_passes_a6_X12 flX12_passes_a6_330 dX12_passes_9 ?_
    refine zr_if_eq (pc := 12) (tgt := 30) hC dX12_passes_12 (by decide) (fun c2 => ?_) (fun c2 => ?_)
    · replace h := zip h c2
      refine zr_aload_n (pc := 30) hC 1 rfl rfl dX12_passes_30 ?_
      refine zr_iload_n (pc := 31) hC 2 rfl rfl dX12_passes_31 ?_
      refine zr_aload_n (pc := 32) hC 0 rfl rfl dX12_passes_32 ?_
      refine zmg_48 (pc := 33) hC hinX12_passes_a6_X12 flX12_passes_a6_108 dX12_passes_33 ?_
      refine zr_aload_n (pc := 36) hC 0 rfl rfl dX12_passes_36 ?_
      refine zmg_51 (pc := 37) hC hinX12_passes_a6_X12 flX12_passes_a6_334 dX12_passes_37 ?_
      obtain ⟨i3, h⟩ := zgd h
      refine zml_32 (pc := 40) hC i3 dX12_passes_40 ?_
      obtain ⟨i4, h⟩ := zgd h
      obtain ⟨M5, e6, h⟩ := zle h
      refine zms_6 (pc := 41) hC i4 e6 dX12_passes_41 ?_
      refine zr_aload_n (pc := 42) hC 0 rfl rfl dX12_passes_42 ?_
      refine zr_dup (pc := 43) hC rfl dX12_passes_43 ?_
      refine zmg_51 (pc := 44) hC hinX12_passes_a6_X12 flX12_passes_a6_334 dX12_passes_44 ?_
      refine zr_iconst (pc := 47) hC zki_1 dX12_passes_47 ?_
      refine zr_iadd (pc := 48) hC dX12_passes_48 ?_
      obtain ⟨M7, e8, h⟩ := zle h
      refine zmp_51 (pc := 49) hC hinX12_passes_a6_X12 flX12_passes_a6_334 e8 dX12_passes_49 ?_
      refine zr_iinc (pc := 52) (k := 2) (lv' := [(2, .int (w1 + (1 : Int32))), (0, .ref (ad 0)), (1, .ref (ad 6))]) hC zki_1 (by decide) rfl rfl dX12_passes_52 ?_
      refine zr_goto (pc := 55) (tgt := 2) hC dX12_passes_55 (by decide) ?_
      obtain rfl := Option.some.inj h
      exact zV.sub (lv' := [(0, .ref (ad 0)), (1, .ref (ad 6)), (2, .int (w1 + (1 : Int32)))]) [1, 2, 0] rfl (hin M7 (w1 + (1 : Int32)) rfl)
    · replace h := zin h c2
      refine zr_aload_n (pc := 15) hC 0 rfl rfl dX12_passes_15 ?_
      refine zmg_48 (pc := 16) hC hinX12_passes_a6_X12 flX12_passes_a6_108 dX12_passes_16 ?_
      refine zr_aload_n (pc := 19) hC 0 rfl rfl dX12_passes_19 ?_
      refine zmg_51 (pc := 20) hC hinX12_passes_a6_X12 flX12_passes_a6_334 dX12_passes_20 ?_
      refine zr_aload_n (pc := 23) hC 1 rfl rfl dX12_passes_23 ?_
      refine zr_iload_n (pc := 24) hC 2 rfl rfl dX12_passes_24 ?_
      obtain ⟨i9, h⟩ := zgd h
      refine zml_6 (pc := 25) hC i9 dX12_passes_25 ?_
      obtain ⟨i10, h⟩ := zgd h
      obtain ⟨M11, e12, h⟩ := zle h
      refine zms_32 (pc := 26) hC i10 e12 dX12_passes_26 ?_
      refine zr_goto (pc := 27) (tgt := 42) hC dX12_passes_27 (by decide) ?_
      refine zr_aload_n (pc := 42) hC 0 rfl rfl dX12_passes_42 ?_
      refine zr_dup (pc := 43) hC rfl dX12_passes_43 ?_
      refine zmg_51 (pc := 44) hC hinX12_passes_a6_X12 flX12_passes_a6_334 dX12_passes_44 ?_
      refine zr_iconst (pc := 47) hC zki_1 dX12_passes_47 ?_
      refine zr_iadd (pc := 48) hC dX12_passes_48 ?_
      obtain ⟨M13, e14, h⟩ := zle h
      refine zmp_51 (pc := 49) hC hinX12_passes_a6_X12 flX12_passes_a6_334 e14 dX12_passes_49 ?_
      refine zr_iinc (pc := 52) (k := 2) (lv' := [(2, .int (w1 + (1 : Int32))), (0, .ref (ad 0)), (1, .ref (ad 6))]) hC zki_1 (by decide) rfl rfl dX12_passes_52 ?_
      refine zr_goto (pc := 55) (tgt := 2) hC dX12_passes_55 (by decide) ?_
      obtain rfl := Option.some.inj h
      exact zV.sub (lv' := [(0, .ref (ad 0)), (1, .ref (ad 6)), (2, .int (w1 + (1 : Int32)))]) [1, 2, 0] rfl (hin M13 (w1 + (1 : Int32)) rfl)
def xX12_passes_a6 (M : zM)  : Option zM :=
  (x_it (fun a9 => xX12_passes_a6_L2 a9.1 a9.2) zFU (M, (0 : Int32))).bind fun q1 =>
  some q1
set_option maxHeartbeats 4000000 in
set_option maxRecDepth 100000 in
theorem tX12_passes_a6 {κ : Nat → ClassId} {E : zEn} {ad : Nat → Nat} (hEk : zEk E) {M : zM}  {res : zM} (h : xX12_passes_a6 M  = some res) (l : Launch) (D : va_G) : zCT E D vwCl (zty κ) l yX12_passes wsX12_passes ({ frames := 0, cells := 0, slots := 0, locals := 0 } : Room) 0 0 [.ref (ad 0), .ref (ad 6)] (zwM κ ad M) (zPd none (zwM κ ad res)) := by
  refine zCT.of (cc := cX12_passes) (maxL := 3) (ret := none) (by decide) rfl (Nat.le_of_ble_eq_true rfl) ?_
  intro X hC hR
  unfold xX12_passes_a6 at h
  refine zV.sub (lv' := [(0, .ref (ad 0)), (1, .ref (ad 6))]) [0, 1] rfl ?_
  refine zr_iconst (pc := 0) hC zki_0 dX12_passes_0 ?_
  refine zr_istore_n (pc := 1) (lv' := [(2, .int (0 : Int32)), (0, .ref (ad 0)), (1, .ref (ad 6))]) hC rfl (by decide) rfl dX12_passes_1 ?_
  obtain ⟨q1, hq1, h⟩ := zbd h
  refine zV.sub (lv' := [(0, .ref (ad 0)), (1, .ref (ad 6)), (2, .int (0 : Int32))]) [1, 2, 0] rfl ?_
  refine zit2 (Wp := fun (y0 : zM) (y1 : Int32) => zV X 0 0 (zwM κ ad y0) [(0, .ref (ad 0)), (1, .ref (ad 6)), (2, .int y1)] [] 2) (Ex := fun (b9 : zM) => zV X 0 0 (zwM κ ad b9) [] [] 58) (fun y0 y1 r9 hr hin hout => tX12_passes_a6_L2 hC hEk hin (fun z0 e9 => hout z0 e9) hr) zFU M (0 : Int32) q1 hq1 ?_
  show zV X 0 0 (zwM κ ad q1) [] [] 58
  obtain rfl := Option.some.inj h
  exact zr_vret hC hR ⟨rfl, rfl⟩ (Nat.le_refl _) (Nat.le_refl _) dX12_passes_58
/-! X12_passes_a7 -/
theorem flX12_passes_a7_108 : Cond.fieldLink RX12 108 "BeforeTheEndModel" "kept" "[I" ∈ wsX12_passes := by decide +kernel
theorem flX12_passes_a7_330 : Cond.fieldLink RX12 330 "BeforeTheEndModel" "isKeeping" "Z" ∈ wsX12_passes := by decide +kernel
theorem flX12_passes_a7_334 : Cond.fieldLink RX12 334 "BeforeTheEndModel" "cursor" "I" ∈ wsX12_passes := by decide +kernel
theorem hinX12_passes_a7_X12 : ∀ w ∈ wsX120, w ∈ wsX12_passes := fun _ h => List.mem_cons_of_mem _ (List.mem_append_right _ h)
def xX12_passes_a7_L2 (w0 : zM) (w1 : Int32) : Option ((zM × Int32) ⊕ zM) :=
  if (4 : Int32) ≤ w1 then
  (some (.inr w0))
  else
  if (w0.1 0 50) = 0 then
  (if ((w0.1 0 51) < 0 ∨ 140 ≤ (w0.1 0 51).toNatClampNeg) then none else
  if (w1 < 0 ∨ 4 ≤ w1.toNatClampNeg) then none else
  zlet (zsi w0 7 w1.toNatClampNeg (w0.1 32 (w0.1 0 51).toNatClampNeg)) fun M5 =>
  zlet (zsi M5 0 51 ((M5.1 0 51) + (1 : Int32))) fun M7 =>
  some (.inl (M7, (w1 + (1 : Int32)))))
  else
  if (w1 < 0 ∨ 4 ≤ w1.toNatClampNeg) then none else
  if ((w0.1 0 51) < 0 ∨ 140 ≤ (w0.1 0 51).toNatClampNeg) then none else
  zlet (zsi w0 32 (w0.1 0 51).toNatClampNeg (w0.1 7 w1.toNatClampNeg)) fun M11 =>
  zlet (zsi M11 0 51 ((M11.1 0 51) + (1 : Int32))) fun M13 =>
  some (.inl (M13, (w1 + (1 : Int32))))
set_option maxHeartbeats 4000000 in
set_option maxRecDepth 100000 in
theorem tX12_passes_a7_L2 {κ : Nat → ClassId} {E : zEn} {ad : Nat → Nat} {X : zX} {w0 : zM} {w1 : Int32} {r : ((zM × Int32) ⊕ zM)} (hC : zC X cX12_passes RX12 wsX12_passes vwCl (zty κ) E 3 ({ frames := 0, cells := 0, slots := 0, locals := 0 } : Room)) (hEk : zEk E) (hin : ∀ (x0' : zM) (x1' : Int32), r = .inl (x0', x1') → zV X 0 0 (zwM κ ad x0') [(0, .ref (ad 0)), (1, .ref (ad 7)), (2, .int x1')] [] 2) (hout0 : ∀ (x0' : zM), r = .inr x0' → zV X 0 0 (zwM κ ad x0') [] [] 58) (h : xX12_passes_a7_L2   w0 w1 = some r) : zV X 0 0 (zwM κ ad w0) [(0, .ref (ad 0)), (1, .ref (ad 7)), (2, .int w1)] [] 2 := by
  unfold xX12_passes_a7_L2 at h
  refine zr_iload_n (pc := 2) hC 2 rfl rfl dX12_passes_2 ?_
  refine zr_aload_n (pc := 3) hC 1 rfl rfl dX12_passes_3 ?_
  refine zma_7 (pc := 4) hC dX12_passes_4 ?_
  refine zr_icmp_ge (pc := 5) (tgt := 58) hC dX12_passes_5 (by decide) (fun c1 => ?_) (fun c1 => ?_)
  · replace h := zip h c1
    obtain rfl := Option.some.inj h
    exact zV.sub (lv' := []) [] rfl (hout0 w0 rfl)
  · replace h := zin h c1
    refine zr_aload_n (pc := 8) hC 0 rfl rfl dX12_passes_8 ?_
    refine zmg_50 (pc := 9) hC hinX12_passes_a7_X12 flX12_passes_a7_330 dX12_passes_9 ?_
    refine zr_if_eq (pc := 12) (tgt := 30) hC dX12_passes_12 (by decide) (fun c2 => ?_) (fun c2 => ?_)
    · replace h := zip h c2
      refine zr_aload_n (pc := 30) hC 1 rfl rfl dX12_passes_30 ?_
      refine zr_iload_n (pc := 31) hC 2 rfl rfl dX12_passes_31 ?_
      refine zr_aload_n (pc := 32) hC 0 rfl rfl dX12_passes_32 ?_
      refine zmg_48 (pc := 33) hC hinX12_passes_a7_X12 flX12_passes_a7_108 dX12_passes_33 ?_
      refine zr_aload_n (pc := 36) hC 0 rfl rfl dX12_passes_36 ?_
      refine zmg_51 (pc := 37) hC hinX12_passes_a7_X12 flX12_passes_a7_334 dX12_passes_37 ?_
      obtain ⟨i3, h⟩ := zgd h
      refine zml_32 (pc := 40) hC i3 dX12_passes_40 ?_
      obtain ⟨i4, h⟩ := zgd h
      obtain ⟨M5, e6, h⟩ := zle h
      refine zms_7 (pc := 41) hC i4 e6 dX12_passes_41 ?_
      refine zr_aload_n (pc := 42) hC 0 rfl rfl dX12_passes_42 ?_
      refine zr_dup (pc := 43) hC rfl dX12_passes_43 ?_
      refine zmg_51 (pc := 44) hC hinX12_passes_a7_X12 flX12_passes_a7_334 dX12_passes_44 ?_
      refine zr_iconst (pc := 47) hC zki_1 dX12_passes_47 ?_
      refine zr_iadd (pc := 48) hC dX12_passes_48 ?_
      obtain ⟨M7, e8, h⟩ := zle h
      refine zmp_51 (pc := 49) hC hinX12_passes_a7_X12 flX12_passes_a7_334 e8 dX12_passes_49 ?_
      refine zr_iinc (pc := 52) (k := 2) (lv' := [(2, .int (w1 + (1 : Int32))), (0, .ref (ad 0)), (1, .ref (ad 7))]) hC zki_1 (by decide) rfl rfl dX12_passes_52 ?_
      refine zr_goto (pc := 55) (tgt := 2) hC dX12_passes_55 (by decide) ?_
      obtain rfl := Option.some.inj h
      exact zV.sub (lv' := [(0, .ref (ad 0)), (1, .ref (ad 7)), (2, .int (w1 + (1 : Int32)))]) [1, 2, 0] rfl (hin M7 (w1 + (1 : Int32)) rfl)
    · replace h := zin h c2
      refine zr_aload_n (pc := 15) hC 0 rfl rfl dX12_passes_15 ?_
      refine zmg_48 (pc := 16) hC hinX12_passes_a7_X12 flX12_passes_a7_108 dX12_passes_16 ?_
      refine zr_aload_n (pc := 19) hC 0 rfl rfl dX12_passes_19 ?_
      refine zmg_51 (pc := 20) hC hinX12_passes_a7_X12 flX12_passes_a7_334 dX12_passes_20 ?_
      refine zr_aload_n (pc := 23) hC 1 rfl rfl dX12_passes_23 ?_
      refine zr_iload_n (pc := 24) hC 2 rfl rfl dX12_passes_24 ?_
      obtain ⟨i9, h⟩ := zgd h
      refine zml_7 (pc := 25) hC i9 dX12_passes_25 ?_
      obtain ⟨i10, h⟩ := zgd h
      obtain ⟨M11, e12, h⟩ := zle h
      refine zms_32 (pc := 26) hC i10 e12 dX12_passes_26 ?_
      refine zr_goto (pc := 27) (tgt := 42) hC dX12_passes_27 (by decide) ?_
      refine zr_aload_n (pc := 42) hC 0 rfl rfl dX12_passes_42 ?_
      refine zr_dup (pc := 43) hC rfl dX12_passes_43 ?_
      refine zmg_51 (pc := 44) hC hinX12_passes_a7_X12 flX12_passes_a7_334 dX12_passes_44 ?_
      refine zr_iconst (pc := 47) hC zki_1 dX12_passes_47 ?_
      refine zr_iadd (pc := 48) hC dX12_passes_48 ?_
      obtain ⟨M13, e14, h⟩ := zle h
      refine zmp_51 (pc := 49) hC hinX12_passes_a7_X12 flX12_passes_a7_334 e14 dX12_passes_49 ?_
      refine zr_iinc (pc := 52) (k := 2) (lv' := [(2, .int (w1 + (1 : Int32))), (0, .ref (ad 0)), (1, .ref (ad 7))]) hC zki_1 (by decide) rfl rfl dX12_passes_52 ?_
      refine zr_goto (pc := 55) (tgt := 2) hC dX12_passes_55 (by decide) ?_
      obtain rfl := Option.some.inj h
      exact zV.sub (lv' := [(0, .ref (ad 0)), (1, .ref (ad 7)), (2, .int (w1 + (1 : Int32)))]) [1, 2, 0] rfl (hin M13 (w1 + (1 : Int32)) rfl)
def xX12_passes_a7 (M : zM)  : Option zM :=
  (x_it (fun a9 => xX12_passes_a7_L2 a9.1 a9.2) zFU (M, (0 : Int32))).bind fun q1 =>
  some q1
set_option maxHeartbeats 4000000 in
set_option maxRecDepth 100000 in
theorem tX12_passes_a7 {κ : Nat → ClassId} {E : zEn} {ad : Nat → Nat} (hEk : zEk E) {M : zM}  {res : zM} (h : xX12_passes_a7 M  = some res) (l : Launch) (D : va_G) : zCT E D vwCl (zty κ) l yX12_passes wsX12_passes ({ frames := 0, cells := 0, slots := 0, locals := 0 } : Room) 0 0 [.ref (ad 0), .ref (ad 7)] (zwM κ ad M) (zPd none (zwM κ ad res)) := by
  refine zCT.of (cc := cX12_passes) (maxL := 3) (ret := none) (by decide) rfl (Nat.le_of_ble_eq_true rfl) ?_
  intro X hC hR
  unfold xX12_passes_a7 at h
  refine zV.sub (lv' := [(0, .ref (ad 0)), (1, .ref (ad 7))]) [0, 1] rfl ?_
  refine zr_iconst (pc := 0) hC zki_0 dX12_passes_0 ?_
  refine zr_istore_n (pc := 1) (lv' := [(2, .int (0 : Int32)), (0, .ref (ad 0)), (1, .ref (ad 7))]) hC rfl (by decide) rfl dX12_passes_1 ?_
  obtain ⟨q1, hq1, h⟩ := zbd h
  refine zV.sub (lv' := [(0, .ref (ad 0)), (1, .ref (ad 7)), (2, .int (0 : Int32))]) [1, 2, 0] rfl ?_
  refine zit2 (Wp := fun (y0 : zM) (y1 : Int32) => zV X 0 0 (zwM κ ad y0) [(0, .ref (ad 0)), (1, .ref (ad 7)), (2, .int y1)] [] 2) (Ex := fun (b9 : zM) => zV X 0 0 (zwM κ ad b9) [] [] 58) (fun y0 y1 r9 hr hin hout => tX12_passes_a7_L2 hC hEk hin (fun z0 e9 => hout z0 e9) hr) zFU M (0 : Int32) q1 hq1 ?_
  show zV X 0 0 (zwM κ ad q1) [] [] 58
  obtain rfl := Option.some.inj h
  exact zr_vret hC hR ⟨rfl, rfl⟩ (Nat.le_refl _) (Nat.le_refl _) dX12_passes_58
/-! X12_passes_a8 -/
theorem flX12_passes_a8_108 : Cond.fieldLink RX12 108 "BeforeTheEndModel" "kept" "[I" ∈ wsX12_passes := by decide +kernel
theorem flX12_passes_a8_330 : Cond.fieldLink RX12 330 "BeforeTheEndModel" "isKeeping" "Z" ∈ wsX12_passes := by decide +kernel
theorem flX12_passes_a8_334 : Cond.fieldLink RX12 334 "BeforeTheEndModel" "cursor" "I" ∈ wsX12_passes := by decide +kernel
theorem hinX12_passes_a8_X12 : ∀ w ∈ wsX120, w ∈ wsX12_passes := fun _ h => List.mem_cons_of_mem _ (List.mem_append_right _ h)
def xX12_passes_a8_L2 (w0 : zM) (w1 : Int32) : Option ((zM × Int32) ⊕ zM) :=
  if (4 : Int32) ≤ w1 then
  (some (.inr w0))
  else
  if (w0.1 0 50) = 0 then
  (if ((w0.1 0 51) < 0 ∨ 140 ≤ (w0.1 0 51).toNatClampNeg) then none else
  if (w1 < 0 ∨ 4 ≤ w1.toNatClampNeg) then none else
  zlet (zsi w0 8 w1.toNatClampNeg (w0.1 32 (w0.1 0 51).toNatClampNeg)) fun M5 =>
  zlet (zsi M5 0 51 ((M5.1 0 51) + (1 : Int32))) fun M7 =>
  some (.inl (M7, (w1 + (1 : Int32)))))
  else
  if (w1 < 0 ∨ 4 ≤ w1.toNatClampNeg) then none else
  if ((w0.1 0 51) < 0 ∨ 140 ≤ (w0.1 0 51).toNatClampNeg) then none else
  zlet (zsi w0 32 (w0.1 0 51).toNatClampNeg (w0.1 8 w1.toNatClampNeg)) fun M11 =>
  zlet (zsi M11 0 51 ((M11.1 0 51) + (1 : Int32))) fun M13 =>
  some (.inl (M13, (w1 + (1 : Int32))))
set_option maxHeartbeats 4000000 in
set_option maxRecDepth 100000 in
theorem tX12_passes_a8_L2 {κ : Nat → ClassId} {E : zEn} {ad : Nat → Nat} {X : zX} {w0 : zM} {w1 : Int32} {r : ((zM × Int32) ⊕ zM)} (hC : zC X cX12_passes RX12 wsX12_passes vwCl (zty κ) E 3 ({ frames := 0, cells := 0, slots := 0, locals := 0 } : Room)) (hEk : zEk E) (hin : ∀ (x0' : zM) (x1' : Int32), r = .inl (x0', x1') → zV X 0 0 (zwM κ ad x0') [(0, .ref (ad 0)), (1, .ref (ad 8)), (2, .int x1')] [] 2) (hout0 : ∀ (x0' : zM), r = .inr x0' → zV X 0 0 (zwM κ ad x0') [] [] 58) (h : xX12_passes_a8_L2   w0 w1 = some r) : zV X 0 0 (zwM κ ad w0) [(0, .ref (ad 0)), (1, .ref (ad 8)), (2, .int w1)] [] 2 := by
  unfold xX12_passes_a8_L2 at h
  refine zr_iload_n (pc := 2) hC 2 rfl rfl dX12_passes_2 ?_
  refine zr_aload_n (pc := 3) hC 1 rfl rfl dX12_passes_3 ?_
  refine zma_8 (pc := 4) hC dX12_passes_4 ?_
  refine zr_icmp_ge (pc := 5) (tgt := 58) hC dX12_passes_5 (by decide) (fun c1 => ?_) (fun c1 => ?_)
  · replace h := zip h c1
    obtain rfl := Option.some.inj h
    exact zV.sub (lv' := []) [] rfl (hout0 w0 rfl)
  · replace h := zin h c1
    refine zr_aload_n (pc := 8) hC 0 rfl rfl dX12_passes_8 ?_
    refine zmg_50 (pc := 9) hC hinX12_passes_a8_X12 flX12_passes_a8_330 dX12_passes_9 ?_
    refine zr_if_eq (pc := 12) (tgt := 30) hC dX12_passes_12 (by decide) (fun c2 => ?_) (fun c2 => ?_)
    · replace h := zip h c2
      refine zr_aload_n (pc := 30) hC 1 rfl rfl dX12_passes_30 ?_
      refine zr_iload_n (pc := 31) hC 2 rfl rfl dX12_passes_31 ?_
      refine zr_aload_n (pc := 32) hC 0 rfl rfl dX12_passes_32 ?_
      refine zmg_48 (pc := 33) hC hinX12_passes_a8_X12 flX12_passes_a8_108 dX12_passes_33 ?_
      refine zr_aload_n (pc := 36) hC 0 rfl rfl dX12_passes_36 ?_
      refine zmg_51 (pc := 37) hC hinX12_passes_a8_X12 flX12_passes_a8_334 dX12_passes_37 ?_
      obtain ⟨i3, h⟩ := zgd h
      refine zml_32 (pc := 40) hC i3 dX12_passes_40 ?_
      obtain ⟨i4, h⟩ := zgd h
      obtain ⟨M5, e6, h⟩ := zle h
      refine zms_8 (pc := 41) hC i4 e6 dX12_passes_41 ?_
      refine zr_aload_n (pc := 42) hC 0 rfl rfl dX12_passes_42 ?_
      refine zr_dup (pc := 43) hC rfl dX12_passes_43 ?_
      refine zmg_51 (pc := 44) hC hinX12_passes_a8_X12 flX12_passes_a8_334 dX12_passes_44 ?_
      refine zr_iconst (pc := 47) hC zki_1 dX12_passes_47 ?_
      refine zr_iadd (pc := 48) hC dX12_passes_48 ?_
      obtain ⟨M7, e8, h⟩ := zle h
      refine zmp_51 (pc := 49) hC hinX12_passes_a8_X12 flX12_passes_a8_334 e8 dX12_passes_49 ?_
      refine zr_iinc (pc := 52) (k := 2) (lv' := [(2, .int (w1 + (1 : Int32))), (0, .ref (ad 0)), (1, .ref (ad 8))]) hC zki_1 (by decide) rfl rfl dX12_passes_52 ?_
      refine zr_goto (pc := 55) (tgt := 2) hC dX12_passes_55 (by decide) ?_
      obtain rfl := Option.some.inj h
      exact zV.sub (lv' := [(0, .ref (ad 0)), (1, .ref (ad 8)), (2, .int (w1 + (1 : Int32)))]) [1, 2, 0] rfl (hin M7 (w1 + (1 : Int32)) rfl)
    · replace h := zin h c2
      refine zr_aload_n (pc := 15) hC 0 rfl rfl dX12_passes_15 ?_
      refine zmg_48 (pc := 16) hC hinX12_passes_a8_X12 flX12_passes_a8_108 dX12_passes_16 ?_
      refine zr_aload_n (pc := 19) hC 0 rfl rfl dX12_passes_19 ?_
      refine zmg_51 (pc := 20) hC hinX12_passes_a8_X12 flX12_passes_a8_334 dX12_passes_20 ?_
      refine zr_aload_n (pc := 23) hC 1 rfl rfl dX12_passes_23 ?_
      refine zr_iload_n (pc := 24) hC 2 rfl rfl dX12_passes_24 ?_
      obtain ⟨i9, h⟩ := zgd h
      refine zml_8 (pc := 25) hC i9 dX12_passes_25 ?_
      obtain ⟨i10, h⟩ := zgd h
      obtain ⟨M11, e12, h⟩ := zle h
      refine zms_32 (pc := 26) hC i10 e12 dX12_passes_26 ?_
      refine zr_goto (pc := 27) (tgt := 42) hC dX12_passes_27 (by decide) ?_
      refine zr_aload_n (pc := 42) hC 0 rfl rfl dX12_passes_42 ?_
      refine zr_dup (pc := 43) hC rfl dX12_passes_43 ?_
      refine zmg_51 (pc := 44) hC hinX12_passes_a8_X12 flX12_passes_a8_334 dX12_passes_44 ?_
      refine zr_iconst (pc := 47) hC zki_1 dX12_passes_47 ?_
      refine zr_iadd (pc := 48) hC dX12_passes_48 ?_
      obtain ⟨M13, e14, h⟩ := zle h
      refine zmp_51 (pc := 49) hC hinX12_passes_a8_X12 flX12_passes_a8_334 e14 dX12_passes_49 ?_
      refine zr_iinc (pc := 52) (k := 2) (lv' := [(2, .int (w1 + (1 : Int32))), (0, .ref (ad 0)), (1, .ref (ad 8))]) hC zki_1 (by decide) rfl rfl dX12_passes_52 ?_
      refine zr_goto (pc := 55) (tgt := 2) hC dX12_passes_55 (by decide) ?_
      obtain rfl := Option.some.inj h
      exact zV.sub (lv' := [(0, .ref (ad 0)), (1, .ref (ad 8)), (2, .int (w1 + (1 : Int32)))]) [1, 2, 0] rfl (hin M13 (w1 + (1 : Int32)) rfl)
def xX12_passes_a8 (M : zM)  : Option zM :=
  (x_it (fun a9 => xX12_passes_a8_L2 a9.1 a9.2) zFU (M, (0 : Int32))).bind fun q1 =>
  some q1
set_option maxHeartbeats 4000000 in
set_option maxRecDepth 100000 in
theorem tX12_passes_a8 {κ : Nat → ClassId} {E : zEn} {ad : Nat → Nat} (hEk : zEk E) {M : zM}  {res : zM} (h : xX12_passes_a8 M  = some res) (l : Launch) (D : va_G) : zCT E D vwCl (zty κ) l yX12_passes wsX12_passes ({ frames := 0, cells := 0, slots := 0, locals := 0 } : Room) 0 0 [.ref (ad 0), .ref (ad 8)] (zwM κ ad M) (zPd none (zwM κ ad res)) := by
  refine zCT.of (cc := cX12_passes) (maxL := 3) (ret := none) (by decide) rfl (Nat.le_of_ble_eq_true rfl) ?_
  intro X hC hR
  unfold xX12_passes_a8 at h
  refine zV.sub (lv' := [(0, .ref (ad 0)), (1, .ref (ad 8))]) [0, 1] rfl ?_
  refine zr_iconst (pc := 0) hC zki_0 dX12_passes_0 ?_
  refine zr_istore_n (pc := 1) (lv' := [(2, .int (0 : Int32)), (0, .ref (ad 0)), (1, .ref (ad 8))]) hC rfl (by decide) rfl dX12_passes_1 ?_
  obtain ⟨q1, hq1, h⟩ := zbd h
  refine zV.sub (lv' := [(0, .ref (ad 0)), (1, .ref (ad 8)), (2, .int (0 : Int32))]) [1, 2, 0] rfl ?_
  refine zit2 (Wp := fun (y0 : zM) (y1 : Int32) => zV X 0 0 (zwM κ ad y0) [(0, .ref (ad 0)), (1, .ref (ad 8)), (2, .int y1)] [] 2) (Ex := fun (b9 : zM) => zV X 0 0 (zwM κ ad b9) [] [] 58) (fun y0 y1 r9 hr hin hout => tX12_passes_a8_L2 hC hEk hin (fun z0 e9 => hout z0 e9) hr) zFU M (0 : Int32) q1 hq1 ?_
  show zV X 0 0 (zwM κ ad q1) [] [] 58
  obtain rfl := Option.some.inj h
  exact zr_vret hC hR ⟨rfl, rfl⟩ (Nat.le_refl _) (Nat.le_refl _) dX12_passes_58
/-! X12_passes_a9 -/
theorem flX12_passes_a9_108 : Cond.fieldLink RX12 108 "BeforeTheEndModel" "kept" "[I" ∈ wsX12_passes := by decide +kernel
theorem flX12_passes_a9_330 : Cond.fieldLink RX12 330 "BeforeTheEndModel" "isKeeping" "Z" ∈ wsX12_passes := by decide +kernel
theorem flX12_passes_a9_334 : Cond.fieldLink RX12 334 "BeforeTheEndModel" "cursor" "I" ∈ wsX12_passes := by decide +kernel
theorem hinX12_passes_a9_X12 : ∀ w ∈ wsX120, w ∈ wsX12_passes := fun _ h => List.mem_cons_of_mem _ (List.mem_append_right _ h)
def xX12_passes_a9_L2 (w0 : zM) (w1 : Int32) : Option ((zM × Int32) ⊕ zM) :=
  if (4 : Int32) ≤ w1 then
  (some (.inr w0))
  else
  if (w0.1 0 50) = 0 then
  (if ((w0.1 0 51) < 0 ∨ 140 ≤ (w0.1 0 51).toNatClampNeg) then none else
  if (w1 < 0 ∨ 4 ≤ w1.toNatClampNeg) then none else
  zlet (zsi w0 9 w1.toNatClampNeg (w0.1 32 (w0.1 0 51).toNatClampNeg)) fun M5 =>
  zlet (zsi M5 0 51 ((M5.1 0 51) + (1 : Int32))) fun M7 =>
  some (.inl (M7, (w1 + (1 : Int32)))))
  else
  if (w1 < 0 ∨ 4 ≤ w1.toNatClampNeg) then none else
  if ((w0.1 0 51) < 0 ∨ 140 ≤ (w0.1 0 51).toNatClampNeg) then none else
  zlet (zsi w0 32 (w0.1 0 51).toNatClampNeg (w0.1 9 w1.toNatClampNeg)) fun M11 =>
  zlet (zsi M11 0 51 ((M11.1 0 51) + (1 : Int32))) fun M13 =>
  some (.inl (M13, (w1 + (1 : Int32))))
set_option maxHeartbeats 4000000 in
set_option maxRecDepth 100000 in
theorem tX12_passes_a9_L2 {κ : Nat → ClassId} {E : zEn} {ad : Nat → Nat} {X : zX} {w0 : zM} {w1 : Int32} {r : ((zM × Int32) ⊕ zM)} (hC : zC X cX12_passes RX12 wsX12_passes vwCl (zty κ) E 3 ({ frames := 0, cells := 0, slots := 0, locals := 0 } : Room)) (hEk : zEk E) (hin : ∀ (x0' : zM) (x1' : Int32), r = .inl (x0', x1') → zV X 0 0 (zwM κ ad x0') [(0, .ref (ad 0)), (1, .ref (ad 9)), (2, .int x1')] [] 2) (hout0 : ∀ (x0' : zM), r = .inr x0' → zV X 0 0 (zwM κ ad x0') [] [] 58) (h : xX12_passes_a9_L2   w0 w1 = some r) : zV X 0 0 (zwM κ ad w0) [(0, .ref (ad 0)), (1, .ref (ad 9)), (2, .int w1)] [] 2 := by
  unfold xX12_passes_a9_L2 at h
  refine zr_iload_n (pc := 2) hC 2 rfl rfl dX12_passes_2 ?_
  refine zr_aload_n (pc := 3) hC 1 rfl rfl dX12_passes_3 ?_
  refine zma_9 (pc := 4) hC dX12_passes_4 ?_
  refine zr_icmp_ge (pc := 5) (tgt := 58) hC dX12_passes_5 (by decide) (fun c1 => ?_) (fun c1 => ?_)
  · replace h := zip h c1
    obtain rfl := Option.some.inj h
    exact zV.sub (lv' := []) [] rfl (hout0 w0 rfl)
  · replace h := zin h c1
    refine zr_aload_n (pc := 8) hC 0 rfl rfl dX12_passes_8 ?_
    refine zmg_50 (pc := 9) hC hinX12_passes_a9_X12 flX12_passes_a9_330 dX12_passes_9 ?_
    refine zr_if_eq (pc := 12) (tgt := 30) hC dX12_passes_12 (by decide) (fun c2 => ?_) (fun c2 => ?_)
    · replace h := zip h c2
      refine zr_aload_n (pc := 30) hC 1 rfl rfl dX12_passes_30 ?_
      refine zr_iload_n (pc := 31) hC 2 rfl rfl dX12_passes_31 ?_
      refine zr_aload_n (pc := 32) hC 0 rfl rfl dX12_passes_32 ?_
      refine zmg_48 (pc := 33) hC hinX12_passes_a9_X12 flX12_passes_a9_108 dX12_passes_33 ?_
      refine zr_aload_n (pc := 36) hC 0 rfl rfl dX12_passes_36 ?_
      refine zmg_51 (pc := 37) hC hinX12_passes_a9_X12 flX12_passes_a9_334 dX12_passes_37 ?_
      obtain ⟨i3, h⟩ := zgd h
      refine zml_32 (pc := 40) hC i3 dX12_passes_40 ?_
      obtain ⟨i4, h⟩ := zgd h
      obtain ⟨M5, e6, h⟩ := zle h
      refine zms_9 (pc := 41) hC i4 e6 dX12_passes_41 ?_
      refine zr_aload_n (pc := 42) hC 0 rfl rfl dX12_passes_42 ?_
      refine zr_dup (pc := 43) hC rfl dX12_passes_43 ?_
      refine zmg_51 (pc := 44) hC hinX12_passes_a9_X12 flX12_passes_a9_334 dX12_passes_44 ?_
      refine zr_iconst (pc := 47) hC zki_1 dX12_passes_47 ?_
      refine zr_iadd (pc := 48) hC dX12_passes_48 ?_
      obtain ⟨M7, e8, h⟩ := zle h
      refine zmp_51 (pc := 49) hC hinX12_passes_a9_X12 flX12_passes_a9_334 e8 dX12_passes_49 ?_
      refine zr_iinc (pc := 52) (k := 2) (lv' := [(2, .int (w1 + (1 : Int32))), (0, .ref (ad 0)), (1, .ref (ad 9))]) hC zki_1 (by decide) rfl rfl dX12_passes_52 ?_
      refine zr_goto (pc := 55) (tgt := 2) hC dX12_passes_55 (by decide) ?_
      obtain rfl := Option.some.inj h
      exact zV.sub (lv' := [(0, .ref (ad 0)), (1, .ref (ad 9)), (2, .int (w1 + (1 : Int32)))]) [1, 2, 0] rfl (hin M7 (w1 + (1 : Int32)) rfl)
    · replace h := zin h c2
      refine zr_aload_n (pc := 15) hC 0 rfl rfl dX12_passes_15 ?_
      refine zmg_48 (pc := 16) hC hinX12_passes_a9_X12 flX12_passes_a9_108 dX12_passes_16 ?_
      refine zr_aload_n (pc := 19) hC 0 rfl rfl dX12_passes_19 ?_
      refine zmg_51 (pc := 20) hC hinX12_passes_a9_X12 flX12_passes_a9_334 dX12_passes_20 ?_
      refine zr_aload_n (pc := 23) hC 1 rfl rfl dX12_passes_23 ?_
      refine zr_iload_n (pc := 24) hC 2 rfl rfl dX12_passes_24 ?_
      obtain ⟨i9, h⟩ := zgd h
      refine zml_9 (pc := 25) hC i9 dX12_passes_25 ?_
      obtain ⟨i10, h⟩ := zgd h
      obtain ⟨M11, e12, h⟩ := zle h
      refine zms_32 (pc := 26) hC i10 e12 dX12_passes_26 ?_
      refine zr_goto (pc := 27) (tgt := 42) hC dX12_passes_27 (by decide) ?_
      refine zr_aload_n (pc := 42) hC 0 rfl rfl dX12_passes_42 ?_
      refine zr_dup (pc := 43) hC rfl dX12_passes_43 ?_
      refine zmg_51 (pc := 44) hC hinX12_passes_a9_X12 flX12_passes_a9_334 dX12_passes_44 ?_
      refine zr_iconst (pc := 47) hC zki_1 dX12_passes_47 ?_
      refine zr_iadd (pc := 48) hC dX12_passes_48 ?_
      obtain ⟨M13, e14, h⟩ := zle h
      refine zmp_51 (pc := 49) hC hinX12_passes_a9_X12 flX12_passes_a9_334 e14 dX12_passes_49 ?_
      refine zr_iinc (pc := 52) (k := 2) (lv' := [(2, .int (w1 + (1 : Int32))), (0, .ref (ad 0)), (1, .ref (ad 9))]) hC zki_1 (by decide) rfl rfl dX12_passes_52 ?_
      refine zr_goto (pc := 55) (tgt := 2) hC dX12_passes_55 (by decide) ?_
      obtain rfl := Option.some.inj h
      exact zV.sub (lv' := [(0, .ref (ad 0)), (1, .ref (ad 9)), (2, .int (w1 + (1 : Int32)))]) [1, 2, 0] rfl (hin M13 (w1 + (1 : Int32)) rfl)
def xX12_passes_a9 (M : zM)  : Option zM :=
  (x_it (fun a9 => xX12_passes_a9_L2 a9.1 a9.2) zFU (M, (0 : Int32))).bind fun q1 =>
  some q1
set_option maxHeartbeats 4000000 in
set_option maxRecDepth 100000 in
theorem tX12_passes_a9 {κ : Nat → ClassId} {E : zEn} {ad : Nat → Nat} (hEk : zEk E) {M : zM}  {res : zM} (h : xX12_passes_a9 M  = some res) (l : Launch) (D : va_G) : zCT E D vwCl (zty κ) l yX12_passes wsX12_passes ({ frames := 0, cells := 0, slots := 0, locals := 0 } : Room) 0 0 [.ref (ad 0), .ref (ad 9)] (zwM κ ad M) (zPd none (zwM κ ad res)) := by
  refine zCT.of (cc := cX12_passes) (maxL := 3) (ret := none) (by decide) rfl (Nat.le_of_ble_eq_true rfl) ?_
  intro X hC hR
  unfold xX12_passes_a9 at h
  refine zV.sub (lv' := [(0, .ref (ad 0)), (1, .ref (ad 9))]) [0, 1] rfl ?_
  refine zr_iconst (pc := 0) hC zki_0 dX12_passes_0 ?_
  refine zr_istore_n (pc := 1) (lv' := [(2, .int (0 : Int32)), (0, .ref (ad 0)), (1, .ref (ad 9))]) hC rfl (by decide) rfl dX12_passes_1 ?_
  obtain ⟨q1, hq1, h⟩ := zbd h
  refine zV.sub (lv' := [(0, .ref (ad 0)), (1, .ref (ad 9)), (2, .int (0 : Int32))]) [1, 2, 0] rfl ?_
  refine zit2 (Wp := fun (y0 : zM) (y1 : Int32) => zV X 0 0 (zwM κ ad y0) [(0, .ref (ad 0)), (1, .ref (ad 9)), (2, .int y1)] [] 2) (Ex := fun (b9 : zM) => zV X 0 0 (zwM κ ad b9) [] [] 58) (fun y0 y1 r9 hr hin hout => tX12_passes_a9_L2 hC hEk hin (fun z0 e9 => hout z0 e9) hr) zFU M (0 : Int32) q1 hq1 ?_
  show zV X 0 0 (zwM κ ad q1) [] [] 58
  obtain rfl := Option.some.inj h
  exact zr_vret hC hR ⟨rfl, rfl⟩ (Nat.le_refl _) (Nat.le_refl _) dX12_passes_58
/-! X12_passes_a10 -/
theorem flX12_passes_a10_108 : Cond.fieldLink RX12 108 "BeforeTheEndModel" "kept" "[I" ∈ wsX12_passes := by decide +kernel
theorem flX12_passes_a10_330 : Cond.fieldLink RX12 330 "BeforeTheEndModel" "isKeeping" "Z" ∈ wsX12_passes := by decide +kernel
theorem flX12_passes_a10_334 : Cond.fieldLink RX12 334 "BeforeTheEndModel" "cursor" "I" ∈ wsX12_passes := by decide +kernel
theorem hinX12_passes_a10_X12 : ∀ w ∈ wsX120, w ∈ wsX12_passes := fun _ h => List.mem_cons_of_mem _ (List.mem_append_right _ h)
def xX12_passes_a10_L2 (w0 : zM) (w1 : Int32) : Option ((zM × Int32) ⊕ zM) :=
  if (4 : Int32) ≤ w1 then
  (some (.inr w0))
  else
  if (w0.1 0 50) = 0 then
  (if ((w0.1 0 51) < 0 ∨ 140 ≤ (w0.1 0 51).toNatClampNeg) then none else
  if (w1 < 0 ∨ 4 ≤ w1.toNatClampNeg) then none else
  zlet (zsi w0 10 w1.toNatClampNeg (w0.1 32 (w0.1 0 51).toNatClampNeg)) fun M5 =>
  zlet (zsi M5 0 51 ((M5.1 0 51) + (1 : Int32))) fun M7 =>
  some (.inl (M7, (w1 + (1 : Int32)))))
  else
  if (w1 < 0 ∨ 4 ≤ w1.toNatClampNeg) then none else
  if ((w0.1 0 51) < 0 ∨ 140 ≤ (w0.1 0 51).toNatClampNeg) then none else
  zlet (zsi w0 32 (w0.1 0 51).toNatClampNeg (w0.1 10 w1.toNatClampNeg)) fun M11 =>
  zlet (zsi M11 0 51 ((M11.1 0 51) + (1 : Int32))) fun M13 =>
  some (.inl (M13, (w1 + (1 : Int32))))
set_option maxHeartbeats 4000000 in
set_option maxRecDepth 100000 in
theorem tX12_passes_a10_L2 {κ : Nat → ClassId} {E : zEn} {ad : Nat → Nat} {X : zX} {w0 : zM} {w1 : Int32} {r : ((zM × Int32) ⊕ zM)} (hC : zC X cX12_passes RX12 wsX12_passes vwCl (zty κ) E 3 ({ frames := 0, cells := 0, slots := 0, locals := 0 } : Room)) (hEk : zEk E) (hin : ∀ (x0' : zM) (x1' : Int32), r = .inl (x0', x1') → zV X 0 0 (zwM κ ad x0') [(0, .ref (ad 0)), (1, .ref (ad 10)), (2, .int x1')] [] 2) (hout0 : ∀ (x0' : zM), r = .inr x0' → zV X 0 0 (zwM κ ad x0') [] [] 58) (h : xX12_passes_a10_L2   w0 w1 = some r) : zV X 0 0 (zwM κ ad w0) [(0, .ref (ad 0)), (1, .ref (ad 10)), (2, .int w1)] [] 2 := by
  unfold xX12_passes_a10_L2 at h
  refine zr_iload_n (pc := 2) hC 2 rfl rfl dX12_passes_2 ?_
  refine zr_aload_n (pc := 3) hC 1 rfl rfl dX12_passes_3 ?_
  refine zma_10 (pc := 4) hC dX12_passes_4 ?_
  refine zr_icmp_ge (pc := 5) (tgt := 58) hC dX12_passes_5 (by decide) (fun c1 => ?_) (fun c1 => ?_)
  · replace h := zip h c1
    obtain rfl := Option.some.inj h
    exact zV.sub (lv' := []) [] rfl (hout0 w0 rfl)
  · replace h := zin h c1
    refine zr_aload_n (pc := 8) hC 0 rfl rfl dX12_passes_8 ?_
    refine zmg_50 (pc := 9) hC hinX12_passes_a10_X12 flX12_passes_a10_330 dX12_passes_9 ?_
    refine zr_if_eq (pc := 12) (tgt := 30) hC dX12_passes_12 (by decide) (fun c2 => ?_) (fun c2 => ?_)
    · replace h := zip h c2
      refine zr_aload_n (pc := 30) hC 1 rfl rfl dX12_passes_30 ?_
      refine zr_iload_n (pc := 31) hC 2 rfl rfl dX12_passes_31 ?_
      refine zr_aload_n (pc := 32) hC 0 rfl rfl dX12_passes_32 ?_
      refine zmg_48 (pc := 33) hC hinX12_passes_a10_X12 flX12_passes_a10_108 dX12_passes_33 ?_
      refine zr_aload_n (pc := 36) hC 0 rfl rfl dX12_passes_36 ?_
      refine zmg_51 (pc := 37) hC hinX12_passes_a10_X12 flX12_passes_a10_334 dX12_passes_37 ?_
      obtain ⟨i3, h⟩ := zgd h
      refine zml_32 (pc := 40) hC i3 dX12_passes_40 ?_
      obtain ⟨i4, h⟩ := zgd h
      obtain ⟨M5, e6, h⟩ := zle h
      refine zms_10 (pc := 41) hC i4 e6 dX12_passes_41 ?_
      refine zr_aload_n (pc := 42) hC 0 rfl rfl dX12_passes_42 ?_
      refine zr_dup (pc := 43) hC rfl dX12_passes_43 ?_
      refine zmg_51 (pc := 44) hC hinX12_passes_a10_X12 flX12_passes_a10_334 dX12_passes_44 ?_
      refine zr_iconst (pc := 47) hC zki_1 dX12_passes_47 ?_
      refine zr_iadd (pc := 48) hC dX12_passes_48 ?_
      obtain ⟨M7, e8, h⟩ := zle h
      refine zmp_51 (pc := 49) hC hinX12_passes_a10_X12 flX12_passes_a10_334 e8 dX12_passes_49 ?_
      refine zr_iinc (pc := 52) (k := 2) (lv' := [(2, .int (w1 + (1 : Int32))), (0, .ref (ad 0)), (1, .ref (ad 10))]) hC zki_1 (by decide) rfl rfl dX12_passes_52 ?_
      refine zr_goto (pc := 55) (tgt := 2) hC dX12_passes_55 (by decide) ?_
      obtain rfl := Option.some.inj h
      exact zV.sub (lv' := [(0, .ref (ad 0)), (1, .ref (ad 10)), (2, .int (w1 + (1 : Int32)))]) [1, 2, 0] rfl (hin M7 (w1 + (1 : Int32)) rfl)
    · replace h := zin h c2
      refine zr_aload_n (pc := 15) hC 0 rfl rfl dX12_passes_15 ?_
      refine zmg_48 (pc := 16) hC hinX12_passes_a10_X12 flX12_passes_a10_108 dX12_passes_16 ?_
      refine zr_aload_n (pc := 19) hC 0 rfl rfl dX12_passes_19 ?_
      refine zmg_51 (pc := 20) hC hinX12_passes_a10_X12 flX12_passes_a10_334 dX12_passes_20 ?_
      refine zr_aload_n (pc := 23) hC 1 rfl rfl dX12_passes_23 ?_
      refine zr_iload_n (pc := 24) hC 2 rfl rfl dX12_passes_24 ?_
      obtain ⟨i9, h⟩ := zgd h
      refine zml_10 (pc := 25) hC i9 dX12_passes_25 ?_
      obtain ⟨i10, h⟩ := zgd h
      obtain ⟨M11, e12, h⟩ := zle h
      refine zms_32 (pc := 26) hC i10 e12 dX12_passes_26 ?_
      refine zr_goto (pc := 27) (tgt := 42) hC dX12_passes_27 (by decide) ?_
      refine zr_aload_n (pc := 42) hC 0 rfl rfl dX12_passes_42 ?_
      refine zr_dup (pc := 43) hC rfl dX12_passes_43 ?_
      refine zmg_51 (pc := 44) hC hinX12_passes_a10_X12 flX12_passes_a10_334 dX12_passes_44 ?_
      refine zr_iconst (pc := 47) hC zki_1 dX12_passes_47 ?_
      refine zr_iadd (pc := 48) hC dX12_passes_48 ?_
      obtain ⟨M13, e14, h⟩ := zle h
      refine zmp_51 (pc := 49) hC hinX12_passes_a10_X12 flX12_passes_a10_334 e14 dX12_passes_49 ?_
      refine zr_iinc (pc := 52) (k := 2) (lv' := [(2, .int (w1 + (1 : Int32))), (0, .ref (ad 0)), (1, .ref (ad 10))]) hC zki_1 (by decide) rfl rfl dX12_passes_52 ?_
      refine zr_goto (pc := 55) (tgt := 2) hC dX12_passes_55 (by decide) ?_
      obtain rfl := Option.some.inj h
      exact zV.sub (lv' := [(0, .ref (ad 0)), (1, .ref (ad 10)), (2, .int (w1 + (1 : Int32)))]) [1, 2, 0] rfl (hin M13 (w1 + (1 : Int32)) rfl)
def xX12_passes_a10 (M : zM)  : Option zM :=
  (x_it (fun a9 => xX12_passes_a10_L2 a9.1 a9.2) zFU (M, (0 : Int32))).bind fun q1 =>
  some q1
set_option maxHeartbeats 4000000 in
set_option maxRecDepth 100000 in
theorem tX12_passes_a10 {κ : Nat → ClassId} {E : zEn} {ad : Nat → Nat} (hEk : zEk E) {M : zM}  {res : zM} (h : xX12_passes_a10 M  = some res) (l : Launch) (D : va_G) : zCT E D vwCl (zty κ) l yX12_passes wsX12_passes ({ frames := 0, cells := 0, slots := 0, locals := 0 } : Room) 0 0 [.ref (ad 0), .ref (ad 10)] (zwM κ ad M) (zPd none (zwM κ ad res)) := by
  refine zCT.of (cc := cX12_passes) (maxL := 3) (ret := none) (by decide) rfl (Nat.le_of_ble_eq_true rfl) ?_
  intro X hC hR
  unfold xX12_passes_a10 at h
  refine zV.sub (lv' := [(0, .ref (ad 0)), (1, .ref (ad 10))]) [0, 1] rfl ?_
  refine zr_iconst (pc := 0) hC zki_0 dX12_passes_0 ?_
  refine zr_istore_n (pc := 1) (lv' := [(2, .int (0 : Int32)), (0, .ref (ad 0)), (1, .ref (ad 10))]) hC rfl (by decide) rfl dX12_passes_1 ?_
  obtain ⟨q1, hq1, h⟩ := zbd h
  refine zV.sub (lv' := [(0, .ref (ad 0)), (1, .ref (ad 10)), (2, .int (0 : Int32))]) [1, 2, 0] rfl ?_
  refine zit2 (Wp := fun (y0 : zM) (y1 : Int32) => zV X 0 0 (zwM κ ad y0) [(0, .ref (ad 0)), (1, .ref (ad 10)), (2, .int y1)] [] 2) (Ex := fun (b9 : zM) => zV X 0 0 (zwM κ ad b9) [] [] 58) (fun y0 y1 r9 hr hin hout => tX12_passes_a10_L2 hC hEk hin (fun z0 e9 => hout z0 e9) hr) zFU M (0 : Int32) q1 hq1 ?_
  show zV X 0 0 (zwM κ ad q1) [] [] 58
  obtain rfl := Option.some.inj h
  exact zr_vret hC hR ⟨rfl, rfl⟩ (Nat.le_refl _) (Nat.le_refl _) dX12_passes_58
