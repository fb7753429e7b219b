/-! X12_passes_a11 -/
theorem flX12_passes_a11_108 : Cond.fieldLink RX12 108 "BeforeTheEndModel" "kept" "[I" ∈ wsX12_passes := by decide +kernel
theorem flX12_passes_a11_330 : Cond.fieldLink RX12 330 "BeforeTheEndModel" "isKeeping" "Z" ∈ wsX12_passes := by decide +kernel
theorem flX12_passes_a11_334 : Cond.fieldLink RX12 334 "BeforeTheEndModel" "cursor" "I" ∈ wsX12_passes := by decide +kernel
theorem hinX12_passes_a11_X12 : ∀ w ∈ wsX120, w ∈ wsX12_passes := fun _ h => List.mem_cons_of_mem _ (List.mem_append_right _ h)
def xX12_passes_a11_L2 (w0 : zM) (w1 : Int32) : Option ((zM × Int32) ⊕ zM) :=
  if (4 : Int32) ≤ w1 then
  (some (.inr w0))
  else
  if (w0.1 0 50) = 0 then
  (if ((w0.1 0 51) < 0 ∨ 140 ≤ (w0.1 0 51).toNatClampNeg) then none else
  if (w1 < 0 ∨ 4 ≤ w1.toNatClampNeg) then none else
  zlet (zsi w0 11 w1.toNatClampNeg (w0.1 32 (w0.1 0 51).toNatClampNeg)) fun M5 =>
  zlet (zsi M5 0 51 ((M5.1 0 51) + (1 : Int32))) fun M7 =>
  some (.inl (M7, (w1 + (1 : Int32)))))
  else
  if (w1 < 0 ∨ 4 ≤ w1.toNatClampNeg) then none else
  if ((w0.1 0 51) < 0 ∨ 140 ≤ (w0.1 0 51).toNatClampNeg) then none else
  zlet (zsi w0 32 (w0.1 0 51).toNatClampNeg (w0.1 11 w1.toNatClampNeg)) fun M11 =>
  zlet (zsi M11 0 51 ((M11.1 0 51) + (1 : Int32))) fun M13 =>
  some (.inl (M13, (w1 + (1 : Int32))))
set_option maxHeartbeats 4000000 in
set_option maxRecDepth 100000 in
theorem tX12_passes_a11_L2 {κ : Nat → ClassId} {E : zEn} {ad : Nat → Nat} {X : zX} {w0 : zM} {w1 : Int32} {r : ((zM × Int32) ⊕ zM)} (hC : zC X cX12_passes RX12 wsX12_passes vwCl (zty κ) E 3 ({ frames := 0, cells := 0, slots := 0, locals := 0 } : Room)) (hEk : zEk E) (hin : ∀ (x0' : zM) (x1' : Int32), r = .inl (x0', x1') → zV X 0 0 (zwM κ ad x0') [(0, .ref (ad 0)), (1, .ref (ad 11)), (2, .int x1')] [] 2) (hout0 : ∀ (x0' : zM), r = .inr x0' → zV X 0 0 (zwM κ ad x0') [] [] 58) (h : xX12_passes_a11_L2   w0 w1 = some r) : zV X 0 0 (zwM κ ad w0) [(0, .ref (ad 0)), (1, .ref (ad 11)), (2, .int w1)] [] 2 := by
  unfold xX12_passes_a11_L2 at h
  refine zr_iload_n (pc := 2) hC 2 rfl rfl dX12_passes_2 ?_
  refine zr_aload_n (pc := 3) hC 1 rfl rfl dX12_passes_3 ?_
  refine zma_11 (pc := 4) hC dX12_passes_4 ?_
  refine zr_icmp_ge (pc := 5) (tgt := 58) hC dX12_passes_5 (by decide) (fun c1 => ?_) (fun c1 => ?_)
  · replace h := zip h c1
    obtain rfl := Option.some.inj h
    exact zV.sub (lv' := []) [] rfl (hout0 w0 rfl)
  · replace h := zin h c1
    refine zr_aload_n (pc := 8) hC 0 rfl rfl dX12_passes_8 ?_
    refine zmg_50 (pc := 9) hC hinX12_passes_a11_X12 flX12_passes_a11_330 dX12_passes_9 ?_
    refine zr_if_eq (pc := 12) (tgt := 30) hC dX12_passes_12 (by decide) (fun c2 => ?_) (fun c2 => ?_)
    · replace h := zip h c2
      refine zr_aload_n (pc := 30) hC 1 rfl rfl dX12_passes_30 ?_
      refine zr_iload_n (pc := 31) hC 2 rfl rfl dX12_passes_31 ?_
      refine zr_aload_n (pc := 32) hC 0 rfl rfl dX12_passes_32 ?_
      refine zmg_48 (pc := 33) hC hinX12_passes_a11_X12 flX12_passes_a11_108 dX12_passes_33 ?_
      refine zr_aload_n (pc := 36) hC 0 rfl rfl dX12_passes_36 ?_
      refine zmg_51 (pc := 37) hC hinX12_passes_a11_X12 flX12_passes_a11_334 dX12_passes_37 ?_
      obtain ⟨i3, h⟩ := zgd h
      refine zml_32 (pc := 40) hC i3 dX12_passes_40 ?_
      obtain ⟨i4, h⟩ := zgd h
      obtain ⟨M5, e6, h⟩ := zle h
      refine zms_11 (pc := 41) hC i4 e6 dX12_passes_41 ?_
      refine zr_aload_n (pc := 42) hC 0 rfl rfl dX12_passes_42 ?_
      refine zr_dup (pc := 43) hC rfl dX12_passes_43 ?_
      refine zmg_51 (pc := 44) hC hinX12_passes_a11_X12 flX12_passes_a11_334 dX12_passes_44 ?_
      refine zr_iconst (pc := 47) hC zki_1 dX12_passes_47 ?_
      refine zr_iadd (pc := 48) hC dX12_passes_48 ?_
      obtain ⟨M7, e8, h⟩ := zle h
      refine zmp_51 (pc := 49) hC hinX12_passes_a11_X12 flX12_passes_a11_334 e8 dX12_passes_49 ?_
      refine zr_iinc (pc := 52) (k := 2) (lv' := [(2, .int (w1 + (1 : Int32))), (0, .ref (ad 0)), (1, .ref (ad 11))]) hC zki_1 (by decide) rfl rfl dX12_passes_52 ?_
      refine zr_goto (pc := 55) (tgt := 2) hC dX12_passes_55 (by decide) ?_
      obtain rfl := Option.some.inj h
      exact zV.sub (lv' := [(0, .ref (ad 0)), (1, .ref (ad 11)), (2, .int (w1 + (1 : Int32)))]) [1, 2, 0] rfl (hin M7 (w1 + (1 : Int32)) rfl)
    · replace h := zin h c2
      refine zr_aload_n (pc := 15) hC 0 rfl rfl dX12_passes_15 ?_
      refine zmg_48 (pc := 16) hC hinX12_passes_a11_X12 flX12_passes_a11_108 dX12_passes_16 ?_
      refine zr_aload_n (pc := 19) hC 0 rfl rfl dX12_passes_19 ?_
      refine zmg_51 (pc := 20) hC hinX12_passes_a11_X12 flX12_passes_a11_334 dX12_passes_20 ?_
      refine zr_aload_n (pc := 23) hC 1 rfl rfl dX12_passes_23 ?_
      refine zr_iload_n (pc := 24) hC 2 rfl rfl dX12_passes_24 ?_
      obtain ⟨i9, h⟩ := zgd h
      refine zml_11 (pc := 25) hC i9 dX12_passes_25 ?_
      obtain ⟨i10, h⟩ := zgd h
      obtain ⟨M11, e12, h⟩ := zle h
      refine zms_32 (pc := 26) hC i10 e12 dX12_passes_26 ?_
      refine zr_goto (pc := 27) (tgt := 42) hC dX12_passes_27 (by decide) ?_
      refine zr_aload_n (pc := 42) hC 0 rfl rfl dX12_passes_42 ?_
      refine zr_dup (pc := 43) hC rfl dX12_passes_43 ?_
      refine zmg_51 (pc := 44) hC hinX12_passes_a11_X12 flX12_passes_a11_334 dX12_passes_44 ?_
      refine zr_iconst (pc := 47) hC zki_1 dX12_passes_47 ?_
      refine zr_iadd (pc := 48) hC dX12_passes_48 ?_
      obtain ⟨M13, e14, h⟩ := zle h
      refine zmp_51 (pc := 49) hC hinX12_passes_a11_X12 flX12_passes_a11_334 e14 dX12_passes_49 ?_
      refine zr_iinc (pc := 52) (k := 2) (lv' := [(2, .int (w1 + (1 : Int32))), (0, .ref (ad 0)), (1, .ref (ad 11))]) hC zki_1 (by decide) rfl rfl dX12_passes_52 ?_
      refine zr_goto (pc := 55) (tgt := 2) hC dX12_passes_55 (by decide) ?_
      obtain rfl := Option.some.inj h
      exact zV.sub (lv' := [(0, .ref (ad 0)), (1, .ref (ad 11)), (2, .int (w1 + (1 : Int32)))]) [1, 2, 0] rfl (hin M13 (w1 + (1 : Int32)) rfl)
def xX12_passes_a11 (M : zM)  : Option zM :=
  (x_it (fun a9 => xX12_passes_a11_L2 a9.1 a9.2) zFU (M, (0 : Int32))).bind fun q1 =>
  some q1
set_option maxHeartbeats 4000000 in
set_option maxRecDepth 100000 in
theorem tX12_passes_a11 {κ : Nat → ClassId} {E : zEn} {ad : Nat → Nat} (hEk : zEk E) {M : zM}  {res : zM} (h : xX12_passes_a11 M  = some res) (l : Launch) (D : va_G) : zCT E D vwCl (zty κ) l yX12_passes wsX12_passes ({ frames := 0, cells := 0, slots := 0, locals := 0 } : Room) 0 0 [.ref (ad 0), .ref (ad 11)] (zwM κ ad M) (zPd none (zwM κ ad res)) := by
  refine zCT.of (cc := cX12_passes) (maxL := 3) (ret := none) (by decide) rfl (Nat.le_of_ble_eq_true rfl) ?_
  intro X hC hR
  unfold xX12_passes_a11 at h
  refine zV.sub (lv' := [(0, .ref (ad 0)), (1, .ref (ad 11))]) [0, 1] rfl ?_
  refine zr_iconst (pc := 0) hC zki_0 dX12_passes_0 ?_
  refine zr_istore_n (pc := 1) (lv' := [(2, .int (0 : Int32)), (0, .ref (ad 0)), (1, .ref (ad 11))]) hC rfl (by decide) rfl dX12_passes_1 ?_
  obtain ⟨q1, hq1, h⟩ := zbd h
  refine zV.sub (lv' := [(0, .ref (ad 0)), (1, .ref (ad 11)), (2, .int (0 : Int32))]) [1, 2, 0] rfl ?_
  refine zit2 (Wp := fun (y0 : zM) (y1 : Int32) => zV X 0 0 (zwM κ ad y0) [(0, .ref (ad 0)), (1, .ref (ad 11)), (2, .int y1)] [] 2) (Ex := fun (b9 : zM) => zV X 0 0 (zwM κ ad b9) [] [] 58) (fun y0 y1 r9 hr hin hout => tX12_passes_a11_L2 hC hEk hin (fun z0 e9 => hout z0 e9) hr) zFU M (0 : Int32) q1 hq1 ?_
  show zV X 0 0 (zwM κ ad q1) [] [] 58
  obtain rfl := Option.some.inj h
  exact zr_vret hC hR ⟨rfl, rfl⟩ (Nat.le_refl _) (Nat.le_refl _) dX12_passes_58
/-! X12_passes_a28 -/
theorem flX12_passes_a28_108 : Cond.fieldLink RX12 108 "BeforeTheEndModel" "kept" "[I" ∈ wsX12_passes := by decide +kernel
theorem flX12_passes_a28_330 : Cond.fieldLink RX12 330 "BeforeTheEndModel" "isKeeping" "Z" ∈ wsX12_passes := by decide +kernel
theorem flX12_passes_a28_334 : Cond.fieldLink RX12 334 "BeforeTheEndModel" "cursor" "I" ∈ wsX12_passes := by decide +kernel
theorem hinX12_passes_a28_X12 : ∀ w ∈ wsX120, w ∈ wsX12_passes := fun _ h => List.mem_cons_of_mem _ (List.mem_append_right _ h)
def xX12_passes_a28_L2 (w0 : zM) (w1 : Int32) : Option ((zM × Int32) ⊕ zM) :=
  if (5 : Int32) ≤ w1 then
  (some (.inr w0))
  else
  if (w0.1 0 50) = 0 then
  (if ((w0.1 0 51) < 0 ∨ 140 ≤ (w0.1 0 51).toNatClampNeg) then none else
  if (w1 < 0 ∨ 5 ≤ w1.toNatClampNeg) then none else
  zlet (zsi w0 28 w1.toNatClampNeg (w0.1 32 (w0.1 0 51).toNatClampNeg)) fun M5 =>
  zlet (zsi M5 0 51 ((M5.1 0 51) + (1 : Int32))) fun M7 =>
  some (.inl (M7, (w1 + (1 : Int32)))))
  else
  if (w1 < 0 ∨ 5 ≤ w1.toNatClampNeg) then none else
  if ((w0.1 0 51) < 0 ∨ 140 ≤ (w0.1 0 51).toNatClampNeg) then none else
  zlet (zsi w0 32 (w0.1 0 51).toNatClampNeg (w0.1 28 w1.toNatClampNeg)) fun M11 =>
  zlet (zsi M11 0 51 ((M11.1 0 51) + (1 : Int32))) fun M13 =>
  some (.inl (M13, (w1 + (1 : Int32))))
set_option maxHeartbeats 4000000 in
set_option maxRecDepth 100000 in
theorem tX12_passes_a28_L2 {κ : Nat → ClassId} {E : zEn} {ad : Nat → Nat} {X : zX} {w0 : zM} {w1 : Int32} {r : ((zM × Int32) ⊕ zM)} (hC : zC X cX12_passes RX12 wsX12_passes vwCl (zty κ) E 3 ({ frames := 0, cells := 0, slots := 0, locals := 0 } : Room)) (hEk : zEk E) (hin : ∀ (x0' : zM) (x1' : Int32), r = .inl (x0', x1') → zV X 0 0 (zwM κ ad x0') [(0, .ref (ad 0)), (1, .ref (ad 28)), (2, .int x1')] [] 2) (hout0 : ∀ (x0' : zM), r = .inr x0' → zV X 0 0 (zwM κ ad x0') [] [] 58) (h : xX12_passes_a28_L2   w0 w1 = some r) : zV X 0 0 (zwM κ ad w0) [(0, .ref (ad 0)), (1, .ref (ad 28)), (2, .int w1)] [] 2 := by
  unfold xX12_passes_a28_L2 at h
  refine zr_iload_n (pc := 2) hC 2 rfl rfl dX12_passes_2 ?_
  refine zr_aload_n (pc := 3) hC 1 rfl rfl dX12_passes_3 ?_
  refine zma_28 (pc := 4) hC dX12_passes_4 ?_
  refine zr_icmp_ge (pc := 5) (tgt := 58) hC dX12_passes_5 (by decide) (fun c1 => ?_) (fun c1 => ?_)
  · replace h := zip h c1
    obtain rfl := Option.some.inj h
    exact zV.sub (lv' := []) [] rfl (hout0 w0 rfl)
  · replace h := zin h c1
    refine zr_aload_n (pc := 8) hC 0 rfl rfl dX12_passes_8 ?_
    refine zmg_50 (pc := 9) hC hinX12_passes_a28_X12 flX12_passes_a28_330 dX12_passes_9 ?_
    refine zr_if_eq (pc := 12) (tgt := 30) hC dX12_passes_12 (by decide) (fun c2 => ?_) (fun c2 => ?_)
    · replace h := zip h c2
      refine zr_aload_n (pc := 30) hC 1 rfl rfl dX12_passes_30 ?_
      refine zr_iload_n (pc := 31) hC 2 rfl rfl dX12_passes_31 ?_
      refine zr_aload_n (pc := 32) hC 0 rfl rfl dX12_passes_32 ?_
      refine zmg_48 (pc := 33) hC hinX12_passes_a28_X12 flX12_passes_a28_108 dX12_passes_33 ?_
      refine zr_aload_n (pc := 36) hC 0 rfl rfl dX12_passes_36 ?_
      refine zmg_51 (pc := 37) hC hinX12_passes_a28_X12 flX12_passes_a28_334 dX12_passes_37 ?_
      obtain ⟨i3, h⟩ := zgd h
      refine zml_32 (pc := 40) hC i3 dX12_passes_40 ?_
      obtain ⟨i4, h⟩ := zgd h
      obtain ⟨M5, e6, h⟩ := zle h
      refine zms_28 (pc := 41) hC i4 e6 dX12_passes_41 ?_
      refine zr_aload_n (pc := 42) hC 0 rfl rfl dX12_passes_42 ?_
      refine zr_dup (pc := 43) hC rfl dX12_passes_43 ?_
      refine zmg_51 (pc := 44) hC hinX12_passes_a28_X12 flX12_passes_a28_334 dX12_passes_44 ?_
      refine zr_iconst (pc := 47) hC zki_1 dX12_passes_47 ?_
      refine zr_iadd (pc := 48) hC dX12_passes_48 ?_
      obtain ⟨M7, e8, h⟩ := zle h
      refine zmp_51 (pc := 49) hC hinX12_passes_a28_X12 flX12_passes_a28_334 e8 dX12_passes_49 ?_
      refine zr_iinc (pc := 52) (k := 2) (lv' := [(2, .int (w1 + (1 : Int32))), (0, .ref (ad 0)), (1, .ref (ad 28))]) hC zki_1 (by decide) rfl rfl dX12_passes_52 ?_
      refine zr_goto (pc := 55) (tgt := 2) hC dX12_passes_55 (by decide) ?_
      obtain rfl := Option.some.inj h
      exact zV.sub (lv' := [(0, .ref (ad 0)), (1, .ref (ad 28)), (2, .int (w1 + (1 : Int32)))]) [1, 2, 0] rfl (hin M7 (w1 + (1 : Int32)) rfl)
    · replace h := zin h c2
      refine zr_aload_n (pc := 15) hC 0 rfl rfl dX12_passes_15 ?_
      refine zmg_48 (pc := 16) hC hinX12_passes_a28_X12 flX12_passes_a28_108 dX12_passes_16 ?_
      refine zr_aload_n (pc := 19) hC 0 rfl rfl dX12_passes_19 ?_
      refine zmg_51 (pc := 20) hC hinX12_passes_a28_X12 flX12_passes_a28_334 dX12_passes_20 ?_
      refine zr_aload_n (pc := 23) hC 1 rfl rfl dX12_passes_23 ?_
      refine zr_iload_n (pc := 24) hC 2 rfl rfl dX12_passes_24 ?_
      obtain ⟨i9, h⟩ := zgd h
      refine zml_28 (pc := 25) hC i9 dX12_passes_25 ?_
      obtain ⟨i10, h⟩ := zgd h
      obtain ⟨M11, e12, h⟩ := zle h
      refine zms_32 (pc := 26) hC i10 e12 dX12_passes_26 ?_
      refine zr_goto (pc := 27) (tgt := 42) hC dX12_passes_27 (by decide) ?_
      refine zr_aload_n (pc := 42) hC 0 rfl rfl dX12_passes_42 ?_
      refine zr_dup (pc := 43) hC rfl dX12_passes_43 ?_
      refine zmg_51 (pc := 44) hC hinX12_passes_a28_X12 flX12_passes_a28_334 dX12_passes_44 ?_
      refine zr_iconst (pc := 47) hC zki_1 dX12_passes_47 ?_
      refine zr_iadd (pc := 48) hC dX12_passes_48 ?_
      obtain ⟨M13, e14, h⟩ := zle h
      refine zmp_51 (pc := 49) hC hinX12_passes_a28_X12 flX12_passes_a28_334 e14 dX12_passes_49 ?_
      refine zr_iinc (pc := 52) (k := 2) (lv' := [(2, .int (w1 + (1 : Int32))), (0, .ref (ad 0)), (1, .ref (ad 28))]) hC zki_1 (by decide) rfl rfl dX12_passes_52 ?_
      refine zr_goto (pc := 55) (tgt := 2) hC dX12_passes_55 (by decide) ?_
      obtain rfl := Option.some.inj h
      exact zV.sub (lv' := [(0, .ref (ad 0)), (1, .ref (ad 28)), (2, .int (w1 + (1 : Int32)))]) [1, 2, 0] rfl (hin M13 (w1 + (1 : Int32)) rfl)
def xX12_passes_a28 (M : zM)  : Option zM :=
  (x_it (fun a9 => xX12_passes_a28_L2 a9.1 a9.2) zFU (M, (0 : Int32))).bind fun q1 =>
  some q1
set_option maxHeartbeats 4000000 in
set_option maxRecDepth 100000 in
theorem tX12_passes_a28 {κ : Nat → ClassId} {E : zEn} {ad : Nat → Nat} (hEk : zEk E) {M : zM}  {res : zM} (h : xX12_passes_a28 M  = some res) (l : Launch) (D : va_G) : zCT E D vwCl (zty κ) l yX12_passes wsX12_passes ({ frames := 0, cells := 0, slots := 0, locals := 0 } : Room) 0 0 [.ref (ad 0), .ref (ad 28)] (zwM κ ad M) (zPd none (zwM κ ad res)) := by
  refine zCT.of (cc := cX12_passes) (maxL := 3) (ret := none) (by decide) rfl (Nat.le_of_ble_eq_true rfl) ?_
  intro X hC hR
  unfold xX12_passes_a28 at h
  refine zV.sub (lv' := [(0, .ref (ad 0)), (1, .ref (ad 28))]) [0, 1] rfl ?_
  refine zr_iconst (pc := 0) hC zki_0 dX12_passes_0 ?_
  refine zr_istore_n (pc := 1) (lv' := [(2, .int (0 : Int32)), (0, .ref (ad 0)), (1, .ref (ad 28))]) hC rfl (by decide) rfl dX12_passes_1 ?_
  obtain ⟨q1, hq1, h⟩ := zbd h
  refine zV.sub (lv' := [(0, .ref (ad 0)), (1, .ref (ad 28)), (2, .int (0 : Int32))]) [1, 2, 0] rfl ?_
  refine zit2 (Wp := fun (y0 : zM) (y1 : Int32) => zV X 0 0 (zwM κ ad y0) [(0, .ref (ad 0)), (1, .ref (ad 28)), (2, .int y1)] [] 2) (Ex := fun (b9 : zM) => zV X 0 0 (zwM κ ad b9) [] [] 58) (fun y0 y1 r9 hr hin hout => tX12_passes_a28_L2 hC hEk hin (fun z0 e9 => hout z0 e9) hr) zFU M (0 : Int32) q1 hq1 ?_
  show zV X 0 0 (zwM κ ad q1) [] [] 58
  obtain rfl := Option.some.inj h
  exact zr_vret hC hR ⟨rfl, rfl⟩ (Nat.le_refl _) (Nat.le_refl _) dX12_passes_58
/-! X12_passesAll -/
theorem hyX12_passesAll : yX12_passesAll.cls = RX12 ∧ yX12_passesAll.cls ≠ "java/lang/invoke/MethodHandle" ∧ yX12_passesAll.cls ≠ "java/lang/invoke/VarHandle" ∧ (parseMethodDescriptor yX12_passesAll.desc).map (fun d => d.parameters.length) = some 0 := by decide +kernel
theorem flX12_passesAll_114 : Cond.fieldLink RX12 114 "BeforeTheEndModel" "players" "I" ∈ wsX12_passesAll := by decide +kernel
theorem flX12_passesAll_13 : Cond.fieldLink RX12 13 "BeforeTheEndModel" "parent" "[I" ∈ wsX12_passesAll := by decide +kernel
theorem flX12_passesAll_16 : Cond.fieldLink RX12 16 "BeforeTheEndModel" "weight" "[I" ∈ wsX12_passesAll := by decide +kernel
theorem flX12_passesAll_19 : Cond.fieldLink RX12 19 "BeforeTheEndModel" "answer" "[I" ∈ wsX12_passesAll := by decide +kernel
theorem flX12_passesAll_22 : Cond.fieldLink RX12 22 "BeforeTheEndModel" "length" "[I" ∈ wsX12_passesAll := by decide +kernel
theorem flX12_passesAll_25 : Cond.fieldLink RX12 25 "BeforeTheEndModel" "kind" "[I" ∈ wsX12_passesAll := by decide +kernel
theorem flX12_passesAll_28 : Cond.fieldLink RX12 28 "BeforeTheEndModel" "knows" "[I" ∈ wsX12_passesAll := by decide +kernel
theorem flX12_passesAll_299 : Cond.fieldLink RX12 299 "BeforeTheEndModel" "facts" "I" ∈ wsX12_passesAll := by decide +kernel
theorem flX12_passesAll_31 : Cond.fieldLink RX12 31 "BeforeTheEndModel" "hand" "[I" ∈ wsX12_passesAll := by decide +kernel
theorem flX12_passesAll_334 : Cond.fieldLink RX12 334 "BeforeTheEndModel" "cursor" "I" ∈ wsX12_passesAll := by decide +kernel
theorem flX12_passesAll_34 : Cond.fieldLink RX12 34 "BeforeTheEndModel" "sure" "[I" ∈ wsX12_passesAll := by decide +kernel
theorem flX12_passesAll_37 : Cond.fieldLink RX12 37 "BeforeTheEndModel" "told" "[I" ∈ wsX12_passesAll := by decide +kernel
theorem flX12_passesAll_40 : Cond.fieldLink RX12 40 "BeforeTheEndModel" "points" "[I" ∈ wsX12_passesAll := by decide +kernel
theorem flX12_passesAll_46 : Cond.fieldLink RX12 46 "BeforeTheEndModel" "words" "I" ∈ wsX12_passesAll := by decide +kernel
theorem flX12_passesAll_96 : Cond.fieldLink RX12 96 "BeforeTheEndModel" "fact" "[I" ∈ wsX12_passesAll := by decide +kernel
theorem hinX12_passesAll_X12 : ∀ w ∈ wsX120, w ∈ wsX12_passesAll := fun _ h => List.mem_cons_of_mem _ (List.mem_append_right _ h)
def xX12_passesAll (M : zM)  : Option zM :=
  zlet (zsi M 0 51 (0 : Int32)) fun M1 =>
  (xX12_passes_a2 M1).bind fun q3 =>
  (xX12_passes_a3 q3).bind fun q4 =>
  (xX12_passes_a4 q4).bind fun q5 =>
  (xX12_passes_a5 q5).bind fun q6 =>
  (xX12_passes_a6 q6).bind fun q7 =>
  (xX12_passes_a7 q7).bind fun q8 =>
  (xX12_passes_a8 q8).bind fun q9 =>
  (xX12_passes_a9 q9).bind fun q10 =>
  (xX12_passes_a10 q10).bind fun q11 =>
  (xX12_passes_a11 q11).bind fun q12 =>
  (xX12_passes_a28 q12).bind fun q13 =>
  (xX12_passOne q13 (q13.1 0 12)).bind fun q14 =>
  zlet (zsi q14.2 0 12 q14.1) fun M15 =>
  (xX12_passOne M15 (M15.1 0 13)).bind fun q17 =>
  zlet (zsi q17.2 0 13 q17.1) fun M18 =>
  (xX12_passOne M18 (M18.1 0 44)).bind fun q20 =>
  zlet (zsi q20.2 0 44 q20.1) fun M21 =>
  some M21
set_option maxHeartbeats 4000000 in
set_option maxRecDepth 100000 in
theorem tX12_passesAll {κ : Nat → ClassId} {E : zEn} {ad : Nat → Nat} (hEk : zEk E) {M : zM}  {res : zM} (h : xX12_passesAll M  = some res) (l : Launch) (D : va_G) : zCT E D vwCl (zty κ) l yX12_passesAll wsX12_passesAll ({ frames := 1, cells := 0, slots := 0, locals := 22 } : Room) 0 0 [.ref (ad 0)] (zwM κ ad M) (zPd none (zwM κ ad res)) := by
  refine zCT.of (cc := cX12_passesAll) (maxL := 1) (ret := none) (by decide) rfl (Nat.le_of_ble_eq_true rfl) ?_
  intro X hC hR
  unfold xX12_passesAll at h
  refine zV.sub (lv' := [(0, .ref (ad 0))]) [0] rfl ?_
  refine zr_aload_n (pc := 0) hC 0 rfl rfl dX12_passesAll_0 ?_
  refine zr_iconst (pc := 1) hC zki_0 dX12_passesAll_1 ?_
  obtain ⟨M1, e2, h⟩ := zle h
  refine zmp_51 (pc := 2) hC hinX12_passesAll_X12 flX12_passesAll_334 e2 dX12_passesAll_2 ?_
  refine zr_aload_n (pc := 5) hC 0 rfl rfl dX12_passesAll_5 ?_
  refine zr_aload_n (pc := 6) hC 0 rfl rfl dX12_passesAll_6 ?_
  refine zmg_1 (pc := 7) hC hinX12_passesAll_X12 flX12_passesAll_13 dX12_passesAll_7 ?_
  obtain ⟨q3, hq3, h⟩ := zbd h
  refine zr_cVv (pc := 10) hC hEk [.ref (ad 2)] [] 0 1 (fun l D => tX12_passes_a2 hEk hq3 l D) gX12_passesAll_X12_passes rfl rfl rfl ⟨Nat.le_of_ble_eq_true rfl, Nat.le_of_ble_eq_true rfl⟩ hyX12_passes (by decide) entM_0 rfl rfl rfl (Nat.le_of_ble_eq_true rfl) ⟨Nat.le_of_ble_eq_true rfl, Nat.le_of_ble_eq_true rfl⟩ dX12_passesAll_10 ?_
  refine zr_aload_n (pc := 13) hC 0 rfl rfl dX12_passesAll_13 ?_
  refine zr_aload_n (pc := 14) hC 0 rfl rfl dX12_passesAll_14 ?_
  refine zmg_2 (pc := 15) hC hinX12_passesAll_X12 flX12_passesAll_16 dX12_passesAll_15 ?_
  obtain ⟨q4, hq4, h⟩ := zbd h
  refine zr_cVv (pc := 18) hC hEk [.ref (ad 3)] [] 0 1 (fun l D => tX12_passes_a3 hEk hq4 l D) gX12_passesAll_X12_passes rfl rfl rfl ⟨Nat.le_of_ble_eq_true rfl, Nat.le_of_ble_eq_true rfl⟩ hyX12_passes (by decide) entM_0 rfl rfl rfl (Nat.le_of_ble_eq_true rfl) ⟨Nat.le_of_ble_eq_true rfl, Nat.le_of_ble_eq_true rfl⟩ dX12_passesAll_18 ?_
  refine zr_aload_n (pc := 21) hC 0 rfl rfl dX12_passesAll_21 ?_
  refine zr_aload_n (pc := 22) hC 0 rfl rfl dX12_passesAll_22 ?_
  refine zmg_3 (pc := 23) hC hinX12_passesAll_X12 flX12_passesAll_19 dX12_passesAll_23 ?_
  obtain ⟨q5, hq5, h⟩ := zbd h
  refine zr_cVv (pc := 26) hC hEk [.ref (ad 4)] [] 0 1 (fun l D => tX12_passes_a4 hEk hq5 l D) gX12_passesAll_X12_passes rfl rfl rfl ⟨Nat.le_of_ble_eq_true rfl, Nat.le_of_ble_eq_true rfl⟩ hyX12_passes (by decide) entM_0 rfl rfl rfl (Nat.le_of_ble_eq_true rfl) ⟨Nat.le_of_ble_eq_true rfl, Nat.le_of_ble_eq_true rfl⟩ dX12_passesAll_26 ?_
  refine zr_aload_n (pc := 29) hC 0 rfl rfl dX12_passesAll_29 ?_
  refine zr_aload_n (pc := 30) hC 0 rfl rfl dX12_passesAll_30 ?_
  refine zmg_4 (pc := 31) hC hinX12_passesAll_X12 flX12_passesAll_22 dX12_passesAll_31 ?_
  obtain ⟨q6, hq6, h⟩ := zbd h
  refine zr_cVv (pc := 34) hC hEk [.ref (ad 5)] [] 0 1 (fun l D => tX12_passes_a5 hEk hq6 l D) gX12_passesAll_X12_passes rfl rfl rfl ⟨Nat.le_of_ble_eq_true rfl, Nat.le_of_ble_eq_true rfl⟩ hyX12_passes (by decide) entM_0 rfl rfl rfl (Nat.le_of_ble_eq_true rfl) ⟨Nat.le_of_ble_eq_true rfl, Nat.le_of_ble_eq_true rfl⟩ dX12_passesAll_34 ?_
  refine zr_aload_n (pc := 37) hC 0 rfl rfl dX12_passesAll_37 ?_
  refine zr_aload_n (pc := 38) hC 0 rfl rfl dX12_passesAll_38 ?_
  refine zmg_5 (pc := 39) hC hinX12_passesAll_X12 flX12_passesAll_25 dX12_passesAll_39 ?_
  obtain ⟨q7, hq7, h⟩ := zbd h
  refine zr_cVv (pc := 42) hC hEk [.ref (ad 6)] [] 0 1 (fun l D => tX12_passes_a6 hEk hq7 l D) gX12_passesAll_X12_passes rfl rfl rfl ⟨Nat.le_of_ble_eq_true rfl, Nat.le_of_ble_eq_true rfl⟩ hyX12_passes (by decide) entM_0 rfl rfl rfl (Nat.le_of_ble_eq_true rfl) ⟨Nat.le_of_ble_eq_true rfl, Nat.le_of_ble_eq_true rfl⟩ dX12_passesAll_42 ?_
  refine zr_aload_n (pc := 45) hC 0 rfl rfl dX12_passesAll_45 ?_
  refine zr_aload_n (pc := 46) hC 0 rfl rfl dX12_passesAll_46 ?_
  refine zmg_6 (pc := 47) hC hinX12_passesAll_X12 flX12_passesAll_28 dX12_passesAll_47 ?_
  obtain ⟨q8, hq8, h⟩ := zbd h
  refine zr_cVv (pc := 50) hC hEk [.ref (ad 7)] [] 0 1 (fun l D => tX12_passes_a7 hEk hq8 l D) gX12_passesAll_X12_passes rfl rfl rfl ⟨Nat.le_of_ble_eq_true rfl, Nat.le_of_ble_eq_true rfl⟩ hyX12_passes (by decide) entM_0 rfl rfl rfl (Nat.le_of_ble_eq_true rfl) ⟨Nat.le_of_ble_eq_true rfl, Nat.le_of_ble_eq_true rfl⟩ dX12_passesAll_50 ?_
  refine zr_aload_n (pc := 53) hC 0 rfl rfl dX12_passesAll_53 ?_
  refine zr_aload_n (pc := 54) hC 0 rfl rfl dX12_passesAll_54 ?_
  refine zmg_7 (pc := 55) hC hinX12_passesAll_X12 flX12_passesAll_31 dX12_passesAll_55 ?_
  obtain ⟨q9, hq9, h⟩ := zbd h
  refine zr_cVv (pc := 58) hC hEk [.ref (ad 8)] [] 0 1 (fun l D => tX12_passes_a8 hEk hq9 l D) gX12_passesAll_X12_passes rfl rfl rfl ⟨Nat.le_of_ble_eq_true rfl, Nat.le_of_ble_eq_true rfl⟩ hyX12_passes (by decide) entM_0 rfl rfl rfl (Nat.le_of_ble_eq_true rfl) ⟨Nat.le_of_ble_eq_true rfl, Nat.le_of_ble_eq_true rfl⟩ dX12_passesAll_58 ?_
  refine zr_aload_n (pc := 61) hC 0 rfl rfl dX12_passesAll_61 ?_
  refine zr_aload_n (pc := 62) hC 0 rfl rfl dX12_passesAll_62 ?_
  refine zmg_8 (pc := 63) hC hinX12_passesAll_X12 flX12_passesAll_34 dX12_passesAll_63 ?_
  obtain ⟨q10, hq10, h⟩ := zbd h
  refine zr_cVv (pc := 66) hC hEk [.ref (ad 9)] [] 0 1 (fun l D => tX12_passes_a9 hEk hq10 l D) gX12_passesAll_X12_passes rfl rfl rfl ⟨Nat.le_of_ble_eq_true rfl, Nat.le_of_ble_eq_true rfl⟩ hyX12_passes (by decide) entM_0 rfl rfl rfl (Nat.le_of_ble_eq_true rfl) ⟨Nat.le_of_ble_eq_true rfl, Nat.le_of_ble_eq_true rfl⟩ dX12_passesAll_66 ?_
  refine zr_aload_n (pc := 69) hC 0 rfl rfl dX12_passesAll_69 ?_
  refine zr_aload_n (pc := 70) hC 0 rfl rfl dX12_passesAll_70 ?_
  refine zmg_9 (pc := 71) hC hinX12_passesAll_X12 flX12_passesAll_37 dX12_passesAll_71 ?_
  obtain ⟨q11, hq11, h⟩ := zbd h
  refine zr_cVv (pc := 74) hC hEk [.ref (ad 10)] [] 0 1 (fun l D => tX12_passes_a10 hEk hq11 l D) gX12_passesAll_X12_passes rfl rfl rfl ⟨Nat.le_of_ble_eq_true rfl, Nat.le_of_ble_eq_true rfl⟩ hyX12_passes (by decide) entM_0 rfl rfl rfl (Nat.le_of_ble_eq_true rfl) ⟨Nat.le_of_ble_eq_true rfl, Nat.le_of_ble_eq_true rfl⟩ dX12_passesAll_74 ?_
  refine zr_aload_n (pc := 77) hC 0 rfl rfl dX12_passesAll_77 ?_
  refine zr_aload_n (pc := 78) hC 0 rfl rfl dX12_passesAll_78 ?_
  refine zmg_10 (pc := 79) hC hinX12_passesAll_X12 flX12_passesAll_40 dX12_passesAll_79 ?_
  obtain ⟨q12, hq12, h⟩ := zbd h
  refine zr_cVv (pc := 82) hC hEk [.ref (ad 11)] [] 0 1 (fun l D => tX12_passes_a11 hEk hq12 l D) gX12_passesAll_X12_passes rfl rfl rfl ⟨Nat.le_of_ble_eq_true rfl, Nat.le_of_ble_eq_true rfl⟩ hyX12_passes (by decide) entM_0 rfl rfl rfl (Nat.le_of_ble_eq_true rfl) ⟨Nat.le_of_ble_eq_true rfl, Nat.le_of_ble_eq_true rfl⟩ dX12_passesAll_82 ?_
  refine zr_aload_n (pc := 85) hC 0 rfl rfl dX12_passesAll_85 ?_
  refine zr_aload_n (pc := 86) hC 0 rfl rfl dX12_passesAll_86 ?_
  refine zmg_41 (pc := 87) hC hinX12_passesAll_X12 flX12_passesAll_96 dX12_passesAll_87 ?_
  obtain ⟨q13, hq13, h⟩ := zbd h
  refine zr_cVv (pc := 90) hC hEk [.ref (ad 28)] [] 0 1 (fun l D => tX12_passes_a28 hEk hq13 l D) gX12_passesAll_X12_passes rfl rfl rfl ⟨Nat.le_of_ble_eq_true rfl, Nat.le_of_ble_eq_true rfl⟩ hyX12_passes (by decide) entM_0 rfl rfl rfl (Nat.le_of_ble_eq_true rfl) ⟨Nat.le_of_ble_eq_true rfl, Nat.le_of_ble_eq_true rfl⟩ dX12_passesAll_90 ?_
  refine zr_aload_n (pc := 93) hC 0 rfl rfl dX12_passesAll_93 ?_
  refine zr_aload_n (pc := 94) hC 0 rfl rfl dX12_passesAll_94 ?_
  refine zr_aload_n (pc := 95) hC 0 rfl rfl dX12_passesAll_95 ?_
  refine zmg_12 (pc := 96) hC hinX12_passesAll_X12 flX12_passesAll_46 dX12_passesAll_96 ?_
  obtain ⟨q14, hq14, h⟩ := zbd h
  refine zr_cVi (pc := 99) hC hEk [.int (q13.1 0 12)] [.ref (ad 0)] 0 1 (fun l D => tX12_passOne hEk hq14 l D) gX12_passesAll_X12_passOne rfl rfl rfl ⟨Nat.le_of_ble_eq_true rfl, Nat.le_of_ble_eq_true rfl⟩ hyX12_passOne (by decide) entM_0 rfl rfl rfl (Nat.le_of_ble_eq_true rfl) ⟨Nat.le_of_ble_eq_true rfl, Nat.le_of_ble_eq_true rfl⟩ dX12_passesAll_99 ?_
  obtain ⟨M15, e16, h⟩ := zle h
  refine zmp_12 (pc := 102) hC hinX12_passesAll_X12 flX12_passesAll_46 e16 dX12_passesAll_102 ?_
  refine zr_aload_n (pc := 105) hC 0 rfl rfl dX12_passesAll_105 ?_
  refine zr_aload_n (pc := 106) hC 0 rfl rfl dX12_passesAll_106 ?_
  refine zr_aload_n (pc := 107) hC 0 rfl rfl dX12_passesAll_107 ?_
  refine zmg_13 (pc := 108) hC hinX12_passesAll_X12 flX12_passesAll_114 dX12_passesAll_108 ?_
  obtain ⟨q17, hq17, h⟩ := zbd h
  refine zr_cVi (pc := 111) hC hEk [.int (M15.1 0 13)] [.ref (ad 0)] 0 1 (fun l D => tX12_passOne hEk hq17 l D) gX12_passesAll_X12_passOne rfl rfl rfl ⟨Nat.le_of_ble_eq_true rfl, Nat.le_of_ble_eq_true rfl⟩ hyX12_passOne (by decide) entM_0 rfl rfl rfl (Nat.le_of_ble_eq_true rfl) ⟨Nat.le_of_ble_eq_true rfl, Nat.le_of_ble_eq_true rfl⟩ dX12_passesAll_111 ?_
  obtain ⟨M18, e19, h⟩ := zle h
  refine zmp_13 (pc := 114) hC hinX12_passesAll_X12 flX12_passesAll_114 e19 dX12_passesAll_114 ?_
  refine zr_aload_n (pc := 117) hC 0 rfl rfl dX12_passesAll_117 ?_
  refine zr_aload_n (pc := 118) hC 0 rfl rfl dX12_passesAll_118 ?_
  refine zr_aload_n (pc := 119) hC 0 rfl rfl dX12_passesAll_119 ?_
  refine zmg_44 (pc := 120) hC hinX12_passesAll_X12 flX12_passesAll_299 dX12_passesAll_120 ?_
  obtain ⟨q20, hq20, h⟩ := zbd h
  refine zr_cVi (pc := 123) hC hEk [.int (M18.1 0 44)] [.ref (ad 0)] 0 1 (fun l D => tX12_passOne hEk hq20 l D) gX12_passesAll_X12_passOne rfl rfl rfl ⟨Nat.le_of_ble_eq_true rfl, Nat.le_of_ble_eq_true rfl⟩ hyX12_passOne (by decide) entM_0 rfl rfl rfl (Nat.le_of_ble_eq_true rfl) ⟨Nat.le_of_ble_eq_true rfl, Nat.le_of_ble_eq_true rfl⟩ dX12_passesAll_123 ?_
  obtain ⟨M21, e22, h⟩ := zle h
  refine zmp_44 (pc := 126) hC hinX12_passesAll_X12 flX12_passesAll_299 e22 dX12_passesAll_126 ?_
  obtain rfl := Option.some.inj h
  exact zr_vret hC hR ⟨rfl, rfl⟩ (Nat.le_refl _) (Nat.le_refl _) dX12_passesAll_129
/-! X12_image -/
theorem hyX12_image : yX12_image.cls = RX12 ∧ yX12_image.cls ≠ "java/lang/invoke/MethodHandle" ∧ yX12_image.cls ≠ "java/lang/invoke/VarHandle" ∧ (parseMethodDescriptor yX12_image.desc).map (fun d => d.parameters.length) = some 0 := by decide +kernel
theorem flX12_image_330 : Cond.fieldLink RX12 330 "BeforeTheEndModel" "isKeeping" "Z" ∈ wsX12_image := by decide +kernel
theorem flX12_image_344 : Cond.fieldLink RX12 344 "BeforeTheEndModel" "hasImage" "Z" ∈ wsX12_image := by decide +kernel
theorem flX12_image_46 : Cond.fieldLink RX12 46 "BeforeTheEndModel" "words" "I" ∈ wsX12_image := by decide +kernel
theorem hinX12_image_X12 : ∀ w ∈ wsX120, w ∈ wsX12_image := fun _ h => List.mem_cons_of_mem _ (List.mem_append_right _ h)
def xX12_image (M : zM)  : Option (Int32 × zM) :=
  zlet (zsi M 0 50 (1 : Int32)) fun M1 =>
  zlet (zsi M1 0 49 (1 : Int32)) fun M3 =>
  (xX12_passesAll M3).bind fun q5 =>
  some ((q5.1 0 12), q5)
set_option maxHeartbeats 4000000 in
set_option maxRecDepth 100000 in
theorem tX12_image {κ : Nat → ClassId} {E : zEn} {ad : Nat → Nat} (hEk : zEk E) {M : zM}  {res : (Int32 × zM)} (h : xX12_image M  = some res) (l : Launch) (D : va_G) : zCT E D vwCl (zty κ) l yX12_image wsX12_image ({ frames := 2, cells := 0, slots := 0, locals := 42 } : Room) 0 0 [.ref (ad 0)] (zwM κ ad M) (zPd (some (.int res.1)) (zwM κ ad res.2)) := by
  refine zCT.of (cc := cX12_image) (maxL := 1) (ret := (some .int)) (by decide) rfl (Nat.le_of_ble_eq_true rfl) ?_
  intro X hC hR
  unfold xX12_image at h
  refine zV.sub (lv' := [(0, .ref (ad 0))]) [0] rfl ?_
  refine zr_aload_n (pc := 0) hC 0 rfl rfl dX12_image_0 ?_
  refine zr_iconst (pc := 1) hC zki_1 dX12_image_1 ?_
  obtain ⟨M1, e2, h⟩ := zle h
  refine zmp_50 (pc := 2) hC hinX12_image_X12 flX12_image_330 (by decide) e2 dX12_image_2 ?_
  refine zr_aload_n (pc := 5) hC 0 rfl rfl dX12_image_5 ?_
  refine zr_iconst (pc := 6) hC zki_1 dX12_image_6 ?_
  obtain ⟨M3, e4, h⟩ := zle h
  refine zmp_49 (pc := 7) hC hinX12_image_X12 flX12_image_344 (by decide) e4 dX12_image_7 ?_
  refine zr_aload_n (pc := 10) hC 0 rfl rfl dX12_image_10 ?_
  obtain ⟨q5, hq5, h⟩ := zbd h
  refine zr_cVv (pc := 11) hC hEk [] [] 0 0 (fun l D => tX12_passesAll hEk hq5 l D) gX12_image_X12_passesAll rfl rfl rfl ⟨Nat.le_of_ble_eq_true rfl, Nat.le_of_ble_eq_true rfl⟩ hyX12_passesAll (by decide) entM_0 rfl rfl rfl (Nat.le_of_ble_eq_true rfl) ⟨Nat.le_of_ble_eq_true rfl, Nat.le_of_ble_eq_true rfl⟩ dX12_image_11 ?_
  refine zr_aload_n (pc := 14) hC 0 rfl rfl dX12_image_14 ?_
  refine zmg_12 (pc := 15) hC hinX12_image_X12 flX12_image_46 dX12_image_15 ?_
  obtain rfl := Option.some.inj h
  exact zr_iret hC hR ⟨rfl, rfl⟩ (Nat.le_refl _) (Nat.le_refl _) dX12_image_18
/-! X12_on -/
theorem hyX12_on : yX12_on.cls = RX12 ∧ yX12_on.cls ≠ "java/lang/invoke/MethodHandle" ∧ yX12_on.cls ≠ "java/lang/invoke/VarHandle" ∧ (parseMethodDescriptor yX12_on.desc).map (fun d => d.parameters.length) = some 0 := by decide +kernel
theorem flX12_on_330 : Cond.fieldLink RX12 330 "BeforeTheEndModel" "isKeeping" "Z" ∈ wsX12_on := by decide +kernel
theorem flX12_on_344 : Cond.fieldLink RX12 344 "BeforeTheEndModel" "hasImage" "Z" ∈ wsX12_on := by decide +kernel
theorem flX12_on_46 : Cond.fieldLink RX12 46 "BeforeTheEndModel" "words" "I" ∈ wsX12_on := by decide +kernel
theorem hinX12_on_X12 : ∀ w ∈ wsX120, w ∈ wsX12_on := fun _ h => List.mem_cons_of_mem _ (List.mem_append_right _ h)
def xX12_on (M : zM)  : Option (Int32 × zM) :=
  if (M.1 0 49) = 0 then
  ((xX12_no M (-3 : Int32)).bind fun q5 =>
  some (q5.1, q5.2))
  else
  zlet (zsi M 0 50 (0 : Int32)) fun M2 =>
  (xX12_passesAll M2).bind fun q4 =>
  some ((q4.1 0 12), q4)
set_option maxHeartbeats 4000000 in
set_option maxRecDepth 100000 in
theorem tX12_on {κ : Nat → ClassId} {E : zEn} {ad : Nat → Nat} (hEk : zEk E) {M : zM}  {res : (Int32 × zM)} (h : xX12_on M  = some res) (l : Launch) (D : va_G) : zCT E D vwCl (zty κ) l yX12_on wsX12_on ({ frames := 2, cells := 0, slots := 0, locals := 42 } : Room) 0 0 [.ref (ad 0)] (zwM κ ad M) (zPd (some (.int res.1)) (zwM κ ad res.2)) := by
  refine zCT.of (cc := cX12_on) (maxL := 1) (ret := (some .int)) (by decide) rfl (Nat.le_of_ble_eq_true rfl) ?_
  intro X hC hR
  unfold xX12_on at h
  refine zV.sub (lv' := [(0, .ref (ad 0))]) [0] rfl ?_
  refine zr_aload_n (pc := 0) hC 0 rfl rfl dX12_on_0 ?_
  refine zmg_49 (pc := 1) hC hinX12_on_X12 flX12_on_344 dX12_on_1 ?_
  refine zr_if_ne (pc := 4) (tgt := 14) hC dX12_on_4 (by decide) (fun c1 => ?_) (fun c1 => ?_)
  · replace h := zin h c1
    refine zr_aload_n (pc := 14) hC 0 rfl rfl dX12_on_14 ?_
    refine zr_iconst (pc := 15) hC zki_0 dX12_on_15 ?_
    obtain ⟨M2, e3, h⟩ := zle h
    refine zmp_50 (pc := 16) hC hinX12_on_X12 flX12_on_330 (by decide) e3 dX12_on_16 ?_
    refine zr_aload_n (pc := 19) hC 0 rfl rfl dX12_on_19 ?_
    obtain ⟨q4, hq4, h⟩ := zbd h
    refine zr_cVv (pc := 20) hC hEk [] [] 0 0 (fun l D => tX12_passesAll hEk hq4 l D) gX12_on_X12_passesAll rfl rfl rfl ⟨Nat.le_of_ble_eq_true rfl, Nat.le_of_ble_eq_true rfl⟩ hyX12_passesAll (by decide) entM_0 rfl rfl rfl (Nat.le_of_ble_eq_true rfl) ⟨Nat.le_of_ble_eq_true rfl, Nat.le_of_ble_eq_true rfl⟩ dX12_on_20 ?_
    refine zr_aload_n (pc := 23) hC 0 rfl rfl dX12_on_23 ?_
    refine zmg_12 (pc := 24) hC hinX12_on_X12 flX12_on_46 dX12_on_24 ?_
    obtain rfl := Option.some.inj h
    exact zr_iret hC hR ⟨rfl, rfl⟩ (Nat.le_refl _) (Nat.le_refl _) dX12_on_27
  · replace h := zip h c1
    refine zr_aload_n (pc := 7) hC 0 rfl rfl dX12_on_7 ?_
    refine zr_bipush (pc := 8) hC zkb_m3 dX12_on_8 ?_
    obtain ⟨q5, hq5, h⟩ := zbd h
    refine zr_cVi (pc := 10) hC hEk [.int (-3 : Int32)] [] 0 1 (fun l D => tX12_no hEk hq5 l D) gX12_on_X12_no rfl rfl rfl ⟨Nat.le_of_ble_eq_true rfl, Nat.le_of_ble_eq_true rfl⟩ hyX12_no (by decide) entM_0 rfl rfl rfl (Nat.le_of_ble_eq_true rfl) ⟨Nat.le_of_ble_eq_true rfl, Nat.le_of_ble_eq_true rfl⟩ dX12_on_10 ?_
    obtain rfl := Option.some.inj h
    exact zr_iret hC hR ⟨rfl, rfl⟩ (Nat.le_refl _) (Nat.le_refl _) dX12_on_13
/-! X12_count -/
theorem hyX12_count : yX12_count.cls = RX12 ∧ yX12_count.cls ≠ "java/lang/invoke/MethodHandle" ∧ yX12_count.cls ≠ "java/lang/invoke/VarHandle" ∧ (parseMethodDescriptor yX12_count.desc).map (fun d => d.parameters.length) = some 1 := by decide +kernel
theorem flX12_count_114 : Cond.fieldLink RX12 114 "BeforeTheEndModel" "players" "I" ∈ wsX12_count := by decide +kernel
theorem flX12_count_125 : Cond.fieldLink RX12 125 "BeforeTheEndModel" "taped" "I" ∈ wsX12_count := by decide +kernel
theorem flX12_count_19 : Cond.fieldLink RX12 19 "BeforeTheEndModel" "answer" "[I" ∈ wsX12_count := by decide +kernel
theorem flX12_count_299 : Cond.fieldLink RX12 299 "BeforeTheEndModel" "facts" "I" ∈ wsX12_count := by decide +kernel
theorem flX12_count_327 : Cond.fieldLink RX12 327 "BeforeTheEndModel" "rowMany" "I" ∈ wsX12_count := by decide +kernel
theorem flX12_count_46 : Cond.fieldLink RX12 46 "BeforeTheEndModel" "words" "I" ∈ wsX12_count := by decide +kernel
theorem flX12_count_7 : Cond.fieldLink RX12 7 "BeforeTheEndModel" "refused" "[I" ∈ wsX12_count := by decide +kernel
theorem hinX12_count_X12 : ∀ w ∈ wsX120, w ∈ wsX12_count := fun _ h => List.mem_cons_of_mem _ (List.mem_append_right _ h)
def xX12_count_L76 (M : zM) (w0 : Int32) (w1 : Int32) : Option ((Int32 × Int32) ⊕ Int32) :=
  if (M.1 0 12) ≤ w1 then
  (some (.inr w0))
  else
  if (w1 < 0 ∨ 24 ≤ w1.toNatClampNeg) then none else
  if (M.1 4 w1.toNatClampNeg) = 0 then
  (zlet (w0 + (0 : Int32)) fun z4 =>
  some (.inl (z4, (w1 + (1 : Int32)))))
  else
  zlet (w0 + (1 : Int32)) fun z6 =>
  some (.inl (z6, (w1 + (1 : Int32))))
set_option maxHeartbeats 4000000 in
set_option maxRecDepth 100000 in
theorem tX12_count_L76 {κ : Nat → ClassId} {E : zEn} {ad : Nat → Nat} {X : zX} {M : zM} {w0 : Int32} {w1 : Int32} {r : ((Int32 × Int32) ⊕ Int32)} (hC : zC X cX12_count RX12 wsX12_count vwCl (zty κ) E 4 ({ frames := 1, cells := 0, slots := 0, locals := 22 } : Room)) (hEk : zEk E) (hin : ∀ (x0' : Int32) (x1' : Int32), r = .inl (x0', x1') → zV X 0 0 (zwM κ ad M) [(0, .ref (ad 0)), (2, .int x0'), (3, .int x1')] [] 76) (hout0 : ∀ (x0' : Int32), r = .inr x0' → zV X 0 0 (zwM κ ad M) [(2, .int x0')] [] 107) (h : xX12_count_L76 M  w0 w1 = some r) : zV X 0 0 (zwM κ ad M) [(0, .ref (ad 0)), (2, .int w0), (3, .int w1)] [] 76 := by
  unfold xX12_count_L76 at h
  refine zr_iload_n (pc := 76) hC 2 rfl rfl dX12_count_76 ?_
  refine zr_aload_n (pc := 77) hC 0 rfl rfl dX12_count_77 ?_
  refine zmg_12 (pc := 78) hC hinX12_count_X12 flX12_count_46 dX12_count_78 ?_
  refine zr_icmp_ge (pc := 81) (tgt := 107) hC dX12_count_81 (by decide) (fun c1 => ?_) (fun c1 => ?_)
  · replace h := zip h c1
    obtain rfl := Option.some.inj h
    exact zV.sub (lv' := [(2, .int w0)]) [1] rfl (hout0 w0 rfl)
  · replace h := zin h c1
    refine zr_iload_n (pc := 84) hC 1 rfl rfl dX12_count_84 ?_
    refine zr_aload_n (pc := 85) hC 0 rfl rfl dX12_count_85 ?_
    refine zmg_3 (pc := 86) hC hinX12_count_X12 flX12_count_19 dX12_count_86 ?_
    refine zr_iload_n (pc := 89) hC 2 rfl rfl dX12_count_89 ?_
    obtain ⟨i2, h⟩ := zgd h
    refine zml_4 (pc := 90) hC i2 dX12_count_90 ?_
    refine zr_if_eq (pc := 91) (tgt := 98) hC dX12_count_91 (by decide) (fun c3 => ?_) (fun c3 => ?_)
    · replace h := zip h c3
      refine zr_iconst (pc := 98) hC zki_0 dX12_count_98 ?_
      refine zr_iadd (pc := 99) hC dX12_count_99 ?_
      obtain ⟨z4, e5, h⟩ := zle h
      refine zr_topi e5 ?_
      refine zr_istore_n (pc := 100) (lv' := [(2, .int z4), (0, .ref (ad 0)), (3, .int w1)]) hC rfl (by decide) rfl dX12_count_100 ?_
      refine zr_iinc (pc := 101) (k := 2) (lv' := [(3, .int (w1 + (1 : Int32))), (2, .int z4), (0, .ref (ad 0))]) hC zki_1 (by decide) rfl rfl dX12_count_101 ?_
      refine zr_goto (pc := 104) (tgt := 76) hC dX12_count_104 (by decide) ?_
      obtain rfl := Option.some.inj h
      exact zV.sub (lv' := [(0, .ref (ad 0)), (2, .int z4), (3, .int (w1 + (1 : Int32)))]) [2, 1, 0] rfl (hin z4 (w1 + (1 : Int32)) rfl)
    · replace h := zin h c3
      refine zr_iconst (pc := 94) hC zki_1 dX12_count_94 ?_
      refine zr_goto (pc := 95) (tgt := 99) hC dX12_count_95 (by decide) ?_
      refine zr_iadd (pc := 99) hC dX12_count_99 ?_
      obtain ⟨z6, e7, h⟩ := zle h
      refine zr_topi e7 ?_
      refine zr_istore_n (pc := 100) (lv' := [(2, .int z6), (0, .ref (ad 0)), (3, .int w1)]) hC rfl (by decide) rfl dX12_count_100 ?_
      refine zr_iinc (pc := 101) (k := 2) (lv' := [(3, .int (w1 + (1 : Int32))), (2, .int z6), (0, .ref (ad 0))]) hC zki_1 (by decide) rfl rfl dX12_count_101 ?_
      refine zr_goto (pc := 104) (tgt := 76) hC dX12_count_104 (by decide) ?_
      obtain rfl := Option.some.inj h
      exact zV.sub (lv' := [(0, .ref (ad 0)), (2, .int z6), (3, .int (w1 + (1 : Int32)))]) [2, 1, 0] rfl (hin z6 (w1 + (1 : Int32)) rfl)
def xX12_count (M : zM) (v1 : Int32) : Option Int32 :=
  (xX12_isIn v1 (11 : Int32) (16 : Int32)).bind fun q1 =>
  if q1 = 0 then
  (if v1 = (0 : Int32) then
  (some (M.1 0 12))
  else
  if v1 = (1 : Int32) then
  (some (M.1 0 13))
  else
  if v1 = (2 : Int32) then
  ((x_it (fun a9 => xX12_count_L76 M a9.1 a9.2) zFU ((0 : Int32), (0 : Int32))).bind fun q6 =>
  some q6)
  else
  if v1 = (3 : Int32) then
  (some (M.1 0 44))
  else
  if v1 = (4 : Int32) then
  (some (M.1 0 47))
  else
  if v1 = (5 : Int32) then
  (some (M.1 0 21))
  else
  some (-9 : Int32))
  else
  if ((v1 - (10 : Int32)) < 0 ∨ 7 ≤ (v1 - (10 : Int32)).toNatClampNeg) then none else
  some (M.1 1 (v1 - (10 : Int32)).toNatClampNeg)
set_option maxHeartbeats 4000000 in
set_option maxRecDepth 100000 in
theorem tX12_count {κ : Nat → ClassId} {E : zEn} {ad : Nat → Nat} (hEk : zEk E) {M : zM} {v1 : Int32} {res : Int32} (h : xX12_count M v1 = some res) (l : Launch) (D : va_G) : zCT E D vwCl (zty κ) l yX12_count wsX12_count ({ frames := 1, cells := 0, slots := 0, locals := 22 } : Room) 0 0 [.ref (ad 0), .int v1] (zwM κ ad M) (zPd (some (.int res)) (zwM κ ad M)) := by
  refine zCT.of (cc := cX12_count) (maxL := 4) (ret := (some .int)) (by decide) rfl (Nat.le_of_ble_eq_true rfl) ?_
  intro X hC hR
  unfold xX12_count at h
  refine zV.sub (lv' := [(0, .ref (ad 0)), (1, .int v1)]) [0, 1] rfl ?_
  refine zr_iload_n (pc := 0) hC 1 rfl rfl dX12_count_0 ?_
  refine zr_bipush (pc := 1) hC zkb_11 dX12_count_1 ?_
  refine zr_bipush (pc := 3) hC zkb_16 dX12_count_3 ?_
  obtain ⟨q1, hq1, h⟩ := zbd h
  refine zr_cSi (pc := 5) hC hEk [.int v1, .int (11 : Int32), .int (16 : Int32)] [] 3 (fun l D => tX12_isIn hEk hq1 l D) gX12_count_X12_isIn rfl rfl rfl ⟨Nat.le_of_ble_eq_true rfl, Nat.le_of_ble_eq_true rfl⟩ hyX12_isIn rfl rfl (Nat.le_of_ble_eq_true rfl) ⟨Nat.le_of_ble_eq_true rfl, Nat.le_of_ble_eq_true rfl⟩ dX12_count_5 ?_
  refine zr_if_eq (pc := 8) (tgt := 21) hC dX12_count_8 (by decide) (fun c2 => ?_) (fun c2 => ?_)
  · replace h := zip h c2
    refine zr_iconst (pc := 21) hC zki_0 dX12_count_21 ?_
    refine zr_istore_n (pc := 22) (lv' := [(2, .int (0 : Int32)), (0, .ref (ad 0)), (1, .int v1)]) hC rfl (by decide) rfl dX12_count_22 ?_
    refine zr_iload_n (pc := 23) hC 2 rfl rfl dX12_count_23 ?_
    by_cases c3 : v1 = (0 : Int32)
    · replace h := zip h c3
      refine zr_tabIn (pc := 24) (off := 40) (tgt := 64) hC dX12_count_24 (by rw [c3]; decide) (by rw [c3]; decide) (by rw [c3]; decide) (by decide) ?_
      refine zr_aload_n (pc := 64) hC 1 rfl rfl dX12_count_64 ?_
      refine zmg_12 (pc := 65) hC hinX12_count_X12 flX12_count_46 dX12_count_65 ?_
      obtain rfl := Option.some.inj h
      exact zr_iret hC hR ⟨rfl, rfl⟩ (Nat.le_refl _) (Nat.le_refl _) dX12_count_68
    · replace h := zin h c3
      by_cases c4 : v1 = (1 : Int32)
      · replace h := zip h c4
        refine zr_tabIn (pc := 24) (off := 45) (tgt := 69) hC dX12_count_24 (by rw [c4]; decide) (by rw [c4]; decide) (by rw [c4]; decide) (by decide) ?_
        refine zr_aload_n (pc := 69) hC 1 rfl rfl dX12_count_69 ?_
        refine zmg_13 (pc := 70) hC hinX12_count_X12 flX12_count_114 dX12_count_70 ?_
        obtain rfl := Option.some.inj h
        exact zr_iret hC hR ⟨rfl, rfl⟩ (Nat.le_refl _) (Nat.le_refl _) dX12_count_73
      · replace h := zin h c4
        by_cases c5 : v1 = (2 : Int32)
        · replace h := zip h c5
          refine zr_tabIn (pc := 24) (off := 50) (tgt := 74) hC dX12_count_24 (by rw [c5]; decide) (by rw [c5]; decide) (by rw [c5]; decide) (by decide) ?_
          refine zr_iconst (pc := 74) hC zki_0 dX12_count_74 ?_
          refine zr_istore_n (pc := 75) (lv' := [(3, .int (0 : Int32)), (2, .int (0 : Int32)), (0, .ref (ad 0)), (1, .int v1)]) hC rfl (by decide) rfl dX12_count_75 ?_
          obtain ⟨q6, hq6, h⟩ := zbd h
          refine zV.sub (lv' := [(0, .ref (ad 0)), (2, .int (0 : Int32)), (3, .int (0 : Int32))]) [2, 1, 0] rfl ?_
          refine zit2 (Wp := fun (y0 : Int32) (y1 : Int32) => zV X 0 0 (zwM κ ad M) [(0, .ref (ad 0)), (2, .int y0), (3, .int y1)] [] 76) (Ex := fun (b9 : Int32) => zV X 0 0 (zwM κ ad M) [(2, .int b9)] [] 107) (fun y0 y1 r9 hr hin hout => tX12_count_L76 hC hEk hin (fun z0 e9 => hout z0 e9) hr) zFU (0 : Int32) (0 : Int32) q6 hq6 ?_
          show zV X 0 0 (zwM κ ad M) [(2, .int q6)] [] 107
          refine zr_iload_n (pc := 107) hC 0 rfl rfl dX12_count_107 ?_
          obtain rfl := Option.some.inj h
          exact zr_iret hC hR ⟨rfl, rfl⟩ (Nat.le_refl _) (Nat.le_refl _) dX12_count_108
        · replace h := zin h c5
          by_cases c7 : v1 = (3 : Int32)
          · replace h := zip h c7
            refine zr_tabIn (pc := 24) (off := 85) (tgt := 109) hC dX12_count_24 (by rw [c7]; decide) (by rw [c7]; decide) (by rw [c7]; decide) (by decide) ?_
            refine zr_aload_n (pc := 109) hC 1 rfl rfl dX12_count_109 ?_
            refine zmg_44 (pc := 110) hC hinX12_count_X12 flX12_count_299 dX12_count_110 ?_
            obtain rfl := Option.some.inj h
            exact zr_iret hC hR ⟨rfl, rfl⟩ (Nat.le_refl _) (Nat.le_refl _) dX12_count_113
          · replace h := zin h c7
            by_cases c8 : v1 = (4 : Int32)
            · replace h := zip h c8
              refine zr_tabIn (pc := 24) (off := 90) (tgt := 114) hC dX12_count_24 (by rw [c8]; decide) (by rw [c8]; decide) (by rw [c8]; decide) (by decide) ?_
              refine zr_aload_n (pc := 114) hC 1 rfl rfl dX12_count_114 ?_
              refine zmg_47 (pc := 115) hC hinX12_count_X12 flX12_count_327 dX12_count_115 ?_
              obtain rfl := Option.some.inj h
              exact zr_iret hC hR ⟨rfl, rfl⟩ (Nat.le_refl _) (Nat.le_refl _) dX12_count_118
            · replace h := zin h c8
              by_cases c9 : v1 = (5 : Int32)
              · replace h := zip h c9
                refine zr_tabIn (pc := 24) (off := 95) (tgt := 119) hC dX12_count_24 (by rw [c9]; decide) (by rw [c9]; decide) (by rw [c9]; decide) (by decide) ?_
                refine zr_aload_n (pc := 119) hC 1 rfl rfl dX12_count_119 ?_
                refine zmg_21 (pc := 120) hC hinX12_count_X12 flX12_count_125 dX12_count_120 ?_
                obtain rfl := Option.some.inj h
                exact zr_iret hC hR ⟨rfl, rfl⟩ (Nat.le_refl _) (Nat.le_refl _) dX12_count_123
              · replace h := zin h c9
                refine zr_tabOut (pc := 24) (tgt := 124) hC dX12_count_24 (zsw_out_0_6 c3 c4 c5 c7 c8 c9) (by decide) ?_
                refine zr_bipush (pc := 124) hC zkb_m9 dX12_count_124 ?_
                obtain rfl := Option.some.inj h
                exact zr_iret hC hR ⟨rfl, rfl⟩ (Nat.le_refl _) (Nat.le_refl _) dX12_count_126
  · replace h := zin h c2
    refine zr_aload_n (pc := 11) hC 0 rfl rfl dX12_count_11 ?_
    refine zmg_0 (pc := 12) hC hinX12_count_X12 flX12_count_7 dX12_count_12 ?_
    refine zr_iload_n (pc := 15) hC 1 rfl rfl dX12_count_15 ?_
    refine zr_bipush (pc := 16) hC zkb_10 dX12_count_16 ?_
    refine zr_isub (pc := 18) hC dX12_count_18 ?_
    obtain ⟨i10, h⟩ := zgd h
    refine zml_1 (pc := 19) hC i10 dX12_count_19 ?_
    obtain rfl := Option.some.inj h
    exact zr_iret hC hR ⟨rfl, rfl⟩ (Nat.le_refl _) (Nat.le_refl _) dX12_count_20
