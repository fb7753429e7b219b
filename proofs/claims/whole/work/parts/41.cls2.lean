/-! X3_exchange -/
theorem hyX3_exchange : yX3_exchange.cls = RX3 ∧ yX3_exchange.cls ≠ "java/lang/invoke/MethodHandle" ∧ yX3_exchange.cls ≠ "java/lang/invoke/VarHandle" ∧ (parseMethodDescriptor yX3_exchange.desc).map (fun d => d.parameters.length) = some 2 := by decide +kernel
theorem flX3_exchange_19 : Cond.fieldLink RX3 19 "BeforeTheEnd$Facts" "order" "[I" ∈ wsX3_exchange := by decide +kernel
theorem hinX3_exchange_X3 : ∀ w ∈ wsX30, w ∈ wsX3_exchange := fun _ h => List.mem_cons_of_mem _ (List.mem_append_right _ h)
def xX3_exchange (pF : zM) (v1 : Int32) (v2 : Int32) : Option zM :=
  if v1 < 0 then
  (some pF)
  else
  if (5 : Int32) ≤ v1 then
  (some pF)
  else
  if v2 < 0 then
  (some pF)
  else
  if v2 < (5 : Int32) then
  (if (v1 < 0 ∨ 5 ≤ v1.toNatClampNeg) then none else
  zlet (pF.1 74 v1.toNatClampNeg) fun z6 =>
  if (v2 < 0 ∨ 5 ≤ v2.toNatClampNeg) then none else
  zlet (zsi pF 74 v1.toNatClampNeg (pF.1 74 v2.toNatClampNeg)) fun M9 =>
  zlet (zsi M9 74 v2.toNatClampNeg z6) fun M11 =>
  some M11)
  else
  some pF
set_option maxHeartbeats 4000000 in
set_option maxRecDepth 100000 in
theorem tX3_exchange {κ : Nat → ClassId} {tg : Nat} {S : zEn} {ad : Nat → Nat} (hEk : zEk (zE tg S)) {pT : zM} {pR : zM} {pX : zM} {pF : zM} {pB : zM} {pP : zP} {v1 : Int32} {v2 : Int32} {res : zM} (h : xX3_exchange pF v1 v2 = some res) (l : Launch) (D : va_G) : zCT (zE tg S) D vwCl (zty κ) l yX3_exchange wsX3_exchange ({ frames := 0, cells := 0, slots := 0, locals := 0 } : Room) 0 0 [.ref (ad 72), .int v1, .int v2] (zwC κ ad pT pR pX pF pB pP) (zPd none (zwC κ ad pT pR pX res pB pP)) := by
  refine zCT.of (cc := cX3_exchange) (maxL := 4) (ret := none) (by decide) rfl (Nat.le_of_ble_eq_true rfl) ?_
  intro X hC hR
  unfold xX3_exchange at h
  refine zV.sub (lv' := [(0, .ref (ad 72)), (1, .int v1), (2, .int v2)]) [0, 1, 2] rfl ?_
  refine zr_iload_n (pc := 0) hC 1 rfl rfl dX3_exchange_0 ?_
  refine zr_if_lt (pc := 1) (tgt := 18) hC dX3_exchange_1 (by decide) (fun c1 => ?_) (fun c1 => ?_)
  · replace h := zip h c1
    obtain rfl := Option.some.inj h
    exact zr_vret hC hR ⟨rfl, rfl⟩ (Nat.le_refl _) (Nat.le_refl _) dX3_exchange_18
  · replace h := zin h c1
    refine zr_iload_n (pc := 4) hC 1 rfl rfl dX3_exchange_4 ?_
    refine zr_iconst (pc := 5) hC zki_5 dX3_exchange_5 ?_
    refine zr_icmp_ge (pc := 6) (tgt := 18) hC dX3_exchange_6 (by decide) (fun c2 => ?_) (fun c2 => ?_)
    · replace h := zip h c2
      obtain rfl := Option.some.inj h
      exact zr_vret hC hR ⟨rfl, rfl⟩ (Nat.le_refl _) (Nat.le_refl _) dX3_exchange_18
    · replace h := zin h c2
      refine zr_iload_n (pc := 9) hC 2 rfl rfl dX3_exchange_9 ?_
      refine zr_if_lt (pc := 10) (tgt := 18) hC dX3_exchange_10 (by decide) (fun c3 => ?_) (fun c3 => ?_)
      · replace h := zip h c3
        obtain rfl := Option.some.inj h
        exact zr_vret hC hR ⟨rfl, rfl⟩ (Nat.le_refl _) (Nat.le_refl _) dX3_exchange_18
      · replace h := zin h c3
        refine zr_iload_n (pc := 13) hC 2 rfl rfl dX3_exchange_13 ?_
        refine zr_iconst (pc := 14) hC zki_5 dX3_exchange_14 ?_
        refine zr_icmp_lt (pc := 15) (tgt := 19) hC dX3_exchange_15 (by decide) (fun c4 => ?_) (fun c4 => ?_)
        · replace h := zip h c4
          refine zr_aload_n (pc := 19) hC 0 rfl rfl dX3_exchange_19 ?_
          refine zcg_72_2 (pc := 20) hC hinX3_exchange_X3 flX3_exchange_19 dX3_exchange_20 ?_
          refine zr_iload_n (pc := 23) hC 1 rfl rfl dX3_exchange_23 ?_
          obtain ⟨i5, h⟩ := zgd h
          refine zcl_74 (pc := 24) hC i5 dX3_exchange_24 ?_
          obtain ⟨z6, e7, h⟩ := zle h
          refine zr_topi e7 ?_
          refine zr_istore_n (pc := 25) (lv' := [(3, .int z6), (0, .ref (ad 72)), (1, .int v1), (2, .int v2)]) hC rfl (by decide) rfl dX3_exchange_25 ?_
          refine zr_aload_n (pc := 26) hC 1 rfl rfl dX3_exchange_26 ?_
          refine zcg_72_2 (pc := 27) hC hinX3_exchange_X3 flX3_exchange_19 dX3_exchange_27 ?_
          refine zr_iload_n (pc := 30) hC 2 rfl rfl dX3_exchange_30 ?_
          refine zr_aload_n (pc := 31) hC 1 rfl rfl dX3_exchange_31 ?_
          refine zcg_72_2 (pc := 32) hC hinX3_exchange_X3 flX3_exchange_19 dX3_exchange_32 ?_
          refine zr_iload_n (pc := 35) hC 3 rfl rfl dX3_exchange_35 ?_
          obtain ⟨i8, h⟩ := zgd h
          refine zcl_74 (pc := 36) hC i8 dX3_exchange_36 ?_
          obtain ⟨M9, e10, h⟩ := zle h
          refine zcs_74 (pc := 37) hC i5 e10 dX3_exchange_37 ?_
          refine zr_aload_n (pc := 38) hC 1 rfl rfl dX3_exchange_38 ?_
          refine zcg_72_2 (pc := 39) hC hinX3_exchange_X3 flX3_exchange_19 dX3_exchange_39 ?_
          refine zr_iload_n (pc := 42) hC 3 rfl rfl dX3_exchange_42 ?_
          refine zr_iload_n (pc := 43) hC 0 rfl rfl dX3_exchange_43 ?_
          obtain ⟨M11, e12, h⟩ := zle h
          refine zcs_74 (pc := 44) hC i8 e12 dX3_exchange_44 ?_
          obtain rfl := Option.some.inj h
          exact zr_vret hC hR ⟨rfl, rfl⟩ (Nat.le_refl _) (Nat.le_refl _) dX3_exchange_45
        · replace h := zin h c4
          obtain rfl := Option.some.inj h
          exact zr_vret hC hR ⟨rfl, rfl⟩ (Nat.le_refl _) (Nat.le_refl _) dX3_exchange_18
/-! X3_nextOrder -/
theorem hyX3_nextOrder : yX3_nextOrder.cls = RX3 ∧ yX3_nextOrder.cls ≠ "java/lang/invoke/MethodHandle" ∧ yX3_nextOrder.cls ≠ "java/lang/invoke/VarHandle" ∧ (parseMethodDescriptor yX3_nextOrder.desc).map (fun d => d.parameters.length) = some 0 := by decide +kernel
theorem flX3_nextOrder_15 : Cond.fieldLink RX3 15 "BeforeTheEnd$Facts" "count" "I" ∈ wsX3_nextOrder := by decide +kernel
theorem flX3_nextOrder_19 : Cond.fieldLink RX3 19 "BeforeTheEnd$Facts" "order" "[I" ∈ wsX3_nextOrder := by decide +kernel
theorem hinX3_nextOrder_X3 : ∀ w ∈ wsX30, w ∈ wsX3_nextOrder := fun _ h => List.mem_cons_of_mem _ (List.mem_append_right _ h)
def xX3_nextOrder_L4 (pF : zM) (w0 : Int32) (w1 : Int32) : Option ((Int32 × Int32) ⊕ Int32) :=
  if (5 : Int32) ≤ (w1 + (1 : Int32)) then
  (some (.inr w0))
  else
  if (pF.1 72 1) ≤ (w1 + (1 : Int32)) then
  (some (.inr w0))
  else
  if (w1 < 0 ∨ 5 ≤ w1.toNatClampNeg) then none else
  if ((w1 + (1 : Int32)) < 0 ∨ 5 ≤ (w1 + (1 : Int32)).toNatClampNeg) then none else
  if (pF.1 74 (w1 + (1 : Int32)).toNatClampNeg) ≤ (pF.1 74 w1.toNatClampNeg) then
  (some (.inl (w0, (w1 + (1 : Int32)))))
  else
  some (.inl (w1, (w1 + (1 : Int32))))
set_option maxHeartbeats 4000000 in
set_option maxRecDepth 100000 in
theorem tX3_nextOrder_L4 {κ : Nat → ClassId} {tg : Nat} {S : zEn} {ad : Nat → Nat} {X : zX} {pT : zM} {pR : zM} {pX : zM} {pB : zM} {pP : zP} {pF : zM} {w0 : Int32} {w1 : Int32} {r : ((Int32 × Int32) ⊕ Int32)} (hC : zC X cX3_nextOrder RX3 wsX3_nextOrder vwCl (zty κ) (zE tg S) 5 ({ frames := 1, cells := 0, slots := 0, locals := 23 } : Room)) (hEk : zEk (zE tg S)) (hin : ∀ (x0' : Int32) (x1' : Int32), r = .inl (x0', x1') → zV X 0 0 (zwC κ ad pT pR pX pF pB pP) [(0, .ref (ad 72)), (1, .int x0'), (2, .int x1')] [] 4) (hout0 : ∀ (x0' : Int32), r = .inr x0' → zV X 0 0 (zwC κ ad pT pR pX pF pB pP) [(0, .ref (ad 72)), (1, .int x0')] [] 46) (h : xX3_nextOrder_L4 pF  w0 w1 = some r) : zV X 0 0 (zwC κ ad pT pR pX pF pB pP) [(0, .ref (ad 72)), (1, .int w0), (2, .int w1)] [] 4 := by
  unfold xX3_nextOrder_L4 at h
  refine zr_iload_n (pc := 4) hC 2 rfl rfl dX3_nextOrder_4 ?_
  refine zr_iconst (pc := 5) hC zki_1 dX3_nextOrder_5 ?_
  refine zr_iadd (pc := 6) hC dX3_nextOrder_6 ?_
  refine zr_iconst (pc := 7) hC zki_5 dX3_nextOrder_7 ?_
  refine zr_icmp_ge (pc := 8) (tgt := 46) hC dX3_nextOrder_8 (by decide) (fun c1 => ?_) (fun c1 => ?_)
  · replace h := zip h c1
    obtain rfl := Option.some.inj h
    exact zV.sub (lv' := [(0, .ref (ad 72)), (1, .int w0)]) [0, 1] rfl (hout0 w0 rfl)
  · replace h := zin h c1
    refine zr_iload_n (pc := 11) hC 2 rfl rfl dX3_nextOrder_11 ?_
    refine zr_iconst (pc := 12) hC zki_1 dX3_nextOrder_12 ?_
    refine zr_iadd (pc := 13) hC dX3_nextOrder_13 ?_
    refine zr_aload_n (pc := 14) hC 0 rfl rfl dX3_nextOrder_14 ?_
    refine zcg_72_1 (pc := 15) hC hinX3_nextOrder_X3 flX3_nextOrder_15 dX3_nextOrder_15 ?_
    refine zr_icmp_ge (pc := 18) (tgt := 46) hC dX3_nextOrder_18 (by decide) (fun c2 => ?_) (fun c2 => ?_)
    · replace h := zip h c2
      obtain rfl := Option.some.inj h
      exact zV.sub (lv' := [(0, .ref (ad 72)), (1, .int w0)]) [0, 1] rfl (hout0 w0 rfl)
    · replace h := zin h c2
      refine zr_aload_n (pc := 21) hC 0 rfl rfl dX3_nextOrder_21 ?_
      refine zcg_72_2 (pc := 22) hC hinX3_nextOrder_X3 flX3_nextOrder_19 dX3_nextOrder_22 ?_
      refine zr_iload_n (pc := 25) hC 2 rfl rfl dX3_nextOrder_25 ?_
      obtain ⟨i3, h⟩ := zgd h
      refine zcl_74 (pc := 26) hC i3 dX3_nextOrder_26 ?_
      refine zr_aload_n (pc := 27) hC 0 rfl rfl dX3_nextOrder_27 ?_
      refine zcg_72_2 (pc := 28) hC hinX3_nextOrder_X3 flX3_nextOrder_19 dX3_nextOrder_28 ?_
      refine zr_iload_n (pc := 31) hC 2 rfl rfl dX3_nextOrder_31 ?_
      refine zr_iconst (pc := 32) hC zki_1 dX3_nextOrder_32 ?_
      refine zr_iadd (pc := 33) hC dX3_nextOrder_33 ?_
      obtain ⟨i4, h⟩ := zgd h
      refine zcl_74 (pc := 34) hC i4 dX3_nextOrder_34 ?_
      refine zr_icmp_ge (pc := 35) (tgt := 40) hC dX3_nextOrder_35 (by decide) (fun c5 => ?_) (fun c5 => ?_)
      · replace h := zip h c5
        refine zr_iinc (pc := 40) (k := 2) (lv' := [(2, .int (w1 + (1 : Int32))), (0, .ref (ad 72)), (1, .int w0)]) hC zki_1 (by decide) rfl rfl dX3_nextOrder_40 ?_
        refine zr_goto (pc := 43) (tgt := 4) hC dX3_nextOrder_43 (by decide) ?_
        obtain rfl := Option.some.inj h
        exact zV.sub (lv' := [(0, .ref (ad 72)), (1, .int w0), (2, .int (w1 + (1 : Int32)))]) [1, 2, 0] rfl (hin w0 (w1 + (1 : Int32)) rfl)
      · replace h := zin h c5
        refine zr_iload_n (pc := 38) hC 2 rfl rfl dX3_nextOrder_38 ?_
        refine zr_istore_n (pc := 39) (lv' := [(1, .int w1), (0, .ref (ad 72)), (2, .int w1)]) hC rfl (by decide) rfl dX3_nextOrder_39 ?_
        refine zr_iinc (pc := 40) (k := 2) (lv' := [(2, .int (w1 + (1 : Int32))), (1, .int w1), (0, .ref (ad 72))]) hC zki_1 (by decide) rfl rfl dX3_nextOrder_40 ?_
        refine zr_goto (pc := 43) (tgt := 4) hC dX3_nextOrder_43 (by decide) ?_
        obtain rfl := Option.some.inj h
        exact zV.sub (lv' := [(0, .ref (ad 72)), (1, .int w1), (2, .int (w1 + (1 : Int32)))]) [2, 1, 0] rfl (hin w1 (w1 + (1 : Int32)) rfl)
def xX3_nextOrder_L60 (pF : zM) (v1 : Int32) (w0 : Int32) (w1 : Int32) : Option ((Int32 × Int32) ⊕ Int32) :=
  if (5 : Int32) ≤ w1 then
  (some (.inr w0))
  else
  if (pF.1 72 1) ≤ w1 then
  (some (.inr w0))
  else
  if (w1 < 0 ∨ 5 ≤ w1.toNatClampNeg) then none else
  if (v1 < 0 ∨ 5 ≤ v1.toNatClampNeg) then none else
  if (pF.1 74 w1.toNatClampNeg) ≤ (pF.1 74 v1.toNatClampNeg) then
  (some (.inl (w0, (w1 + (1 : Int32)))))
  else
  some (.inl (w1, (w1 + (1 : Int32))))
set_option maxHeartbeats 4000000 in
set_option maxRecDepth 100000 in
theorem tX3_nextOrder_L60 {κ : Nat → ClassId} {tg : Nat} {S : zEn} {ad : Nat → Nat} {X : zX} {pT : zM} {pR : zM} {pX : zM} {pB : zM} {pP : zP} {pF : zM} {v1 : Int32} {w0 : Int32} {w1 : Int32} {r : ((Int32 × Int32) ⊕ Int32)} (hC : zC X cX3_nextOrder RX3 wsX3_nextOrder vwCl (zty κ) (zE tg S) 5 ({ frames := 1, cells := 0, slots := 0, locals := 23 } : Room)) (hEk : zEk (zE tg S)) (hin : ∀ (x0' : Int32) (x1' : Int32), r = .inl (x0', x1') → zV X 0 0 (zwC κ ad pT pR pX pF pB pP) [(0, .ref (ad 72)), (1, .int v1), (2, .int x0'), (3, .int x1')] [] 60) (hout0 : ∀ (x0' : Int32), r = .inr x0' → zV X 0 0 (zwC κ ad pT pR pX pF pB pP) [(0, .ref (ad 72)), (1, .int v1), (2, .int x0')] [] 96) (h : xX3_nextOrder_L60 pF v1 w0 w1 = some r) : zV X 0 0 (zwC κ ad pT pR pX pF pB pP) [(0, .ref (ad 72)), (1, .int v1), (2, .int w0), (3, .int w1)] [] 60 := by
  unfold xX3_nextOrder_L60 at h
  refine zr_iload_n (pc := 60) hC 3 rfl rfl dX3_nextOrder_60 ?_
  refine zr_iconst (pc := 61) hC zki_5 dX3_nextOrder_61 ?_
  refine zr_icmp_ge (pc := 62) (tgt := 96) hC dX3_nextOrder_62 (by decide) (fun c1 => ?_) (fun c1 => ?_)
  · replace h := zip h c1
    obtain rfl := Option.some.inj h
    exact zV.sub (lv' := [(0, .ref (ad 72)), (1, .int v1), (2, .int w0)]) [0, 1, 2] rfl (hout0 w0 rfl)
  · replace h := zin h c1
    refine zr_iload_n (pc := 65) hC 3 rfl rfl dX3_nextOrder_65 ?_
    refine zr_aload_n (pc := 66) hC 0 rfl rfl dX3_nextOrder_66 ?_
    refine zcg_72_1 (pc := 67) hC hinX3_nextOrder_X3 flX3_nextOrder_15 dX3_nextOrder_67 ?_
    refine zr_icmp_ge (pc := 70) (tgt := 96) hC dX3_nextOrder_70 (by decide) (fun c2 => ?_) (fun c2 => ?_)
    · replace h := zip h c2
      obtain rfl := Option.some.inj h
      exact zV.sub (lv' := [(0, .ref (ad 72)), (1, .int v1), (2, .int w0)]) [0, 1, 2] rfl (hout0 w0 rfl)
    · replace h := zin h c2
      refine zr_aload_n (pc := 73) hC 0 rfl rfl dX3_nextOrder_73 ?_
      refine zcg_72_2 (pc := 74) hC hinX3_nextOrder_X3 flX3_nextOrder_19 dX3_nextOrder_74 ?_
      refine zr_iload_n (pc := 77) hC 3 rfl rfl dX3_nextOrder_77 ?_
      obtain ⟨i3, h⟩ := zgd h
      refine zcl_74 (pc := 78) hC i3 dX3_nextOrder_78 ?_
      refine zr_aload_n (pc := 79) hC 0 rfl rfl dX3_nextOrder_79 ?_
      refine zcg_72_2 (pc := 80) hC hinX3_nextOrder_X3 flX3_nextOrder_19 dX3_nextOrder_80 ?_
      refine zr_iload_n (pc := 83) hC 1 rfl rfl dX3_nextOrder_83 ?_
      obtain ⟨i4, h⟩ := zgd h
      refine zcl_74 (pc := 84) hC i4 dX3_nextOrder_84 ?_
      refine zr_icmp_le (pc := 85) (tgt := 90) hC dX3_nextOrder_85 (by decide) (fun c5 => ?_) (fun c5 => ?_)
      · replace h := zip h c5
        refine zr_iinc (pc := 90) (k := 3) (lv' := [(3, .int (w1 + (1 : Int32))), (0, .ref (ad 72)), (1, .int v1), (2, .int w0)]) hC zki_1 (by decide) rfl rfl dX3_nextOrder_90 ?_
        refine zr_goto (pc := 93) (tgt := 60) hC dX3_nextOrder_93 (by decide) ?_
        obtain rfl := Option.some.inj h
        exact zV.sub (lv' := [(0, .ref (ad 72)), (1, .int v1), (2, .int w0), (3, .int (w1 + (1 : Int32)))]) [1, 2, 3, 0] rfl (hin w0 (w1 + (1 : Int32)) rfl)
      · replace h := zin h c5
        refine zr_iload_n (pc := 88) hC 3 rfl rfl dX3_nextOrder_88 ?_
        refine zr_istore_n (pc := 89) (lv' := [(2, .int w1), (0, .ref (ad 72)), (1, .int v1), (3, .int w1)]) hC rfl (by decide) rfl dX3_nextOrder_89 ?_
        refine zr_iinc (pc := 90) (k := 3) (lv' := [(3, .int (w1 + (1 : Int32))), (2, .int w1), (0, .ref (ad 72)), (1, .int v1)]) hC zki_1 (by decide) rfl rfl dX3_nextOrder_90 ?_
        refine zr_goto (pc := 93) (tgt := 60) hC dX3_nextOrder_93 (by decide) ?_
        obtain rfl := Option.some.inj h
        exact zV.sub (lv' := [(0, .ref (ad 72)), (1, .int v1), (2, .int w1), (3, .int (w1 + (1 : Int32)))]) [2, 3, 1, 0] rfl (hin w1 (w1 + (1 : Int32)) rfl)
def xX3_nextOrder_L114 (w0 : zM) (w1 : Int32) (w2 : Int32) : Option ((zM × Int32 × Int32) ⊕ zM) :=
  if w2 ≤ w1 then
  (some (.inr w0))
  else
  (xX3_exchange w0 w1 w2).bind fun q2 =>
  some (.inl (q2, (w1 + (1 : Int32)), (w2 + (-1 : Int32))))
set_option maxHeartbeats 4000000 in
set_option maxRecDepth 100000 in
theorem tX3_nextOrder_L114 {κ : Nat → ClassId} {tg : Nat} {S : zEn} {ad : Nat → Nat} {X : zX} {pT : zM} {pR : zM} {pX : zM} {pB : zM} {pP : zP} {w0 : zM} {w1 : Int32} {w2 : Int32} {r : ((zM × Int32 × Int32) ⊕ zM)} (hC : zC X cX3_nextOrder RX3 wsX3_nextOrder vwCl (zty κ) (zE tg S) 5 ({ frames := 1, cells := 0, slots := 0, locals := 23 } : Room)) (hEk : zEk (zE tg S)) (hin : ∀ (x0' : zM) (x1' : Int32) (x2' : Int32), r = .inl (x0', x1', x2') → zV X 0 0 (zwC κ ad pT pR pX x0' pB pP) [(0, .ref (ad 72)), (3, .int x1'), (4, .int x2')] [] 114) (hout0 : ∀ (x0' : zM), r = .inr x0' → zV X 0 0 (zwC κ ad pT pR pX x0' pB pP) [] [] 136) (h : xX3_nextOrder_L114   w0 w1 w2 = some r) : zV X 0 0 (zwC κ ad pT pR pX w0 pB pP) [(0, .ref (ad 72)), (3, .int w1), (4, .int w2)] [] 114 := by
  unfold xX3_nextOrder_L114 at h
  refine zr_iload_n (pc := 114) hC 1 rfl rfl dX3_nextOrder_114 ?_
  refine zr_iload (pc := 115) hC 2 rfl dX3_nextOrder_115 ?_
  refine zr_icmp_ge (pc := 117) (tgt := 136) hC dX3_nextOrder_117 (by decide) (fun c1 => ?_) (fun c1 => ?_)
  · replace h := zip h c1
    obtain rfl := Option.some.inj h
    exact zV.sub (lv' := []) [] rfl (hout0 w0 rfl)
  · replace h := zin h c1
    refine zr_aload_n (pc := 120) hC 0 rfl rfl dX3_nextOrder_120 ?_
    refine zr_iload_n (pc := 121) hC 1 rfl rfl dX3_nextOrder_121 ?_
    refine zr_iload (pc := 122) hC 2 rfl dX3_nextOrder_122 ?_
    obtain ⟨q2, hq2, h⟩ := zbd h
    refine zr_cVv (pc := 124) hC hEk [.int w1, .int w2] [] 72 2 (fun l D => tX3_exchange hEk hq2 l D) gX3_nextOrder_X3_exchange rfl rfl rfl ⟨Nat.le_of_ble_eq_true rfl, Nat.le_of_ble_eq_true rfl⟩ hyX3_exchange (zNC (by decide)) entC_72 rfl rfl rfl (Nat.le_of_ble_eq_true rfl) ⟨Nat.le_of_ble_eq_true rfl, Nat.le_of_ble_eq_true rfl⟩ dX3_nextOrder_124 ?_
    refine zr_iinc (pc := 127) (k := 1) (lv' := [(3, .int (w1 + (1 : Int32))), (0, .ref (ad 72)), (4, .int w2)]) hC zki_1 (by decide) rfl rfl dX3_nextOrder_127 ?_
    refine zr_iinc (pc := 130) (k := 2) (lv' := [(4, .int (w2 + (-1 : Int32))), (3, .int (w1 + (1 : Int32))), (0, .ref (ad 72))]) hC zki_m1 (by decide) rfl rfl dX3_nextOrder_130 ?_
    refine zr_goto (pc := 133) (tgt := 114) hC dX3_nextOrder_133 (by decide) ?_
    obtain rfl := Option.some.inj h
    exact zV.sub (lv' := [(0, .ref (ad 72)), (3, .int (w1 + (1 : Int32))), (4, .int (w2 + (-1 : Int32)))]) [2, 1, 0] rfl (hin q2 (w1 + (1 : Int32)) (w2 + (-1 : Int32)) rfl)
def xX3_nextOrder (pF : zM)  : Option (Int32 × zM) :=
  (x_it (fun a9 => xX3_nextOrder_L4 pF a9.1 a9.2) zFU ((-1 : Int32), (0 : Int32))).bind fun q1 =>
  if 0 ≤ q1 then
  (zlet (q1 + (1 : Int32)) fun z3 =>
  zlet (q1 + (1 : Int32)) fun z5 =>
  (x_it (fun a9 => xX3_nextOrder_L60 pF q1 a9.1 a9.2) zFU (z3, z5)).bind fun q7 =>
  (xX3_exchange pF q1 q7).bind fun q8 =>
  zlet (q1 + (1 : Int32)) fun z9 =>
  zlet ((q8.1 72 1) - (1 : Int32)) fun z11 =>
  (x_it (fun a9 => xX3_nextOrder_L114 a9.1 a9.2.1 a9.2.2) zFU (q8, z9, z11)).bind fun q13 =>
  some ((1 : Int32), q13))
  else
  some ((0 : Int32), pF)
set_option maxHeartbeats 4000000 in
set_option maxRecDepth 100000 in
theorem tX3_nextOrder {κ : Nat → ClassId} {tg : Nat} {S : zEn} {ad : Nat → Nat} (hEk : zEk (zE tg S)) {pT : zM} {pR : zM} {pX : zM} {pF : zM} {pB : zM} {pP : zP}  {res : (Int32 × zM)} (h : xX3_nextOrder pF  = some res) (l : Launch) (D : va_G) : zCT (zE tg S) D vwCl (zty κ) l yX3_nextOrder wsX3_nextOrder ({ frames := 1, cells := 0, slots := 0, locals := 23 } : Room) 0 0 [.ref (ad 72)] (zwC κ ad pT pR pX pF pB pP) (zPd (some (.int res.1)) (zwC κ ad pT pR pX res.2 pB pP)) := by
  refine zCT.of (cc := cX3_nextOrder) (maxL := 5) (ret := (some .boolean)) (by decide) rfl (Nat.le_of_ble_eq_true rfl) ?_
  intro X hC hR
  unfold xX3_nextOrder at h
  refine zV.sub (lv' := [(0, .ref (ad 72))]) [0] rfl ?_
  refine zr_iconst (pc := 0) hC zki_m1 dX3_nextOrder_0 ?_
  refine zr_istore_n (pc := 1) (lv' := [(1, .int (-1 : Int32)), (0, .ref (ad 72))]) hC rfl (by decide) rfl dX3_nextOrder_1 ?_
  refine zr_iconst (pc := 2) hC zki_0 dX3_nextOrder_2 ?_
  refine zr_istore_n (pc := 3) (lv' := [(2, .int (0 : Int32)), (1, .int (-1 : Int32)), (0, .ref (ad 72))]) hC rfl (by decide) rfl dX3_nextOrder_3 ?_
  obtain ⟨q1, hq1, h⟩ := zbd h
  refine zV.sub (lv' := [(0, .ref (ad 72)), (1, .int (-1 : Int32)), (2, .int (0 : Int32))]) [2, 1, 0] rfl ?_
  refine zit2 (Wp := fun (y0 : Int32) (y1 : Int32) => zV X 0 0 (zwC κ ad pT pR pX pF pB pP) [(0, .ref (ad 72)), (1, .int y0), (2, .int y1)] [] 4) (Ex := fun (b9 : Int32) => zV X 0 0 (zwC κ ad pT pR pX pF pB pP) [(0, .ref (ad 72)), (1, .int b9)] [] 46) (fun y0 y1 r9 hr hin hout => tX3_nextOrder_L4 hC hEk hin (fun z0 e9 => hout z0 e9) hr) zFU (-1 : Int32) (0 : Int32) q1 hq1 ?_
  show zV X 0 0 (zwC κ ad pT pR pX pF pB pP) [(0, .ref (ad 72)), (1, .int q1)] [] 46
  refine zr_iload_n (pc := 46) hC 1 rfl rfl dX3_nextOrder_46 ?_
  refine zr_if_ge (pc := 47) (tgt := 52) hC dX3_nextOrder_47 (by decide) (fun c2 => ?_) (fun c2 => ?_)
  · replace h := zip h c2
    refine zr_iload_n (pc := 52) hC 1 rfl rfl dX3_nextOrder_52 ?_
    refine zr_iconst (pc := 53) hC zki_1 dX3_nextOrder_53 ?_
    refine zr_iadd (pc := 54) hC dX3_nextOrder_54 ?_
    obtain ⟨z3, e4, h⟩ := zle h
    refine zr_topi e4 ?_
    refine zr_istore_n (pc := 55) (lv' := [(2, .int z3), (0, .ref (ad 72)), (1, .int q1)]) hC rfl (by decide) rfl dX3_nextOrder_55 ?_
    refine zr_iload_n (pc := 56) hC 2 rfl rfl dX3_nextOrder_56 ?_
    refine zr_iconst (pc := 57) hC zki_1 dX3_nextOrder_57 ?_
    refine zr_iadd (pc := 58) hC dX3_nextOrder_58 ?_
    obtain ⟨z5, e6, h⟩ := zle h
    refine zr_topi e6 ?_
    refine zr_istore_n (pc := 59) (lv' := [(3, .int z5), (2, .int z3), (0, .ref (ad 72)), (1, .int q1)]) hC rfl (by decide) rfl dX3_nextOrder_59 ?_
    obtain ⟨q7, hq7, h⟩ := zbd h
    refine zV.sub (lv' := [(0, .ref (ad 72)), (1, .int q1), (2, .int z3), (3, .int z5)]) [2, 3, 1, 0] rfl ?_
    refine zit2 (Wp := fun (y0 : Int32) (y1 : Int32) => zV X 0 0 (zwC κ ad pT pR pX pF pB pP) [(0, .ref (ad 72)), (1, .int q1), (2, .int y0), (3, .int y1)] [] 60) (Ex := fun (b9 : Int32) => zV X 0 0 (zwC κ ad pT pR pX pF pB pP) [(0, .ref (ad 72)), (1, .int q1), (2, .int b9)] [] 96) (fun y0 y1 r9 hr hin hout => tX3_nextOrder_L60 hC hEk hin (fun z0 e9 => hout z0 e9) hr) zFU z3 z5 q7 hq7 ?_
    show zV X 0 0 (zwC κ ad pT pR pX pF pB pP) [(0, .ref (ad 72)), (1, .int q1), (2, .int q7)] [] 96
    refine zr_aload_n (pc := 96) hC 0 rfl rfl dX3_nextOrder_96 ?_
    refine zr_iload_n (pc := 97) hC 1 rfl rfl dX3_nextOrder_97 ?_
    refine zr_iload_n (pc := 98) hC 2 rfl rfl dX3_nextOrder_98 ?_
    obtain ⟨q8, hq8, h⟩ := zbd h
    refine zr_cVv (pc := 99) hC hEk [.int q1, .int q7] [] 72 2 (fun l D => tX3_exchange hEk hq8 l D) gX3_nextOrder_X3_exchange rfl rfl rfl ⟨Nat.le_of_ble_eq_true rfl, Nat.le_of_ble_eq_true rfl⟩ hyX3_exchange (zNC (by decide)) entC_72 rfl rfl rfl (Nat.le_of_ble_eq_true rfl) ⟨Nat.le_of_ble_eq_true rfl, Nat.le_of_ble_eq_true rfl⟩ dX3_nextOrder_99 ?_
    refine zr_iload_n (pc := 102) hC 1 rfl rfl dX3_nextOrder_102 ?_
    refine zr_iconst (pc := 103) hC zki_1 dX3_nextOrder_103 ?_
    refine zr_iadd (pc := 104) hC dX3_nextOrder_104 ?_
    obtain ⟨z9, e10, h⟩ := zle h
    refine zr_topi e10 ?_
    refine zr_istore_n (pc := 105) (lv' := [(3, .int z9), (0, .ref (ad 72)), (1, .int q1), (2, .int q7)]) hC rfl (by decide) rfl dX3_nextOrder_105 ?_
    refine zr_aload_n (pc := 106) hC 1 rfl rfl dX3_nextOrder_106 ?_
    refine zcg_72_1 (pc := 107) hC hinX3_nextOrder_X3 flX3_nextOrder_15 dX3_nextOrder_107 ?_
    refine zr_iconst (pc := 110) hC zki_1 dX3_nextOrder_110 ?_
    refine zr_isub (pc := 111) hC dX3_nextOrder_111 ?_
    obtain ⟨z11, e12, h⟩ := zle h
    refine zr_topi e12 ?_
    refine zr_istore (pc := 112) (lv' := [(4, .int z11), (3, .int z9), (0, .ref (ad 72)), (1, .int q1), (2, .int q7)]) hC (by decide) rfl dX3_nextOrder_112 ?_
    obtain ⟨q13, hq13, h⟩ := zbd h
    refine zV.sub (lv' := [(0, .ref (ad 72)), (3, .int z9), (4, .int z11)]) [2, 1, 0] rfl ?_
    refine zit3 (Wp := fun (y0 : zM) (y1 : Int32) (y2 : Int32) => zV X 0 0 (zwC κ ad pT pR pX y0 pB pP) [(0, .ref (ad 72)), (3, .int y1), (4, .int y2)] [] 114) (Ex := fun (b9 : zM) => zV X 0 0 (zwC κ ad pT pR pX b9 pB pP) [] [] 136) (fun y0 y1 y2 r9 hr hin hout => tX3_nextOrder_L114 hC hEk hin (fun z0 e9 => hout z0 e9) hr) zFU q8 z9 z11 q13 hq13 ?_
    show zV X 0 0 (zwC κ ad pT pR pX q13 pB pP) [] [] 136
    refine zr_iconst (pc := 136) hC zki_1 dX3_nextOrder_136 ?_
    obtain rfl := Option.some.inj h
    exact zr_zret hC hR (by decide) ⟨rfl, rfl⟩ (Nat.le_refl _) (Nat.le_refl _) dX3_nextOrder_137
  · replace h := zin h c2
    refine zr_iconst (pc := 50) hC zki_0 dX3_nextOrder_50 ?_
    obtain rfl := Option.some.inj h
    exact zr_zret hC hR (by decide) ⟨rfl, rfl⟩ (Nat.le_refl _) (Nat.le_refl _) dX3_nextOrder_51
/-! X3_findExtreme -/
theorem hyX3_findExtreme : yX3_findExtreme.cls = RX3 ∧ yX3_findExtreme.cls ≠ "java/lang/invoke/MethodHandle" ∧ yX3_findExtreme.cls ≠ "java/lang/invoke/VarHandle" ∧ (parseMethodDescriptor yX3_findExtreme.desc).map (fun d => d.parameters.length) = some 1 := by decide +kernel
theorem flX3_findExtreme_15 : Cond.fieldLink RX3 15 "BeforeTheEnd$Facts" "count" "I" ∈ wsX3_findExtreme := by decide +kernel
theorem flX3_findExtreme_19 : Cond.fieldLink RX3 19 "BeforeTheEnd$Facts" "order" "[I" ∈ wsX3_findExtreme := by decide +kernel
theorem flX3_findExtreme_22 : Cond.fieldLink RX3 22 "BeforeTheEnd$Facts" "best" "[I" ∈ wsX3_findExtreme := by decide +kernel
theorem flX3_findExtreme_25 : Cond.fieldLink RX3 25 "BeforeTheEnd$Facts" "bestHad" "I" ∈ wsX3_findExtreme := by decide +kernel
theorem hinX3_findExtreme_X3 : ∀ w ∈ wsX30, w ∈ wsX3_findExtreme := fun _ h => List.mem_cons_of_mem _ (List.mem_append_right _ h)
def xX3_findExtreme_L2 (v1 : Int32) (w0 : zM) (w1 : Int32) : Option ((zM × Int32) ⊕ zM) :=
  if (5 : Int32) ≤ w1 then
  (some (.inr w0))
  else
  if (w1 < 0 ∨ 5 ≤ w1.toNatClampNeg) then none else
  zlet (zsi w0 74 w1.toNatClampNeg w1) fun M3 =>
  some (.inl (M3, (w1 + (1 : Int32))))
set_option maxHeartbeats 4000000 in
set_option maxRecDepth 100000 in
theorem tX3_findExtreme_L2 {κ : Nat → ClassId} {tg : Nat} {S : zEn} {ad : Nat → Nat} {X : zX} {pT : zM} {pR : zM} {pX : zM} {pB : zM} {pP : zP} {v1 : Int32} {w0 : zM} {w1 : Int32} {r : ((zM × Int32) ⊕ zM)} (hC : zC X cX3_findExtreme RX3 wsX3_findExtreme vwCl (zty κ) (zE tg S) 6 ({ frames := 2, cells := 0, slots := 0, locals := 47 } : Room)) (hEk : zEk (zE tg S)) (hin : ∀ (x0' : zM) (x1' : Int32), r = .inl (x0', x1') → zV X 0 0 (zwC κ ad pT pR pX x0' pB pP) [(0, .ref (ad 72)), (1, .int v1), (2, .int x1')] [] 2) (hout0 : ∀ (x0' : zM), r = .inr x0' → zV X 0 0 (zwC κ ad pT pR pX x0' pB pP) [(0, .ref (ad 72)), (1, .int v1)] [] 20) (h : xX3_findExtreme_L2  v1 w0 w1 = some r) : zV X 0 0 (zwC κ ad pT pR pX w0 pB pP) [(0, .ref (ad 72)), (1, .int v1), (2, .int w1)] [] 2 := by
  unfold xX3_findExtreme_L2 at h
  refine zr_iload_n (pc := 2) hC 2 rfl rfl dX3_findExtreme_2 ?_
  refine zr_iconst (pc := 3) hC zki_5 dX3_findExtreme_3 ?_
  refine zr_icmp_ge (pc := 4) (tgt := 20) hC dX3_findExtreme_4 (by decide) (fun c1 => ?_) (fun c1 => ?_)
  · replace h := zip h c1
    obtain rfl := Option.some.inj h
    exact zV.sub (lv' := [(0, .ref (ad 72)), (1, .int v1)]) [0, 1] rfl (hout0 w0 rfl)
  · replace h := zin h c1
    refine zr_aload_n (pc := 7) hC 0 rfl rfl dX3_findExtreme_7 ?_
    refine zcg_72_2 (pc := 8) hC hinX3_findExtreme_X3 flX3_findExtreme_19 dX3_findExtreme_8 ?_
    refine zr_iload_n (pc := 11) hC 2 rfl rfl dX3_findExtreme_11 ?_
    refine zr_iload_n (pc := 12) hC 2 rfl rfl dX3_findExtreme_12 ?_
    obtain ⟨i2, h⟩ := zgd h
    obtain ⟨M3, e4, h⟩ := zle h
    refine zcs_74 (pc := 13) hC i2 e4 dX3_findExtreme_13 ?_
    refine zr_iinc (pc := 14) (k := 2) (lv' := [(2, .int (w1 + (1 : Int32))), (0, .ref (ad 72)), (1, .int v1)]) hC zki_1 (by decide) rfl rfl dX3_findExtreme_14 ?_
    refine zr_goto (pc := 17) (tgt := 2) hC dX3_findExtreme_17 (by decide) ?_
    obtain rfl := Option.some.inj h
    exact zV.sub (lv' := [(0, .ref (ad 72)), (1, .int v1), (2, .int (w1 + (1 : Int32)))]) [1, 2, 0] rfl (hin M3 (w1 + (1 : Int32)) rfl)
def xX3_findExtreme_L90_L29 (v1 : Int32) (v3 : Int32) (w0 : zM) (w1 : Int32) : Option ((zM × Int32) ⊕ zM) :=
  if (5 : Int32) ≤ w1 then
  (some (.inr w0))
  else
  if (w1 < 0 ∨ 5 ≤ w1.toNatClampNeg) then none else
  zlet (zsi w0 75 w1.toNatClampNeg (w0.1 74 w1.toNatClampNeg)) fun M3 =>
  some (.inl (M3, (w1 + (1 : Int32))))
set_option maxHeartbeats 4000000 in
set_option maxRecDepth 100000 in
theorem tX3_findExtreme_L90_L29 {κ : Nat → ClassId} {tg : Nat} {S : zEn} {ad : Nat → Nat} {X : zX} {pT : zM} {pR : zM} {pX : zM} {pB : zM} {pP : zP} {v1 : Int32} {v3 : Int32} {w0 : zM} {w1 : Int32} {r : ((zM × Int32) ⊕ zM)} (hC : zC X cX3_findExtreme RX3 wsX3_findExtreme vwCl (zty κ) (zE tg S) 6 ({ frames := 2, cells := 0, slots := 0, locals := 47 } : Room)) (hEk : zEk (zE tg S)) (hin : ∀ (x0' : zM) (x1' : Int32), r = .inl (x0', x1') → zV X 0 0 (zwC κ ad pT pR pX x0' pB pP) [(0, .ref (ad 72)), (1, .int v1), (3, .int v3), (5, .int x1')] [] 90) (hout0 : ∀ (x0' : zM), r = .inr x0' → zV X 0 0 (zwC κ ad pT pR pX x0' pB pP) [(0, .ref (ad 72)), (1, .int v1), (3, .int v3)] [] 116) (h : xX3_findExtreme_L90_L29  v1 v3 w0 w1 = some r) : zV X 0 0 (zwC κ ad pT pR pX w0 pB pP) [(0, .ref (ad 72)), (1, .int v1), (3, .int v3), (5, .int w1)] [] 90 := by
  unfold xX3_findExtreme_L90_L29 at h
  refine zr_iload (pc := 90) hC 3 rfl dX3_findExtreme_90 ?_
  refine zr_iconst (pc := 92) hC zki_5 dX3_findExtreme_92 ?_
  refine zr_icmp_ge (pc := 93) (tgt := 116) hC dX3_findExtreme_93 (by decide) (fun c1 => ?_) (fun c1 => ?_)
  · replace h := zip h c1
    obtain rfl := Option.some.inj h
    exact zV.sub (lv' := [(0, .ref (ad 72)), (1, .int v1), (3, .int v3)]) [0, 1, 2] rfl (hout0 w0 rfl)
  · replace h := zin h c1
    refine zr_aload_n (pc := 96) hC 0 rfl rfl dX3_findExtreme_96 ?_
    refine zcg_72_3 (pc := 97) hC hinX3_findExtreme_X3 flX3_findExtreme_22 dX3_findExtreme_97 ?_
    refine zr_iload (pc := 100) hC 3 rfl dX3_findExtreme_100 ?_
    refine zr_aload_n (pc := 102) hC 0 rfl rfl dX3_findExtreme_102 ?_
    refine zcg_72_2 (pc := 103) hC hinX3_findExtreme_X3 flX3_findExtreme_19 dX3_findExtreme_103 ?_
    refine zr_iload (pc := 106) hC 3 rfl dX3_findExtreme_106 ?_
    obtain ⟨i2, h⟩ := zgd h
    refine zcl_74 (pc := 108) hC i2 dX3_findExtreme_108 ?_
    obtain ⟨M3, e4, h⟩ := zle h
    refine zcs_75 (pc := 109) hC i2 e4 dX3_findExtreme_109 ?_
    refine zr_iinc (pc := 110) (k := 3) (lv' := [(5, .int (w1 + (1 : Int32))), (0, .ref (ad 72)), (1, .int v1), (3, .int v3)]) hC zki_1 (by decide) rfl rfl dX3_findExtreme_110 ?_
    refine zr_goto (pc := 113) (tgt := 90) hC dX3_findExtreme_113 (by decide) ?_
    obtain rfl := Option.some.inj h
    exact zV.sub (lv' := [(0, .ref (ad 72)), (1, .int v1), (3, .int v3), (5, .int (w1 + (1 : Int32)))]) [1, 2, 3, 0] rfl (hin M3 (w1 + (1 : Int32)) rfl)
def xX3_findExtreme_L29 (v1 : Int32) (w0 : zM) (w1 : Int32) (w2 : Int32) : Option ((zM × Int32 × Int32) ⊕ zM) :=
  if (120 : Int32) ≤ w2 then
  (some (.inr w0))
  else
  if w1 = 0 then
  (some (.inr w0))
  else
  (xX3_hadBehind w0 (w0.1 72 1)).bind fun q3 =>
  if (w0.1 72 4) = 0 then
  (zlet (zsi w0 72 4 q3) fun M5 =>
  (x_it (fun a9 => xX3_findExtreme_L90_L29 v1 w2 a9.1 a9.2) zFU (M5, (0 : Int32))).bind fun q7 =>
  (xX3_nextOrder q7).bind fun q8 =>
  some (.inl (q8.2, q8.1, (w2 + (1 : Int32)))))
  else
  if v1 = 0 then
  (if (w0.1 72 4) ≤ q3 then
  ((xX3_nextOrder w0).bind fun q11 =>
  some (.inl (q11.2, q11.1, (w2 + (1 : Int32)))))
  else
  zlet (zsi w0 72 4 q3) fun M12 =>
  (x_it (fun a9 => xX3_findExtreme_L90_L29 v1 w2 a9.1 a9.2) zFU (M12, (0 : Int32))).bind fun q14 =>
  (xX3_nextOrder q14).bind fun q15 =>
  some (.inl (q15.2, q15.1, (w2 + (1 : Int32)))))
  else
  if q3 ≤ (w0.1 72 4) then
  ((xX3_nextOrder w0).bind fun q17 =>
  some (.inl (q17.2, q17.1, (w2 + (1 : Int32)))))
  else
  zlet (zsi w0 72 4 q3) fun M18 =>
  (x_it (fun a9 => xX3_findExtreme_L90_L29 v1 w2 a9.1 a9.2) zFU (M18, (0 : Int32))).bind fun q20 =>
  (xX3_nextOrder q20).bind fun q21 =>
  some (.inl (q21.2, q21.1, (w2 + (1 : Int32))))
set_option maxHeartbeats 4000000 in
set_option maxRecDepth 100000 in
theorem tX3_findExtreme_L29 {κ : Nat → ClassId} {tg : Nat} {S : zEn} {ad : Nat → Nat} {X : zX} {pT : zM} {pR : zM} {pX : zM} {pB : zM} {pP : zP} {v1 : Int32} {w0 : zM} {w1 : Int32} {w2 : Int32} {r : ((zM × Int32 × Int32) ⊕ zM)} (hC : zC X cX3_findExtreme RX3 wsX3_findExtreme vwCl (zty κ) (zE tg S) 6 ({ frames := 2, cells := 0, slots := 0, locals := 47 } : Room)) (hEk : zEk (zE tg S)) (hin : ∀ (x0' : zM) (x1' : Int32) (x2' : Int32), r = .inl (x0', x1', x2') → zV X 0 0 (zwC κ ad pT pR pX x0' pB pP) [(0, .ref (ad 72)), (1, .int v1), (2, .int x1'), (3, .int x2')] [] 29) (hout0 : ∀ (x0' : zM), r = .inr x0' → zV X 0 0 (zwC κ ad pT pR pX x0' pB pP) [] [] 127) (h : xX3_findExtreme_L29  v1 w0 w1 w2 = some r) : zV X 0 0 (zwC κ ad pT pR pX w0 pB pP) [(0, .ref (ad 72)), (1, .int v1), (2, .int w1), (3, .int w2)] [] 29 := by
  unfold xX3_findExtreme_L29 at h
  refine zr_iload_n (pc := 29) hC 3 rfl rfl dX3_findExtreme_29 ?_
  refine zr_bipush (pc := 30) hC zkb_120 dX3_findExtreme_30 ?_
  refine zr_icmp_ge (pc := 32) (tgt := 127) hC dX3_findExtreme_32 (by decide) (fun c1 => ?_) (fun c1 => ?_)
  · replace h := zip h c1
    obtain rfl := Option.some.inj h
    exact zV.sub (lv' := []) [] rfl (hout0 w0 rfl)
  · replace h := zin h c1
    refine zr_iload_n (pc := 35) hC 2 rfl rfl dX3_findExtreme_35 ?_
    refine zr_if_eq (pc := 36) (tgt := 127) hC dX3_findExtreme_36 (by decide) (fun c2 => ?_) (fun c2 => ?_)
    · replace h := zip h c2
      obtain rfl := Option.some.inj h
      exact zV.sub (lv' := []) [] rfl (hout0 w0 rfl)
    · replace h := zin h c2
      refine zr_aload_n (pc := 39) hC 0 rfl rfl dX3_findExtreme_39 ?_
      refine zr_aload_n (pc := 40) hC 0 rfl rfl dX3_findExtreme_40 ?_
      refine zcg_72_1 (pc := 41) hC hinX3_findExtreme_X3 flX3_findExtreme_15 dX3_findExtreme_41 ?_
      obtain ⟨q3, hq3, h⟩ := zbd h
      refine zr_cVi (pc := 44) hC hEk [.int (w0.1 72 1)] [] 72 1 (fun l D => tX3_hadBehind hEk hq3 l D) gX3_findExtreme_X3_hadBehind rfl rfl rfl ⟨Nat.le_of_ble_eq_true rfl, Nat.le_of_ble_eq_true rfl⟩ hyX3_hadBehind (zNC (by decide)) entC_72 rfl rfl rfl (Nat.le_of_ble_eq_true rfl) ⟨Nat.le_of_ble_eq_true rfl, Nat.le_of_ble_eq_true rfl⟩ dX3_findExtreme_44 ?_
      refine zr_istore (pc := 47) (lv' := [(4, .int q3), (0, .ref (ad 72)), (1, .int v1), (2, .int w1), (3, .int w2)]) hC (by decide) rfl dX3_findExtreme_47 ?_
      refine zr_aload_n (pc := 49) hC 1 rfl rfl dX3_findExtreme_49 ?_
      refine zcg_72_4 (pc := 50) hC hinX3_findExtreme_X3 flX3_findExtreme_25 dX3_findExtreme_50 ?_
      refine zr_if_eq (pc := 53) (tgt := 81) hC dX3_findExtreme_53 (by decide) (fun c4 => ?_) (fun c4 => ?_)
      · replace h := zip h c4
        refine zr_aload_n (pc := 81) hC 1 rfl rfl dX3_findExtreme_81 ?_
        refine zr_iload (pc := 82) hC 0 rfl dX3_findExtreme_82 ?_
        obtain ⟨M5, e6, h⟩ := zle h
        refine zcp_72_4 (pc := 84) hC hinX3_findExtreme_X3 flX3_findExtreme_25 e6 dX3_findExtreme_84 ?_
        refine zr_iconst (pc := 87) hC zki_0 dX3_findExtreme_87 ?_
        refine zr_istore (pc := 88) (lv' := [(5, .int (0 : Int32)), (4, .int q3), (0, .ref (ad 72)), (1, .int v1), (2, .int w1), (3, .int w2)]) hC (by decide) rfl dX3_findExtreme_88 ?_
        obtain ⟨q7, hq7, h⟩ := zbd h
        refine zV.sub (lv' := [(0, .ref (ad 72)), (1, .int v1), (3, .int w2), (5, .int (0 : Int32))]) [2, 3, 5, 0] rfl ?_
        refine zit2 (Wp := fun (y0 : zM) (y1 : Int32) => zV X 0 0 (zwC κ ad pT pR pX y0 pB pP) [(0, .ref (ad 72)), (1, .int v1), (3, .int w2), (5, .int y1)] [] 90) (Ex := fun (b9 : zM) => zV X 0 0 (zwC κ ad pT pR pX b9 pB pP) [(0, .ref (ad 72)), (1, .int v1), (3, .int w2)] [] 116) (fun y0 y1 r9 hr hin hout => tX3_findExtreme_L90_L29 hC hEk hin (fun z0 e9 => hout z0 e9) hr) zFU M5 (0 : Int32) q7 hq7 ?_
        show zV X 0 0 (zwC κ ad pT pR pX q7 pB pP) [(0, .ref (ad 72)), (1, .int v1), (3, .int w2)] [] 116
        refine zr_aload_n (pc := 116) hC 0 rfl rfl dX3_findExtreme_116 ?_
        obtain ⟨q8, hq8, h⟩ := zbd h
        refine zr_cVi (pc := 117) hC hEk [] [] 72 0 (fun l D => tX3_nextOrder hEk hq8 l D) gX3_findExtreme_X3_nextOrder rfl rfl rfl ⟨Nat.le_of_ble_eq_true rfl, Nat.le_of_ble_eq_true rfl⟩ hyX3_nextOrder (zNC (by decide)) entC_72 rfl rfl rfl (Nat.le_of_ble_eq_true rfl) ⟨Nat.le_of_ble_eq_true rfl, Nat.le_of_ble_eq_true rfl⟩ dX3_findExtreme_117 ?_
        refine zr_istore_n (pc := 120) (lv' := [(2, .int q8.1), (0, .ref (ad 72)), (1, .int v1), (3, .int w2)]) hC rfl (by decide) rfl dX3_findExtreme_120 ?_
        refine zr_iinc (pc := 121) (k := 3) (lv' := [(3, .int (w2 + (1 : Int32))), (2, .int q8.1), (0, .ref (ad 72)), (1, .int v1)]) hC zki_1 (by decide) rfl rfl dX3_findExtreme_121 ?_
        refine zr_goto (pc := 124) (tgt := 29) hC dX3_findExtreme_124 (by decide) ?_
        obtain rfl := Option.some.inj h
        exact zV.sub (lv' := [(0, .ref (ad 72)), (1, .int v1), (2, .int q8.1), (3, .int (w2 + (1 : Int32)))]) [2, 3, 1, 0] rfl (hin q8.2 q8.1 (w2 + (1 : Int32)) rfl)
      · replace h := zin h c4
        refine zr_iload_n (pc := 56) hC 2 rfl rfl dX3_findExtreme_56 ?_
        refine zr_if_eq (pc := 57) (tgt := 72) hC dX3_findExtreme_57 (by decide) (fun c9 => ?_) (fun c9 => ?_)
        · replace h := zip h c9
          refine zr_iload (pc := 72) hC 0 rfl dX3_findExtreme_72 ?_
          refine zr_aload_n (pc := 74) hC 1 rfl rfl dX3_findExtreme_74 ?_
          refine zcg_72_4 (pc := 75) hC hinX3_findExtreme_X3 flX3_findExtreme_25 dX3_findExtreme_75 ?_
          refine zr_icmp_ge (pc := 78) (tgt := 116) hC dX3_findExtreme_78 (by decide) (fun c10 => ?_) (fun c10 => ?_)
          · replace h := zip h c10
            refine zr_aload_n (pc := 116) hC 1 rfl rfl dX3_findExtreme_116 ?_
            obtain ⟨q11, hq11, h⟩ := zbd h
            refine zr_cVi (pc := 117) hC hEk [] [] 72 0 (fun l D => tX3_nextOrder hEk hq11 l D) gX3_findExtreme_X3_nextOrder rfl rfl rfl ⟨Nat.le_of_ble_eq_true rfl, Nat.le_of_ble_eq_true rfl⟩ hyX3_nextOrder (zNC (by decide)) entC_72 rfl rfl rfl (Nat.le_of_ble_eq_true rfl) ⟨Nat.le_of_ble_eq_true rfl, Nat.le_of_ble_eq_true rfl⟩ dX3_findExtreme_117 ?_
            refine zr_istore_n (pc := 120) (lv' := [(2, .int q11.1), (4, .int q3), (0, .ref (ad 72)), (1, .int v1), (3, .int w2)]) hC rfl (by decide) rfl dX3_findExtreme_120 ?_
            refine zr_iinc (pc := 121) (k := 4) (lv' := [(3, .int (w2 + (1 : Int32))), (2, .int q11.1), (4, .int q3), (0, .ref (ad 72)), (1, .int v1)]) hC zki_1 (by decide) rfl rfl dX3_findExtreme_121 ?_
            refine zr_goto (pc := 124) (tgt := 29) hC dX3_findExtreme_124 (by decide) ?_
            obtain rfl := Option.some.inj h
            exact zV.sub (lv' := [(0, .ref (ad 72)), (1, .int v1), (2, .int q11.1), (3, .int (w2 + (1 : Int32)))]) [3, 4, 1, 0] rfl (hin q11.2 q11.1 (w2 + (1 : Int32)) rfl)
          · replace h := zin h c10
            refine zr_aload_n (pc := 81) hC 1 rfl rfl dX3_findExtreme_81 ?_
            refine zr_iload (pc := 82) hC 0 rfl dX3_findExtreme_82 ?_
            obtain ⟨M12, e13, h⟩ := zle h
            refine zcp_72_4 (pc := 84) hC hinX3_findExtreme_X3 flX3_findExtreme_25 e13 dX3_findExtreme_84 ?_
            refine zr_iconst (pc := 87) hC zki_0 dX3_findExtreme_87 ?_
            refine zr_istore (pc := 88) (lv' := [(5, .int (0 : Int32)), (4, .int q3), (0, .ref (ad 72)), (1, .int v1), (2, .int w1), (3, .int w2)]) hC (by decide) rfl dX3_findExtreme_88 ?_
            obtain ⟨q14, hq14, h⟩ := zbd h
            refine zV.sub (lv' := [(0, .ref (ad 72)), (1, .int v1), (3, .int w2), (5, .int (0 : Int32))]) [2, 3, 5, 0] rfl ?_
            refine zit2 (Wp := fun (y0 : zM) (y1 : Int32) => zV X 0 0 (zwC κ ad pT pR pX y0 pB pP) [(0, .ref (ad 72)), (1, .int v1), (3, .int w2), (5, .int y1)] [] 90) (Ex := fun (b9 : zM) => zV X 0 0 (zwC κ ad pT pR pX b9 pB pP) [(0, .ref (ad 72)), (1, .int v1), (3, .int w2)] [] 116) (fun y0 y1 r9 hr hin hout => tX3_findExtreme_L90_L29 hC hEk hin (fun z0 e9 => hout z0 e9) hr) zFU M12 (0 : Int32) q14 hq14 ?_
            show zV X 0 0 (zwC κ ad pT pR pX q14 pB pP) [(0, .ref (ad 72)), (1, .int v1), (3, .int w2)] [] 116
            refine zr_aload_n (pc := 116) hC 0 rfl rfl dX3_findExtreme_116 ?_
            obtain ⟨q15, hq15, h⟩ := zbd h
            refine zr_cVi (pc := 117) hC hEk [] [] 72 0 (fun l D => tX3_nextOrder hEk hq15 l D) gX3_findExtreme_X3_nextOrder rfl rfl rfl ⟨Nat.le_of_ble_eq_true rfl, Nat.le_of_ble_eq_true rfl⟩ hyX3_nextOrder (zNC (by decide)) entC_72 rfl rfl rfl (Nat.le_of_ble_eq_true rfl) ⟨Nat.le_of_ble_eq_true rfl, Nat.le_of_ble_eq_true rfl⟩ dX3_findExtreme_117 ?_
            refine zr_istore_n (pc := 120) (lv' := [(2, .int q15.1), (0, .ref (ad 72)), (1, .int v1), (3, .int w2)]) hC rfl (by decide) rfl dX3_findExtreme_120 ?_
            refine zr_iinc (pc := 121) (k := 3) (lv' := [(3, .int (w2 + (1 : Int32))), (2, .int q15.1), (0, .ref (ad 72)), (1, .int v1)]) hC zki_1 (by decide) rfl rfl dX3_findExtreme_121 ?_
            refine zr_goto (pc := 124) (tgt := 29) hC dX3_findExtreme_124 (by decide) ?_
            obtain rfl := Option.some.inj h
            exact zV.sub (lv' := [(0, .ref (ad 72)), (1, .int v1), (2, .int q15.1), (3, .int (w2 + (1 : Int32)))]) [2, 3, 1, 0] rfl (hin q15.2 q15.1 (w2 + (1 : Int32)) rfl)
        · replace h := zin h c9
          refine zr_iload (pc := 60) hC 0 rfl dX3_findExtreme_60 ?_
          refine zr_aload_n (pc := 62) hC 1 rfl rfl dX3_findExtreme_62 ?_
          refine zcg_72_4 (pc := 63) hC hinX3_findExtreme_X3 flX3_findExtreme_25 dX3_findExtreme_63 ?_
          refine zr_icmp_le (pc := 66) (tgt := 116) hC dX3_findExtreme_66 (by decide) (fun c16 => ?_) (fun c16 => ?_)
          · replace h := zip h c16
            refine zr_aload_n (pc := 116) hC 1 rfl rfl dX3_findExtreme_116 ?_
            obtain ⟨q17, hq17, h⟩ := zbd h
            refine zr_cVi (pc := 117) hC hEk [] [] 72 0 (fun l D => tX3_nextOrder hEk hq17 l D) gX3_findExtreme_X3_nextOrder rfl rfl rfl ⟨Nat.le_of_ble_eq_true rfl, Nat.le_of_ble_eq_true rfl⟩ hyX3_nextOrder (zNC (by decide)) entC_72 rfl rfl rfl (Nat.le_of_ble_eq_true rfl) ⟨Nat.le_of_ble_eq_true rfl, Nat.le_of_ble_eq_true rfl⟩ dX3_findExtreme_117 ?_
            refine zr_istore_n (pc := 120) (lv' := [(2, .int q17.1), (4, .int q3), (0, .ref (ad 72)), (1, .int v1), (3, .int w2)]) hC rfl (by decide) rfl dX3_findExtreme_120 ?_
            refine zr_iinc (pc := 121) (k := 4) (lv' := [(3, .int (w2 + (1 : Int32))), (2, .int q17.1), (4, .int q3), (0, .ref (ad 72)), (1, .int v1)]) hC zki_1 (by decide) rfl rfl dX3_findExtreme_121 ?_
            refine zr_goto (pc := 124) (tgt := 29) hC dX3_findExtreme_124 (by decide) ?_
            obtain rfl := Option.some.inj h
            exact zV.sub (lv' := [(0, .ref (ad 72)), (1, .int v1), (2, .int q17.1), (3, .int (w2 + (1 : Int32)))]) [3, 4, 1, 0] rfl (hin q17.2 q17.1 (w2 + (1 : Int32)) rfl)
          · replace h := zin h c16
            refine zr_goto (pc := 69) (tgt := 81) hC dX3_findExtreme_69 (by decide) ?_
            refine zr_aload_n (pc := 81) hC 1 rfl rfl dX3_findExtreme_81 ?_
            refine zr_iload (pc := 82) hC 0 rfl dX3_findExtreme_82 ?_
            obtain ⟨M18, e19, h⟩ := zle h
            refine zcp_72_4 (pc := 84) hC hinX3_findExtreme_X3 flX3_findExtreme_25 e19 dX3_findExtreme_84 ?_
            refine zr_iconst (pc := 87) hC zki_0 dX3_findExtreme_87 ?_
            refine zr_istore (pc := 88) (lv' := [(5, .int (0 : Int32)), (4, .int q3), (0, .ref (ad 72)), (1, .int v1), (2, .int w1), (3, .int w2)]) hC (by decide) rfl dX3_findExtreme_88 ?_
            obtain ⟨q20, hq20, h⟩ := zbd h
            refine zV.sub (lv' := [(0, .ref (ad 72)), (1, .int v1), (3, .int w2), (5, .int (0 : Int32))]) [2, 3, 5, 0] rfl ?_
            refine zit2 (Wp := fun (y0 : zM) (y1 : Int32) => zV X 0 0 (zwC κ ad pT pR pX y0 pB pP) [(0, .ref (ad 72)), (1, .int v1), (3, .int w2), (5, .int y1)] [] 90) (Ex := fun (b9 : zM) => zV X 0 0 (zwC κ ad pT pR pX b9 pB pP) [(0, .ref (ad 72)), (1, .int v1), (3, .int w2)] [] 116) (fun y0 y1 r9 hr hin hout => tX3_findExtreme_L90_L29 hC hEk hin (fun z0 e9 => hout z0 e9) hr) zFU M18 (0 : Int32) q20 hq20 ?_
            show zV X 0 0 (zwC κ ad pT pR pX q20 pB pP) [(0, .ref (ad 72)), (1, .int v1), (3, .int w2)] [] 116
            refine zr_aload_n (pc := 116) hC 0 rfl rfl dX3_findExtreme_116 ?_
            obtain ⟨q21, hq21, h⟩ := zbd h
            refine zr_cVi (pc := 117) hC hEk [] [] 72 0 (fun l D => tX3_nextOrder hEk hq21 l D) gX3_findExtreme_X3_nextOrder rfl rfl rfl ⟨Nat.le_of_ble_eq_true rfl, Nat.le_of_ble_eq_true rfl⟩ hyX3_nextOrder (zNC (by decide)) entC_72 rfl rfl rfl (Nat.le_of_ble_eq_true rfl) ⟨Nat.le_of_ble_eq_true rfl, Nat.le_of_ble_eq_true rfl⟩ dX3_findExtreme_117 ?_
            refine zr_istore_n (pc := 120) (lv' := [(2, .int q21.1), (0, .ref (ad 72)), (1, .int v1), (3, .int w2)]) hC rfl (by decide) rfl dX3_findExtreme_120 ?_
            refine zr_iinc (pc := 121) (k := 3) (lv' := [(3, .int (w2 + (1 : Int32))), (2, .int q21.1), (0, .ref (ad 72)), (1, .int v1)]) hC zki_1 (by decide) rfl rfl dX3_findExtreme_121 ?_
            refine zr_goto (pc := 124) (tgt := 29) hC dX3_findExtreme_124 (by decide) ?_
            obtain rfl := Option.some.inj h
            exact zV.sub (lv' := [(0, .ref (ad 72)), (1, .int v1), (2, .int q21.1), (3, .int (w2 + (1 : Int32)))]) [2, 3, 1, 0] rfl (hin q21.2 q21.1 (w2 + (1 : Int32)) rfl)
def xX3_findExtreme (pF : zM) (v1 : Int32) : Option zM :=
  (x_it (fun a9 => xX3_findExtreme_L2 v1 a9.1 a9.2) zFU (pF, (0 : Int32))).bind fun q1 =>
  zlet (zsi q1 72 4 (0 : Int32)) fun M2 =>
  (x_it (fun a9 => xX3_findExtreme_L29 v1 a9.1 a9.2.1 a9.2.2) zFU (M2, (1 : Int32), (0 : Int32))).bind fun q4 =>
  some q4
set_option maxHeartbeats 4000000 in
set_option maxRecDepth 100000 in
theorem tX3_findExtreme {κ : Nat → ClassId} {tg : Nat} {S : zEn} {ad : Nat → Nat} (hEk : zEk (zE tg S)) {pT : zM} {pR : zM} {pX : zM} {pF : zM} {pB : zM} {pP : zP} {v1 : Int32} {res : zM} (h : xX3_findExtreme pF v1 = some res) (l : Launch) (D : va_G) : zCT (zE tg S) D vwCl (zty κ) l yX3_findExtreme wsX3_findExtreme ({ frames := 2, cells := 0, slots := 0, locals := 47 } : Room) 0 0 [.ref (ad 72), .int v1] (zwC κ ad pT pR pX pF pB pP) (zPd none (zwC κ ad pT pR pX res pB pP)) := by
  refine zCT.of (cc := cX3_findExtreme) (maxL := 6) (ret := none) (by decide) rfl (Nat.le_of_ble_eq_true rfl) ?_
  intro X hC hR
  unfold xX3_findExtreme at h
  refine zV.sub (lv' := [(0, .ref (ad 72)), (1, .int v1)]) [0, 1] rfl ?_
  refine zr_iconst (pc := 0) hC zki_0 dX3_findExtreme_0 ?_
  refine zr_istore_n (pc := 1) (lv' := [(2, .int (0 : Int32)), (0, .ref (ad 72)), (1, .int v1)]) hC rfl (by decide) rfl dX3_findExtreme_1 ?_
  obtain ⟨q1, hq1, h⟩ := zbd h
  refine zV.sub (lv' := [(0, .ref (ad 72)), (1, .int v1), (2, .int (0 : Int32))]) [1, 2, 0] rfl ?_
  refine zit2 (Wp := fun (y0 : zM) (y1 : Int32) => zV X 0 0 (zwC κ ad pT pR pX y0 pB pP) [(0, .ref (ad 72)), (1, .int v1), (2, .int y1)] [] 2) (Ex := fun (b9 : zM) => zV X 0 0 (zwC κ ad pT pR pX b9 pB pP) [(0, .ref (ad 72)), (1, .int v1)] [] 20) (fun y0 y1 r9 hr hin hout => tX3_findExtreme_L2 hC hEk hin (fun z0 e9 => hout z0 e9) hr) zFU pF (0 : Int32) q1 hq1 ?_
  show zV X 0 0 (zwC κ ad pT pR pX q1 pB pP) [(0, .ref (ad 72)), (1, .int v1)] [] 20
  refine zr_aload_n (pc := 20) hC 0 rfl rfl dX3_findExtreme_20 ?_
  refine zr_iconst (pc := 21) hC zki_0 dX3_findExtreme_21 ?_
  obtain ⟨M2, e3, h⟩ := zle h
  refine zcp_72_4 (pc := 22) hC hinX3_findExtreme_X3 flX3_findExtreme_25 e3 dX3_findExtreme_22 ?_
  refine zr_iconst (pc := 25) hC zki_1 dX3_findExtreme_25 ?_
  refine zr_istore_n (pc := 26) (lv' := [(2, .int (1 : Int32)), (0, .ref (ad 72)), (1, .int v1)]) hC rfl (by decide) rfl dX3_findExtreme_26 ?_
  refine zr_iconst (pc := 27) hC zki_0 dX3_findExtreme_27 ?_
  refine zr_istore_n (pc := 28) (lv' := [(3, .int (0 : Int32)), (2, .int (1 : Int32)), (0, .ref (ad 72)), (1, .int v1)]) hC rfl (by decide) rfl dX3_findExtreme_28 ?_
  obtain ⟨q4, hq4, h⟩ := zbd h
  refine zV.sub (lv' := [(0, .ref (ad 72)), (1, .int v1), (2, .int (1 : Int32)), (3, .int (0 : Int32))]) [2, 3, 1, 0] rfl ?_
  refine zit3 (Wp := fun (y0 : zM) (y1 : Int32) (y2 : Int32) => zV X 0 0 (zwC κ ad pT pR pX y0 pB pP) [(0, .ref (ad 72)), (1, .int v1), (2, .int y1), (3, .int y2)] [] 29) (Ex := fun (b9 : zM) => zV X 0 0 (zwC κ ad pT pR pX b9 pB pP) [] [] 127) (fun y0 y1 y2 r9 hr hin hout => tX3_findExtreme_L29 hC hEk hin (fun z0 e9 => hout z0 e9) hr) zFU M2 (1 : Int32) (0 : Int32) q4 hq4 ?_
  show zV X 0 0 (zwC κ ad pT pR pX q4 pB pP) [] [] 127
  obtain rfl := Option.some.inj h
  exact zr_vret hC hR ⟨rfl, rfl⟩ (Nat.le_refl _) (Nat.le_refl _) dX3_findExtreme_127
/-! X3_told -/
theorem hyX3_told : yX3_told.cls = RX3 ∧ yX3_told.cls ≠ "java/lang/invoke/MethodHandle" ∧ yX3_told.cls ≠ "java/lang/invoke/VarHandle" ∧ (parseMethodDescriptor yX3_told.desc).map (fun d => d.parameters.length) = some 1 := by decide +kernel
theorem flX3_told_15 : Cond.fieldLink RX3 15 "BeforeTheEnd$Facts" "count" "I" ∈ wsX3_told := by decide +kernel
theorem flX3_told_22 : Cond.fieldLink RX3 22 "BeforeTheEnd$Facts" "best" "[I" ∈ wsX3_told := by decide +kernel
theorem flX3_told_25 : Cond.fieldLink RX3 25 "BeforeTheEnd$Facts" "bestHad" "I" ∈ wsX3_told := by decide +kernel
theorem hinX3_told_X3 : ∀ w ∈ wsX30, w ∈ wsX3_told := fun _ h => List.mem_cons_of_mem _ (List.mem_append_right _ h)
def xX3_told (pF : zM) (v1 : Int32) : Option Int32 :=
  if v1 = (-1 : Int32) then
  (some (pF.1 72 4))
  else
  if v1 < 0 then
  (some (-9 : Int32))
  else
  if (5 : Int32) ≤ v1 then
  (some (-9 : Int32))
  else
  if (pF.1 72 1) ≤ v1 then
  (some (-9 : Int32))
  else
  if (v1 < 0 ∨ 5 ≤ v1.toNatClampNeg) then none else
  some (pF.1 75 v1.toNatClampNeg)
set_option maxHeartbeats 4000000 in
set_option maxRecDepth 100000 in
theorem tX3_told {κ : Nat → ClassId} {tg : Nat} {S : zEn} {ad : Nat → Nat} (hEk : zEk (zE tg S)) {pT : zM} {pR : zM} {pX : zM} {pF : zM} {pB : zM} {pP : zP} {v1 : Int32} {res : Int32} (h : xX3_told pF v1 = some res) (l : Launch) (D : va_G) : zCT (zE tg S) D vwCl (zty κ) l yX3_told wsX3_told ({ frames := 0, cells := 0, slots := 0, locals := 0 } : Room) 0 0 [.ref (ad 72), .int v1] (zwC κ ad pT pR pX pF pB pP) (zPd (some (.int res)) (zwC κ ad pT pR pX pF pB pP)) := by
  refine zCT.of (cc := cX3_told) (maxL := 2) (ret := (some .int)) (by decide) rfl (Nat.le_of_ble_eq_true rfl) ?_
  intro X hC hR
  unfold xX3_told at h
  refine zV.sub (lv' := [(0, .ref (ad 72)), (1, .int v1)]) [0, 1] rfl ?_
  refine zr_iload_n (pc := 0) hC 1 rfl rfl dX3_told_0 ?_
  refine zr_iconst (pc := 1) hC zki_m1 dX3_told_1 ?_
  refine zr_icmp_ne (pc := 2) (tgt := 10) hC dX3_told_2 (by decide) (fun c1 => ?_) (fun c1 => ?_)
  · replace h := zin h c1
    refine zr_iload_n (pc := 10) hC 1 rfl rfl dX3_told_10 ?_
    refine zr_if_lt (pc := 11) (tgt := 36) hC dX3_told_11 (by decide) (fun c2 => ?_) (fun c2 => ?_)
    · replace h := zip h c2
      refine zr_bipush (pc := 36) hC zkb_m9 dX3_told_36 ?_
      obtain rfl := Option.some.inj h
      exact zr_iret hC hR ⟨rfl, rfl⟩ (Nat.le_refl _) (Nat.le_refl _) dX3_told_38
    · replace h := zin h c2
      refine zr_iload_n (pc := 14) hC 1 rfl rfl dX3_told_14 ?_
      refine zr_iconst (pc := 15) hC zki_5 dX3_told_15 ?_
      refine zr_icmp_ge (pc := 16) (tgt := 36) hC dX3_told_16 (by decide) (fun c3 => ?_) (fun c3 => ?_)
      · replace h := zip h c3
        refine zr_bipush (pc := 36) hC zkb_m9 dX3_told_36 ?_
        obtain rfl := Option.some.inj h
        exact zr_iret hC hR ⟨rfl, rfl⟩ (Nat.le_refl _) (Nat.le_refl _) dX3_told_38
      · replace h := zin h c3
        refine zr_iload_n (pc := 19) hC 1 rfl rfl dX3_told_19 ?_
        refine zr_aload_n (pc := 20) hC 0 rfl rfl dX3_told_20 ?_
        refine zcg_72_1 (pc := 21) hC hinX3_told_X3 flX3_told_15 dX3_told_21 ?_
        refine zr_icmp_ge (pc := 24) (tgt := 36) hC dX3_told_24 (by decide) (fun c4 => ?_) (fun c4 => ?_)
        · replace h := zip h c4
          refine zr_bipush (pc := 36) hC zkb_m9 dX3_told_36 ?_
          obtain rfl := Option.some.inj h
          exact zr_iret hC hR ⟨rfl, rfl⟩ (Nat.le_refl _) (Nat.le_refl _) dX3_told_38
        · replace h := zin h c4
          refine zr_aload_n (pc := 27) hC 0 rfl rfl dX3_told_27 ?_
          refine zcg_72_3 (pc := 28) hC hinX3_told_X3 flX3_told_22 dX3_told_28 ?_
          refine zr_iload_n (pc := 31) hC 1 rfl rfl dX3_told_31 ?_
          obtain ⟨i5, h⟩ := zgd h
          refine zcl_75 (pc := 32) hC i5 dX3_told_32 ?_
          refine zr_goto (pc := 33) (tgt := 38) hC dX3_told_33 (by decide) ?_
          obtain rfl := Option.some.inj h
          exact zr_iret hC hR ⟨rfl, rfl⟩ (Nat.le_refl _) (Nat.le_refl _) dX3_told_38
  · replace h := zip h c1
    refine zr_aload_n (pc := 5) hC 0 rfl rfl dX3_told_5 ?_
    refine zcg_72_4 (pc := 6) hC hinX3_told_X3 flX3_told_25 dX3_told_6 ?_
    obtain rfl := Option.some.inj h
    exact zr_iret hC hR ⟨rfl, rfl⟩ (Nat.le_refl _) (Nat.le_refl _) dX3_told_9
/-! X6_size -/
theorem hyX6_size : yX6_size.cls = RX6 ∧ yX6_size.cls ≠ "java/lang/invoke/MethodHandle" ∧ yX6_size.cls ≠ "java/lang/invoke/VarHandle" ∧ (parseMethodDescriptor yX6_size.desc).map (fun d => d.parameters.length) = some 0 := by decide +kernel
theorem flX6_size_17 : Cond.fieldLink RX6 17 "BeforeTheEnd$Race" "count" "I" ∈ wsX6_size := by decide +kernel
theorem hinX6_size_X6 : ∀ w ∈ wsX60, w ∈ wsX6_size := fun _ h => List.mem_cons_of_mem _ (List.mem_append_right _ h)
def xX6_size (pR : zM)  : Option Int32 :=
  some (pR.1 62 2)
set_option maxHeartbeats 4000000 in
set_option maxRecDepth 100000 in
theorem tX6_size {κ : Nat → ClassId} {tg : Nat} {S : zEn} {ad : Nat → Nat} (hEk : zEk (zE tg S)) {pT : zM} {pR : zM} {pX : zM} {pF : zM} {pB : zM} {pP : zP}  {res : Int32} (h : xX6_size pR  = some res) (l : Launch) (D : va_G) : zCT (zE tg S) D vwCl (zty κ) l yX6_size wsX6_size ({ frames := 0, cells := 0, slots := 0, locals := 0 } : Room) 0 0 [.ref (ad 62)] (zwC κ ad pT pR pX pF pB pP) (zPd (some (.int res)) (zwC κ ad pT pR pX pF pB pP)) := by
  refine zCT.of (cc := cX6_size) (maxL := 1) (ret := (some .int)) (by decide) rfl (Nat.le_of_ble_eq_true rfl) ?_
  intro X hC hR
  unfold xX6_size at h
  refine zV.sub (lv' := [(0, .ref (ad 62))]) [0] rfl ?_
  refine zr_aload_n (pc := 0) hC 0 rfl rfl dX6_size_0 ?_
  refine zcg_62_2 (pc := 1) hC hinX6_size_X6 flX6_size_17 dX6_size_1 ?_
  obtain rfl := Option.some.inj h
  exact zr_iret hC hR ⟨rfl, rfl⟩ (Nat.le_refl _) (Nat.le_refl _) dX6_size_4
/-! X6_playerAt -/
theorem hyX6_playerAt : yX6_playerAt.cls = RX6 ∧ yX6_playerAt.cls ≠ "java/lang/invoke/MethodHandle" ∧ yX6_playerAt.cls ≠ "java/lang/invoke/VarHandle" ∧ (parseMethodDescriptor yX6_playerAt.desc).map (fun d => d.parameters.length) = some 1 := by decide +kernel
theorem flX6_playerAt_11 : Cond.fieldLink RX6 11 "BeforeTheEnd$Race" "players" "[LBeforeTheEnd$Player;" ∈ wsX6_playerAt := by decide +kernel
theorem flX6_playerAt_17 : Cond.fieldLink RX6 17 "BeforeTheEnd$Race" "count" "I" ∈ wsX6_playerAt := by decide +kernel
theorem hinX6_playerAt_X6 : ∀ w ∈ wsX60, w ∈ wsX6_playerAt := fun _ h => List.mem_cons_of_mem _ (List.mem_append_right _ h)
def xX6_playerAt (pR : zM) (pP : zP) (v1 : Int32) : Option (Option Nat) :=
  if v1 < 0 then
  (some (none : Option Nat))
  else
  if (4 : Int32) ≤ v1 then
  (some (none : Option Nat))
  else
  if (pR.1 62 2) ≤ v1 then
  (some (none : Option Nat))
  else
  if (v1 < 0 ∨ 4 ≤ v1.toNatClampNeg) then none else
  some (pP.1 v1.toNatClampNeg)
set_option maxHeartbeats 4000000 in
set_option maxRecDepth 100000 in
theorem tX6_playerAt {κ : Nat → ClassId} {tg : Nat} {S : zEn} {ad : Nat → Nat} (hEk : zEk (zE tg S)) {pT : zM} {pR : zM} {pX : zM} {pF : zM} {pB : zM} {pP : zP} {v1 : Int32} {res : (Option Nat)} (h : xX6_playerAt pR pP v1 = some res) (l : Launch) (D : va_G) : zCT (zE tg S) D vwCl (zty κ) l yX6_playerAt wsX6_playerAt ({ frames := 0, cells := 0, slots := 0, locals := 0 } : Room) 0 0 [.ref (ad 62), .int v1] (zwC κ ad pT pR pX pF pB pP) (zPd (some (va_rf (res.map (fun a => ad (81 + a))))) (zwC κ ad pT pR pX pF pB pP)) := by
  refine zCT.of (cc := cX6_playerAt) (maxL := 2) (ret := (some (.object "BeforeTheEnd$Player"))) (by decide) rfl (Nat.le_of_ble_eq_true rfl) ?_
  intro X hC hR
  unfold xX6_playerAt at h
  refine zV.sub (lv' := [(0, .ref (ad 62)), (1, .int v1)]) [0, 1] rfl ?_
  refine zr_iload_n (pc := 0) hC 1 rfl rfl dX6_playerAt_0 ?_
  refine zr_if_lt (pc := 1) (tgt := 26) hC dX6_playerAt_1 (by decide) (fun c1 => ?_) (fun c1 => ?_)
  · replace h := zip h c1
    refine zr_null (pc := 26) hC dX6_playerAt_26 ?_
    obtain rfl := Option.some.inj h
    exact zr_aret hC hR ⟨rfl, rfl⟩ (Nat.le_refl _) (Nat.le_refl _) dX6_playerAt_27
  · replace h := zin h c1
    refine zr_iload_n (pc := 4) hC 1 rfl rfl dX6_playerAt_4 ?_
    refine zr_iconst (pc := 5) hC zki_4 dX6_playerAt_5 ?_
    refine zr_icmp_ge (pc := 6) (tgt := 26) hC dX6_playerAt_6 (by decide) (fun c2 => ?_) (fun c2 => ?_)
    · replace h := zip h c2
      refine zr_null (pc := 26) hC dX6_playerAt_26 ?_
      obtain rfl := Option.some.inj h
      exact zr_aret hC hR ⟨rfl, rfl⟩ (Nat.le_refl _) (Nat.le_refl _) dX6_playerAt_27
    · replace h := zin h c2
      refine zr_iload_n (pc := 9) hC 1 rfl rfl dX6_playerAt_9 ?_
      refine zr_aload_n (pc := 10) hC 0 rfl rfl dX6_playerAt_10 ?_
      refine zcg_62_2 (pc := 11) hC hinX6_playerAt_X6 flX6_playerAt_17 dX6_playerAt_11 ?_
      refine zr_icmp_ge (pc := 14) (tgt := 26) hC dX6_playerAt_14 (by decide) (fun c3 => ?_) (fun c3 => ?_)
      · replace h := zip h c3
        refine zr_null (pc := 26) hC dX6_playerAt_26 ?_
        obtain rfl := Option.some.inj h
        exact zr_aret hC hR ⟨rfl, rfl⟩ (Nat.le_refl _) (Nat.le_refl _) dX6_playerAt_27
      · replace h := zin h c3
        refine zr_aload_n (pc := 17) hC 0 rfl rfl dX6_playerAt_17 ?_
        refine zcg_62_1 (pc := 18) hC hinX6_playerAt_X6 flX6_playerAt_11 dX6_playerAt_18 ?_
        refine zr_iload_n (pc := 21) hC 1 rfl rfl dX6_playerAt_21 ?_
        obtain ⟨i4, h⟩ := zgd h
        refine zco_63 (pc := 22) hC i4 dX6_playerAt_22 ?_
        refine zr_goto (pc := 23) (tgt := 27) hC dX6_playerAt_23 (by decide) ?_
        obtain rfl := Option.some.inj h
        exact zr_aret hC hR ⟨rfl, rfl⟩ (Nat.le_refl _) (Nat.le_refl _) dX6_playerAt_27
/-! X6_pointOf -/
theorem hyX6_pointOf : yX6_pointOf.cls = RX6 ∧ yX6_pointOf.cls ≠ "java/lang/invoke/MethodHandle" ∧ yX6_pointOf.cls ≠ "java/lang/invoke/VarHandle" ∧ (parseMethodDescriptor yX6_pointOf.desc).map (fun d => d.parameters.length) = some 1 := by decide +kernel
theorem flX6_pointOf_21 : Cond.fieldLink RX6 21 "BeforeTheEnd$Race" "point" "[I" ∈ wsX6_pointOf := by decide +kernel
theorem hinX6_pointOf_X6 : ∀ w ∈ wsX60, w ∈ wsX6_pointOf := fun _ h => List.mem_cons_of_mem _ (List.mem_append_right _ h)
def xX6_pointOf (pR : zM) (v1 : Int32) : Option Int32 :=
  if v1 < 0 then
  (some (0 : Int32))
  else
  if (4 : Int32) ≤ v1 then
  (some (0 : Int32))
  else
  if (v1 < 0 ∨ 4 ≤ v1.toNatClampNeg) then none else
  some (pR.1 64 v1.toNatClampNeg)
set_option maxHeartbeats 4000000 in
set_option maxRecDepth 100000 in
theorem tX6_pointOf {κ : Nat → ClassId} {tg : Nat} {S : zEn} {ad : Nat → Nat} (hEk : zEk (zE tg S)) {pT : zM} {pR : zM} {pX : zM} {pF : zM} {pB : zM} {pP : zP} {v1 : Int32} {res : Int32} (h : xX6_pointOf pR v1 = some res) (l : Launch) (D : va_G) : zCT (zE tg S) D vwCl (zty κ) l yX6_pointOf wsX6_pointOf ({ frames := 0, cells := 0, slots := 0, locals := 0 } : Room) 0 0 [.ref (ad 62), .int v1] (zwC κ ad pT pR pX pF pB pP) (zPd (some (.int res)) (zwC κ ad pT pR pX pF pB pP)) := by
  refine zCT.of (cc := cX6_pointOf) (maxL := 2) (ret := (some .int)) (by decide) rfl (Nat.le_of_ble_eq_true rfl) ?_
  intro X hC hR
  unfold xX6_pointOf at h
  refine zV.sub (lv' := [(0, .ref (ad 62)), (1, .int v1)]) [0, 1] rfl ?_
  refine zr_iload_n (pc := 0) hC 1 rfl rfl dX6_pointOf_0 ?_
  refine zr_if_lt (pc := 1) (tgt := 22) hC dX6_pointOf_1 (by decide) (fun c1 => ?_) (fun c1 => ?_)
  · replace h := zip h c1
    refine zr_iconst (pc := 22) hC zki_0 dX6_pointOf_22 ?_
    obtain rfl := Option.some.inj h
    exact zr_iret hC hR ⟨rfl, rfl⟩ (Nat.le_refl _) (Nat.le_refl _) dX6_pointOf_23
  · replace h := zin h c1
    refine zr_iload_n (pc := 4) hC 1 rfl rfl dX6_pointOf_4 ?_
    refine zr_aload_n (pc := 5) hC 0 rfl rfl dX6_pointOf_5 ?_
    refine zcg_62_3 (pc := 6) hC hinX6_pointOf_X6 flX6_pointOf_21 dX6_pointOf_6 ?_
    refine zca_64 (pc := 9) hC dX6_pointOf_9 ?_
    refine zr_icmp_ge (pc := 10) (tgt := 22) hC dX6_pointOf_10 (by decide) (fun c2 => ?_) (fun c2 => ?_)
    · replace h := zip h c2
      refine zr_iconst (pc := 22) hC zki_0 dX6_pointOf_22 ?_
      obtain rfl := Option.some.inj h
      exact zr_iret hC hR ⟨rfl, rfl⟩ (Nat.le_refl _) (Nat.le_refl _) dX6_pointOf_23
    · replace h := zin h c2
      refine zr_aload_n (pc := 13) hC 0 rfl rfl dX6_pointOf_13 ?_
      refine zcg_62_3 (pc := 14) hC hinX6_pointOf_X6 flX6_pointOf_21 dX6_pointOf_14 ?_
      refine zr_iload_n (pc := 17) hC 1 rfl rfl dX6_pointOf_17 ?_
      obtain ⟨i3, h⟩ := zgd h
      refine zcl_64 (pc := 18) hC i3 dX6_pointOf_18 ?_
      refine zr_goto (pc := 19) (tgt := 23) hC dX6_pointOf_19 (by decide) ?_
      obtain rfl := Option.some.inj h
      exact zr_iret hC hR ⟨rfl, rfl⟩ (Nat.le_refl _) (Nat.le_refl _) dX6_pointOf_23
/-! X6_setPoint -/
theorem hyX6_setPoint : yX6_setPoint.cls = RX6 ∧ yX6_setPoint.cls ≠ "java/lang/invoke/MethodHandle" ∧ yX6_setPoint.cls ≠ "java/lang/invoke/VarHandle" ∧ (parseMethodDescriptor yX6_setPoint.desc).map (fun d => d.parameters.length) = some 2 := by decide +kernel
theorem flX6_setPoint_21 : Cond.fieldLink RX6 21 "BeforeTheEnd$Race" "point" "[I" ∈ wsX6_setPoint := by decide +kernel
theorem hinX6_setPoint_X6 : ∀ w ∈ wsX60, w ∈ wsX6_setPoint := fun _ h => List.mem_cons_of_mem _ (List.mem_append_right _ h)
def xX6_setPoint (pR : zM) (v1 : Int32) (v2 : Int32) : Option zM :=
  if v1 < 0 then
  (some pR)
  else
  if (4 : Int32) ≤ v1 then
  (some pR)
  else
  if (v1 < 0 ∨ 4 ≤ v1.toNatClampNeg) then none else
  zlet (zsi pR 64 v1.toNatClampNeg v2) fun M4 =>
  some M4
set_option maxHeartbeats 4000000 in
set_option maxRecDepth 100000 in
theorem tX6_setPoint {κ : Nat → ClassId} {tg : Nat} {S : zEn} {ad : Nat → Nat} (hEk : zEk (zE tg S)) {pT : zM} {pR : zM} {pX : zM} {pF : zM} {pB : zM} {pP : zP} {v1 : Int32} {v2 : Int32} {res : zM} (h : xX6_setPoint pR v1 v2 = some res) (l : Launch) (D : va_G) : zCT (zE tg S) D vwCl (zty κ) l yX6_setPoint wsX6_setPoint ({ frames := 0, cells := 0, slots := 0, locals := 0 } : Room) 0 0 [.ref (ad 62), .int v1, .int v2] (zwC κ ad pT pR pX pF pB pP) (zPd none (zwC κ ad pT res pX pF pB pP)) := by
  refine zCT.of (cc := cX6_setPoint) (maxL := 3) (ret := none) (by decide) rfl (Nat.le_of_ble_eq_true rfl) ?_
  intro X hC hR
  unfold xX6_setPoint at h
  refine zV.sub (lv' := [(0, .ref (ad 62)), (1, .int v1), (2, .int v2)]) [0, 1, 2] rfl ?_
  refine zr_iload_n (pc := 0) hC 1 rfl rfl dX6_setPoint_0 ?_
  refine zr_if_lt (pc := 1) (tgt := 20) hC dX6_setPoint_1 (by decide) (fun c1 => ?_) (fun c1 => ?_)
  · replace h := zip h c1
    obtain rfl := Option.some.inj h
    exact zr_vret hC hR ⟨rfl, rfl⟩ (Nat.le_refl _) (Nat.le_refl _) dX6_setPoint_20
  · replace h := zin h c1
    refine zr_iload_n (pc := 4) hC 1 rfl rfl dX6_setPoint_4 ?_
    refine zr_aload_n (pc := 5) hC 0 rfl rfl dX6_setPoint_5 ?_
    refine zcg_62_3 (pc := 6) hC hinX6_setPoint_X6 flX6_setPoint_21 dX6_setPoint_6 ?_
    refine zca_64 (pc := 9) hC dX6_setPoint_9 ?_
    refine zr_icmp_ge (pc := 10) (tgt := 20) hC dX6_setPoint_10 (by decide) (fun c2 => ?_) (fun c2 => ?_)
    · replace h := zip h c2
      obtain rfl := Option.some.inj h
      exact zr_vret hC hR ⟨rfl, rfl⟩ (Nat.le_refl _) (Nat.le_refl _) dX6_setPoint_20
    · replace h := zin h c2
      refine zr_aload_n (pc := 13) hC 0 rfl rfl dX6_setPoint_13 ?_
      refine zcg_62_3 (pc := 14) hC hinX6_setPoint_X6 flX6_setPoint_21 dX6_setPoint_14 ?_
      refine zr_iload_n (pc := 17) hC 1 rfl rfl dX6_setPoint_17 ?_
      refine zr_iload_n (pc := 18) hC 2 rfl rfl dX6_setPoint_18 ?_
      obtain ⟨i3, h⟩ := zgd h
      obtain ⟨M4, e5, h⟩ := zle h
      refine zcs_64 (pc := 19) hC i3 e5 dX6_setPoint_19 ?_
      obtain rfl := Option.some.inj h
      exact zr_vret hC hR ⟨rfl, rfl⟩ (Nat.le_refl _) (Nat.le_refl _) dX6_setPoint_20
/-! X6_gainOf -/
theorem hyX6_gainOf : yX6_gainOf.cls = RX6 ∧ yX6_gainOf.cls ≠ "java/lang/invoke/MethodHandle" ∧ yX6_gainOf.cls ≠ "java/lang/invoke/VarHandle" ∧ (parseMethodDescriptor yX6_gainOf.desc).map (fun d => d.parameters.length) = some 1 := by decide +kernel
theorem flX6_gainOf_34 : Cond.fieldLink RX6 34 "BeforeTheEnd$Race" "gain" "[I" ∈ wsX6_gainOf := by decide +kernel
theorem hinX6_gainOf_X6 : ∀ w ∈ wsX60, w ∈ wsX6_gainOf := fun _ h => List.mem_cons_of_mem _ (List.mem_append_right _ h)
def xX6_gainOf (pR : zM) (v1 : Int32) : Option Int32 :=
  if v1 < 0 then
  (some (0 : Int32))
  else
  if (4 : Int32) ≤ v1 then
  (some (0 : Int32))
  else
  if (v1 < 0 ∨ 4 ≤ v1.toNatClampNeg) then none else
  some (pR.1 68 v1.toNatClampNeg)
set_option maxHeartbeats 4000000 in
set_option maxRecDepth 100000 in
theorem tX6_gainOf {κ : Nat → ClassId} {tg : Nat} {S : zEn} {ad : Nat → Nat} (hEk : zEk (zE tg S)) {pT : zM} {pR : zM} {pX : zM} {pF : zM} {pB : zM} {pP : zP} {v1 : Int32} {res : Int32} (h : xX6_gainOf pR v1 = some res) (l : Launch) (D : va_G) : zCT (zE tg S) D vwCl (zty κ) l yX6_gainOf wsX6_gainOf ({ frames := 0, cells := 0, slots := 0, locals := 0 } : Room) 0 0 [.ref (ad 62), .int v1] (zwC κ ad pT pR pX pF pB pP) (zPd (some (.int res)) (zwC κ ad pT pR pX pF pB pP)) := by
  refine zCT.of (cc := cX6_gainOf) (maxL := 2) (ret := (some .int)) (by decide) rfl (Nat.le_of_ble_eq_true rfl) ?_
  intro X hC hR
  unfold xX6_gainOf at h
  refine zV.sub (lv' := [(0, .ref (ad 62)), (1, .int v1)]) [0, 1] rfl ?_
  refine zr_iload_n (pc := 0) hC 1 rfl rfl dX6_gainOf_0 ?_
  refine zr_if_lt (pc := 1) (tgt := 18) hC dX6_gainOf_1 (by decide) (fun c1 => ?_) (fun c1 => ?_)
  · replace h := zip h c1
    refine zr_iconst (pc := 18) hC zki_0 dX6_gainOf_18 ?_
    obtain rfl := Option.some.inj h
    exact zr_iret hC hR ⟨rfl, rfl⟩ (Nat.le_refl _) (Nat.le_refl _) dX6_gainOf_19
  · replace h := zin h c1
    refine zr_iload_n (pc := 4) hC 1 rfl rfl dX6_gainOf_4 ?_
    refine zr_iconst (pc := 5) hC zki_4 dX6_gainOf_5 ?_
    refine zr_icmp_ge (pc := 6) (tgt := 18) hC dX6_gainOf_6 (by decide) (fun c2 => ?_) (fun c2 => ?_)
    · replace h := zip h c2
      refine zr_iconst (pc := 18) hC zki_0 dX6_gainOf_18 ?_
      obtain rfl := Option.some.inj h
      exact zr_iret hC hR ⟨rfl, rfl⟩ (Nat.le_refl _) (Nat.le_refl _) dX6_gainOf_19
    · replace h := zin h c2
      refine zr_aload_n (pc := 9) hC 0 rfl rfl dX6_gainOf_9 ?_
      refine zcg_62_7 (pc := 10) hC hinX6_gainOf_X6 flX6_gainOf_34 dX6_gainOf_10 ?_
      refine zr_iload_n (pc := 13) hC 1 rfl rfl dX6_gainOf_13 ?_
      obtain ⟨i3, h⟩ := zgd h
      refine zcl_68 (pc := 14) hC i3 dX6_gainOf_14 ?_
      refine zr_goto (pc := 15) (tgt := 19) hC dX6_gainOf_15 (by decide) ?_
      obtain rfl := Option.some.inj h
      exact zr_iret hC hR ⟨rfl, rfl⟩ (Nat.le_refl _) (Nat.le_refl _) dX6_gainOf_19
/-! X6_calmBits -/
theorem hyX6_calmBits : yX6_calmBits.cls = RX6 ∧ yX6_calmBits.cls ≠ "java/lang/invoke/MethodHandle" ∧ yX6_calmBits.cls ≠ "java/lang/invoke/VarHandle" ∧ (parseMethodDescriptor yX6_calmBits.desc).map (fun d => d.parameters.length) = some 1 := by decide +kernel
theorem flX6_calmBits_28 : Cond.fieldLink RX6 28 "BeforeTheEnd$Race" "calm" "[I" ∈ wsX6_calmBits := by decide +kernel
theorem hinX6_calmBits_X6 : ∀ w ∈ wsX60, w ∈ wsX6_calmBits := fun _ h => List.mem_cons_of_mem _ (List.mem_append_right _ h)
def xX6_calmBits (pR : zM) (v1 : Int32) : Option Int32 :=
  if v1 < 0 then
  (some (0 : Int32))
  else
  if (4 : Int32) ≤ v1 then
  (some (0 : Int32))
  else
  if (v1 < 0 ∨ 4 ≤ v1.toNatClampNeg) then none else
  some (pR.1 66 v1.toNatClampNeg)
set_option maxHeartbeats 4000000 in
set_option maxRecDepth 100000 in
theorem tX6_calmBits {κ : Nat → ClassId} {tg : Nat} {S : zEn} {ad : Nat → Nat} (hEk : zEk (zE tg S)) {pT : zM} {pR : zM} {pX : zM} {pF : zM} {pB : zM} {pP : zP} {v1 : Int32} {res : Int32} (h : xX6_calmBits pR v1 = some res) (l : Launch) (D : va_G) : zCT (zE tg S) D vwCl (zty κ) l yX6_calmBits wsX6_calmBits ({ frames := 0, cells := 0, slots := 0, locals := 0 } : Room) 0 0 [.ref (ad 62), .int v1] (zwC κ ad pT pR pX pF pB pP) (zPd (some (.int res)) (zwC κ ad pT pR pX pF pB pP)) := by
  refine zCT.of (cc := cX6_calmBits) (maxL := 2) (ret := (some .int)) (by decide) rfl (Nat.le_of_ble_eq_true rfl) ?_
  intro X hC hR
  unfold xX6_calmBits at h
  refine zV.sub (lv' := [(0, .ref (ad 62)), (1, .int v1)]) [0, 1] rfl ?_
  refine zr_iload_n (pc := 0) hC 1 rfl rfl dX6_calmBits_0 ?_
  refine zr_if_lt (pc := 1) (tgt := 18) hC dX6_calmBits_1 (by decide) (fun c1 => ?_) (fun c1 => ?_)
  · replace h := zip h c1
    refine zr_iconst (pc := 18) hC zki_0 dX6_calmBits_18 ?_
    obtain rfl := Option.some.inj h
    exact zr_iret hC hR ⟨rfl, rfl⟩ (Nat.le_refl _) (Nat.le_refl _) dX6_calmBits_19
  · replace h := zin h c1
    refine zr_iload_n (pc := 4) hC 1 rfl rfl dX6_calmBits_4 ?_
    refine zr_iconst (pc := 5) hC zki_4 dX6_calmBits_5 ?_
    refine zr_icmp_ge (pc := 6) (tgt := 18) hC dX6_calmBits_6 (by decide) (fun c2 => ?_) (fun c2 => ?_)
    · replace h := zip h c2
      refine zr_iconst (pc := 18) hC zki_0 dX6_calmBits_18 ?_
      obtain rfl := Option.some.inj h
      exact zr_iret hC hR ⟨rfl, rfl⟩ (Nat.le_refl _) (Nat.le_refl _) dX6_calmBits_19
    · replace h := zin h c2
      refine zr_aload_n (pc := 9) hC 0 rfl rfl dX6_calmBits_9 ?_
      refine zcg_62_5 (pc := 10) hC hinX6_calmBits_X6 flX6_calmBits_28 dX6_calmBits_10 ?_
      refine zr_iload_n (pc := 13) hC 1 rfl rfl dX6_calmBits_13 ?_
      obtain ⟨i3, h⟩ := zgd h
      refine zcl_66 (pc := 14) hC i3 dX6_calmBits_14 ?_
      refine zr_goto (pc := 15) (tgt := 19) hC dX6_calmBits_15 (by decide) ?_
      obtain rfl := Option.some.inj h
      exact zr_iret hC hR ⟨rfl, rfl⟩ (Nat.le_refl _) (Nat.le_refl _) dX6_calmBits_19
/-! X6_valueOf -/
theorem hyX6_valueOf : yX6_valueOf.cls = RX6 ∧ yX6_valueOf.cls ≠ "java/lang/invoke/MethodHandle" ∧ yX6_valueOf.cls ≠ "java/lang/invoke/VarHandle" ∧ (parseMethodDescriptor yX6_valueOf.desc).map (fun d => d.parameters.length) = some 1 := by decide +kernel
theorem flX6_valueOf_53 : Cond.fieldLink RX6 53 "BeforeTheEnd$Race" "aloneValue" "[J" ∈ wsX6_valueOf := by decide +kernel
theorem hinX6_valueOf_X6 : ∀ w ∈ wsX60, w ∈ wsX6_valueOf := fun _ h => List.mem_cons_of_mem _ (List.mem_append_right _ h)
def xX6_valueOf (pR : zM) (v1 : Int32) : Option Int64 :=
  if v1 < 0 then
  (some (0 : Int64))
  else
  if (24 : Int32) ≤ v1 then
  (some (0 : Int64))
  else
  if (v1 < 0 ∨ 24 ≤ v1.toNatClampNeg) then none else
  some (pR.2 69 v1.toNatClampNeg)
set_option maxHeartbeats 4000000 in
set_option maxRecDepth 100000 in
theorem tX6_valueOf {κ : Nat → ClassId} {tg : Nat} {S : zEn} {ad : Nat → Nat} (hEk : zEk (zE tg S)) {pT : zM} {pR : zM} {pX : zM} {pF : zM} {pB : zM} {pP : zP} {v1 : Int32} {res : Int64} (h : xX6_valueOf pR v1 = some res) (l : Launch) (D : va_G) : zCT (zE tg S) D vwCl (zty κ) l yX6_valueOf wsX6_valueOf ({ frames := 0, cells := 0, slots := 0, locals := 0 } : Room) 0 0 [.ref (ad 62), .int v1] (zwC κ ad pT pR pX pF pB pP) (zPd (some (.long res)) (zwC κ ad pT pR pX pF pB pP)) := by
  refine zCT.of (cc := cX6_valueOf) (maxL := 2) (ret := (some .long)) (by decide) rfl (Nat.le_of_ble_eq_true rfl) ?_
  intro X hC hR
  unfold xX6_valueOf at h
  refine zV.sub (lv' := [(0, .ref (ad 62)), (1, .int v1)]) [0, 1] rfl ?_
  refine zr_iload_n (pc := 0) hC 1 rfl rfl dX6_valueOf_0 ?_
  refine zr_if_lt (pc := 1) (tgt := 19) hC dX6_valueOf_1 (by decide) (fun c1 => ?_) (fun c1 => ?_)
  · replace h := zip h c1
    refine zr_lconst (pc := 19) hC zkl_0 dX6_valueOf_19 ?_
    obtain rfl := Option.some.inj h
    exact zr_lret hC hR ⟨rfl, rfl⟩ (Nat.le_refl _) (Nat.le_refl _) dX6_valueOf_20
  · replace h := zin h c1
    refine zr_iload_n (pc := 4) hC 1 rfl rfl dX6_valueOf_4 ?_
    refine zr_bipush (pc := 5) hC zkb_24 dX6_valueOf_5 ?_
    refine zr_icmp_ge (pc := 7) (tgt := 19) hC dX6_valueOf_7 (by decide) (fun c2 => ?_) (fun c2 => ?_)
    · replace h := zip h c2
      refine zr_lconst (pc := 19) hC zkl_0 dX6_valueOf_19 ?_
      obtain rfl := Option.some.inj h
      exact zr_lret hC hR ⟨rfl, rfl⟩ (Nat.le_refl _) (Nat.le_refl _) dX6_valueOf_20
    · replace h := zin h c2
      refine zr_aload_n (pc := 10) hC 0 rfl rfl dX6_valueOf_10 ?_
      refine zcg_62_13 (pc := 11) hC hinX6_valueOf_X6 flX6_valueOf_53 dX6_valueOf_11 ?_
      refine zr_iload_n (pc := 14) hC 1 rfl rfl dX6_valueOf_14 ?_
      obtain ⟨i3, h⟩ := zgd h
      refine zcl_69 (pc := 15) hC i3 dX6_valueOf_15 ?_
      refine zr_goto (pc := 16) (tgt := 20) hC dX6_valueOf_16 (by decide) ?_
      obtain rfl := Option.some.inj h
      exact zr_lret hC hR ⟨rfl, rfl⟩ (Nat.le_refl _) (Nat.le_refl _) dX6_valueOf_20
/-! X6_append -/
theorem hyX6_append : yX6_append.cls = RX6 ∧ yX6_append.cls ≠ "java/lang/invoke/MethodHandle" ∧ yX6_append.cls ≠ "java/lang/invoke/VarHandle" ∧ (parseMethodDescriptor yX6_append.desc).map (fun d => d.parameters.length) = some 4 := by decide +kernel
theorem flX6_append_11 : Cond.fieldLink RX6 11 "BeforeTheEnd$Race" "players" "[LBeforeTheEnd$Player;" ∈ wsX6_append := by decide +kernel
theorem flX6_append_17 : Cond.fieldLink RX6 17 "BeforeTheEnd$Race" "count" "I" ∈ wsX6_append := by decide +kernel
theorem hinX6_append_X6 : ∀ w ∈ wsX60, w ∈ wsX6_append := fun _ h => List.mem_cons_of_mem _ (List.mem_append_left _ (List.mem_append_left _ (List.mem_append_left _ (List.mem_append_left _ (List.mem_append_left _ (List.mem_append_left _ (List.mem_append_right _ h)))))))
theorem hinX6_append_X2 : ∀ w ∈ wsX20, w ∈ wsX6_append := fun _ h => List.mem_cons_of_mem _ (List.mem_append_left _ (List.mem_append_left _ (List.mem_append_left _ (List.mem_append_left _ (List.mem_append_left _ (List.mem_append_right _ h))))))
theorem hinX6_append_X7 : ∀ w ∈ wsX70, w ∈ wsX6_append := fun _ h => List.mem_cons_of_mem _ (List.mem_append_left _ (List.mem_append_left _ (List.mem_append_left _ (List.mem_append_left _ (List.mem_append_right _ h)))))
theorem hinX6_append_X1 : ∀ w ∈ wsX10, w ∈ wsX6_append := fun _ h => List.mem_cons_of_mem _ (List.mem_append_left _ (List.mem_append_left _ (List.mem_append_left _ (List.mem_append_right _ h))))
theorem hinX6_append_X4 : ∀ w ∈ wsX40, w ∈ wsX6_append := fun _ h => List.mem_cons_of_mem _ (List.mem_append_left _ (List.mem_append_left _ (List.mem_append_right _ h)))
theorem hinX6_append_X9 : ∀ w ∈ wsX90, w ∈ wsX6_append := fun _ h => List.mem_cons_of_mem _ (List.mem_append_left _ (List.mem_append_right _ h))
theorem hinX6_append_X0 : ∀ w ∈ wsX00, w ∈ wsX6_append := fun _ h => List.mem_cons_of_mem _ (List.mem_append_right _ h)
noncomputable def xX6_append (pR : zM) (pP : zP) (v1 : Int32) (v2 : Int32) (v3 : Int32) (v4 : Int32) : Option (Int32 × zM × zP) :=
  if (pR.1 62 2) < 0 then
  (some ((0 : Int32), pR, pP))
  else
  if (4 : Int32) ≤ (pR.1 62 2) then
  (some ((0 : Int32), pR, pP))
  else
  if v3 < 0 then
  (some ((0 : Int32), pR, pP))
  else
  if v3 ≤ (100 : Int32) then
  (zwfg pP (xX5_ofKind pP v1 v2 v3 v4) fun q5 =>
  if ((pR.1 62 2) < 0 ∨ 4 ≤ (pR.1 62 2).toNatClampNeg) then none else
  zlet (zpa q5 (pR.1 62 2).toNatClampNeg pP.2.2.2) fun M7 =>
  zlet (zsi pR 62 2 ((pR.1 62 2) + (1 : Int32))) fun M9 =>
  some ((1 : Int32), M9, M7))
  else
  some ((0 : Int32), pR, pP)
set_option maxHeartbeats 4000000 in
set_option maxRecDepth 100000 in
theorem tX6_append {κ : Nat → ClassId} {tg : Nat} {S : zEn} {ad : Nat → Nat} (hEk : zEk (zE tg S)) {pT : zM} {pR : zM} {pX : zM} {pF : zM} {pB : zM} {pP : zP} {v1 : Int32} {v2 : Int32} {v3 : Int32} {v4 : Int32} {res : (Int32 × zM × zP)} (h : xX6_append pR pP v1 v2 v3 v4 = some res) (l : Launch) (D : va_G) : zCT (zE tg S) D vwCl (zty κ) l yX6_append wsX6_append ({ frames := 5, cells := 1, slots := 4, locals := 113 } : Room) 1 4 [.ref (ad 62), .int v1, .int v2, .int v3, .int v4] (zwC κ ad pT pR pX pF pB pP) (fun rv w => ∃ ad', (∀ j, j < 81 + pP.2.2.2 → ad' j = ad j) ∧ rv = some (.int res.1) ∧ w = (zwC κ ad' pT res.2.1 pX pF pB res.2.2)) := by
  refine zCT.of (cc := cX6_append) (maxL := 5) (ret := (some .boolean)) (by decide) rfl (Nat.le_of_ble_eq_true rfl) ?_
  intro X hC hR
  unfold xX6_append at h
  refine zV.sub (lv' := [(0, .ref (ad 62)), (1, .int v1), (2, .int v2), (3, .int v3), (4, .int v4)]) [0, 1, 2, 3, 4] rfl ?_
  refine zr_aload_n (pc := 0) hC 0 rfl rfl dX6_append_0 ?_
  refine zcg_62_2 (pc := 1) hC hinX6_append_X6 flX6_append_17 dX6_append_1 ?_
  refine zr_if_lt (pc := 4) (tgt := 25) hC dX6_append_4 (by decide) (fun c1 => ?_) (fun c1 => ?_)
  · replace h := zip h c1
    refine zr_iconst (pc := 25) hC zki_0 dX6_append_25 ?_
    obtain rfl := Option.some.inj h
    exact zr_zret hC hR (by decide) ⟨ad, fun _ _ => rfl, rfl, rfl⟩ (Nat.le_of_ble_eq_true rfl) (Nat.le_of_ble_eq_true rfl) dX6_append_26
  · replace h := zin h c1
    refine zr_aload_n (pc := 7) hC 0 rfl rfl dX6_append_7 ?_
    refine zcg_62_2 (pc := 8) hC hinX6_append_X6 flX6_append_17 dX6_append_8 ?_
    refine zr_iconst (pc := 11) hC zki_4 dX6_append_11 ?_
    refine zr_icmp_ge (pc := 12) (tgt := 25) hC dX6_append_12 (by decide) (fun c2 => ?_) (fun c2 => ?_)
    · replace h := zip h c2
      refine zr_iconst (pc := 25) hC zki_0 dX6_append_25 ?_
      obtain rfl := Option.some.inj h
      exact zr_zret hC hR (by decide) ⟨ad, fun _ _ => rfl, rfl, rfl⟩ (Nat.le_of_ble_eq_true rfl) (Nat.le_of_ble_eq_true rfl) dX6_append_26
    · replace h := zin h c2
      refine zr_iload_n (pc := 15) hC 3 rfl rfl dX6_append_15 ?_
      refine zr_if_lt (pc := 16) (tgt := 25) hC dX6_append_16 (by decide) (fun c3 => ?_) (fun c3 => ?_)
      · replace h := zip h c3
        refine zr_iconst (pc := 25) hC zki_0 dX6_append_25 ?_
        obtain rfl := Option.some.inj h
        exact zr_zret hC hR (by decide) ⟨ad, fun _ _ => rfl, rfl, rfl⟩ (Nat.le_of_ble_eq_true rfl) (Nat.le_of_ble_eq_true rfl) dX6_append_26
      · replace h := zin h c3
        refine zr_iload_n (pc := 19) hC 3 rfl rfl dX6_append_19 ?_
        refine zr_bipush (pc := 20) hC zkb_100 dX6_append_20 ?_
        refine zr_icmp_le (pc := 22) (tgt := 27) hC dX6_append_22 (by decide) (fun c4 => ?_) (fun c4 => ?_)
        · replace h := zip h c4
          refine zr_aload_n (pc := 27) hC 0 rfl rfl dX6_append_27 ?_
          refine zcg_62_1 (pc := 28) hC hinX6_append_X6 flX6_append_11 dX6_append_28 ?_
          refine zr_aload_n (pc := 31) hC 0 rfl rfl dX6_append_31 ?_
          refine zcg_62_2 (pc := 32) hC hinX6_append_X6 flX6_append_17 dX6_append_32 ?_
          refine zr_iload_n (pc := 35) hC 1 rfl rfl dX6_append_35 ?_
          refine zr_iload_n (pc := 36) hC 2 rfl rfl dX6_append_36 ?_
          refine zr_iload_n (pc := 37) hC 3 rfl rfl dX6_append_37 ?_
          refine zr_iload (pc := 38) hC 4 rfl dX6_append_38 ?_
          obtain ⟨hwf, q5, hq5, h⟩ := zwfs h
          refine zr_callS (pc := 40) hC hEk [.int v1, .int v2, .int v3, .int v4] [.int (pR.1 62 2), .ref (ad 63)] 4 (fun l D => tX5_ofKind hEk hwf hq5 l D) gX6_append_X5_ofKind rfl rfl rfl ⟨Nat.le_of_ble_eq_true rfl, Nat.le_of_ble_eq_true rfl⟩ hyX5_ofKind rfl rfl (Nat.le_of_ble_eq_true rfl) ⟨Nat.le_of_ble_eq_true rfl, Nat.le_of_ble_eq_true rfl⟩ dX6_append_40 (fun rv w1 hpo => ?_)
          obtain ⟨ad2, hag, rfl, hnp, rfl⟩ := hpo
          rw [← hag 62 (zNC (by decide))]
          rw [← hag 63 (zNC (by decide))]
          show zV X 1 4 (zwC κ ad2 pT pR pX pF pB q5) [(0, .ref (ad2 62)), (1, .int v1), (2, .int v2), (3, .int v3), (4, .int v4)] [.ref (ad2 (81 + pP.2.2.2)), .int (pR.1 62 2), .ref (ad2 63)] 43
          obtain ⟨i6, h⟩ := zgd h
          obtain ⟨M7, e8, h⟩ := zle h
          refine zco_st (pc := 43) hC hEk hnp i6 e8 dX6_append_43 ?_
          refine zr_aload_n (pc := 44) hC 0 rfl rfl dX6_append_44 ?_
          refine zr_dup (pc := 45) hC rfl dX6_append_45 ?_
          refine zcg_62_2 (pc := 46) hC hinX6_append_X6 flX6_append_17 dX6_append_46 ?_
          refine zr_iconst (pc := 49) hC zki_1 dX6_append_49 ?_
          refine zr_iadd (pc := 50) hC dX6_append_50 ?_
          obtain ⟨M9, e10, h⟩ := zle h
          refine zcp_62_2 (pc := 51) hC hinX6_append_X6 flX6_append_17 e10 dX6_append_51 ?_
          refine zr_iconst (pc := 54) hC zki_1 dX6_append_54 ?_
          obtain rfl := Option.some.inj h
          exact zr_zret hC hR (by decide) ⟨ad2, hag, rfl, rfl⟩ (Nat.le_of_ble_eq_true rfl) (Nat.le_of_ble_eq_true rfl) dX6_append_55
        · replace h := zin h c4
          refine zr_iconst (pc := 25) hC zki_0 dX6_append_25 ?_
          obtain rfl := Option.some.inj h
          exact zr_zret hC hR (by decide) ⟨ad, fun _ _ => rfl, rfl, rfl⟩ (Nat.le_of_ble_eq_true rfl) (Nat.le_of_ble_eq_true rfl) dX6_append_26
/-! X6_cutBack -/
theorem hyX6_cutBack : yX6_cutBack.cls = RX6 ∧ yX6_cutBack.cls ≠ "java/lang/invoke/MethodHandle" ∧ yX6_cutBack.cls ≠ "java/lang/invoke/VarHandle" ∧ (parseMethodDescriptor yX6_cutBack.desc).map (fun d => d.parameters.length) = some 1 := by decide +kernel
theorem flX6_cutBack_17 : Cond.fieldLink RX6 17 "BeforeTheEnd$Race" "count" "I" ∈ wsX6_cutBack := by decide +kernel
theorem hinX6_cutBack_X6 : ∀ w ∈ wsX60, w ∈ wsX6_cutBack := fun _ h => List.mem_cons_of_mem _ (List.mem_append_right _ h)
def xX6_cutBack (pR : zM) (v1 : Int32) : Option zM :=
  if v1 < 0 then
  (some pR)
  else
  if (pR.1 62 2) ≤ v1 then
  (some pR)
  else
  zlet (zsi pR 62 2 v1) fun M3 =>
  some M3
set_option maxHeartbeats 4000000 in
set_option maxRecDepth 100000 in
theorem tX6_cutBack {κ : Nat → ClassId} {tg : Nat} {S : zEn} {ad : Nat → Nat} (hEk : zEk (zE tg S)) {pT : zM} {pR : zM} {pX : zM} {pF : zM} {pB : zM} {pP : zP} {v1 : Int32} {res : zM} (h : xX6_cutBack pR v1 = some res) (l : Launch) (D : va_G) : zCT (zE tg S) D vwCl (zty κ) l yX6_cutBack wsX6_cutBack ({ frames := 0, cells := 0, slots := 0, locals := 0 } : Room) 0 0 [.ref (ad 62), .int v1] (zwC κ ad pT pR pX pF pB pP) (zPd none (zwC κ ad pT res pX pF pB pP)) := by
  refine zCT.of (cc := cX6_cutBack) (maxL := 2) (ret := none) (by decide) rfl (Nat.le_of_ble_eq_true rfl) ?_
  intro X hC hR
  unfold xX6_cutBack at h
  refine zV.sub (lv' := [(0, .ref (ad 62)), (1, .int v1)]) [0, 1] rfl ?_
  refine zr_iload_n (pc := 0) hC 1 rfl rfl dX6_cutBack_0 ?_
  refine zr_if_lt (pc := 1) (tgt := 17) hC dX6_cutBack_1 (by decide) (fun c1 => ?_) (fun c1 => ?_)
  · replace h := zip h c1
    obtain rfl := Option.some.inj h
    exact zr_vret hC hR ⟨rfl, rfl⟩ (Nat.le_refl _) (Nat.le_refl _) dX6_cutBack_17
  · replace h := zin h c1
    refine zr_iload_n (pc := 4) hC 1 rfl rfl dX6_cutBack_4 ?_
    refine zr_aload_n (pc := 5) hC 0 rfl rfl dX6_cutBack_5 ?_
    refine zcg_62_2 (pc := 6) hC hinX6_cutBack_X6 flX6_cutBack_17 dX6_cutBack_6 ?_
    refine zr_icmp_ge (pc := 9) (tgt := 17) hC dX6_cutBack_9 (by decide) (fun c2 => ?_) (fun c2 => ?_)
    · replace h := zip h c2
      obtain rfl := Option.some.inj h
      exact zr_vret hC hR ⟨rfl, rfl⟩ (Nat.le_refl _) (Nat.le_refl _) dX6_cutBack_17
    · replace h := zin h c2
      refine zr_aload_n (pc := 12) hC 0 rfl rfl dX6_cutBack_12 ?_
      refine zr_iload_n (pc := 13) hC 1 rfl rfl dX6_cutBack_13 ?_
      obtain ⟨M3, e4, h⟩ := zle h
      refine zcp_62_2 (pc := 14) hC hinX6_cutBack_X6 flX6_cutBack_17 e4 dX6_cutBack_14 ?_
      obtain rfl := Option.some.inj h
      exact zr_vret hC hR ⟨rfl, rfl⟩ (Nat.le_refl _) (Nat.le_refl _) dX6_cutBack_17
/-! X10_guessBits -/
theorem hyX10_guessBits : yX10_guessBits.cls = RX10 ∧ yX10_guessBits.cls ≠ "java/lang/invoke/MethodHandle" ∧ yX10_guessBits.cls ≠ "java/lang/invoke/VarHandle" ∧ (parseMethodDescriptor yX10_guessBits.desc).map (fun d => d.parameters.length) = some 1 := by decide +kernel
theorem flX10_guessBits_30 : Cond.fieldLink RX10 30 "BeforeTheEnd$Tree" "behind" "[I" ∈ wsX10_guessBits := by decide +kernel
theorem flX10_guessBits_54 : Cond.fieldLink RX10 54 "BeforeTheEnd$Tree" "count" "I" ∈ wsX10_guessBits := by decide +kernel
theorem hinX10_guessBits_X10 : ∀ w ∈ wsX100, w ∈ wsX10_guessBits := fun _ h => List.mem_cons_of_mem _ (List.mem_append_right _ h)
def xX10_guessBits_L4 (pT : zM) (v1 : Int32) (w0 : Int32) (w1 : Int32) : Option ((Int32 × Int32) ⊕ Int32) :=
  if (24 : Int32) ≤ w1 then
  (some (.inr w0))
  else
  if (pT.1 0 13) ≤ w1 then
  (some (.inr w0))
  else
  if (w1 < 0 ∨ 24 ≤ w1.toNatClampNeg) then none else
  if ((pT.1 7 w1.toNatClampNeg) &&& v1) = 0 then
  (some (.inl (w0, (w1 + (1 : Int32)))))
  else
  zlet (w0 ||| ((1 : Int32) <<< (w1 &&& 31))) fun z5 =>
  some (.inl (z5, (w1 + (1 : Int32))))
set_option maxHeartbeats 4000000 in
set_option maxRecDepth 100000 in
theorem tX10_guessBits_L4 {κ : Nat → ClassId} {tg : Nat} {S : zEn} {ad : Nat → Nat} {X : zX} {pR : zM} {pX : zM} {pF : zM} {pB : zM} {pP : zP} {pT : zM} {v1 : Int32} {w0 : Int32} {w1 : Int32} {r : ((Int32 × Int32) ⊕ Int32)} (hC : zC X cX10_guessBits RX10 wsX10_guessBits vwCl (zty κ) (zE tg S) 4 ({ frames := 0, cells := 0, slots := 0, locals := 0 } : Room)) (hEk : zEk (zE tg S)) (hin : ∀ (x0' : Int32) (x1' : Int32), r = .inl (x0', x1') → zV X 0 0 (zwC κ ad pT pR pX pF pB pP) [(0, .ref (ad 0)), (1, .int v1), (2, .int x0'), (3, .int x1')] [] 4) (hout0 : ∀ (x0' : Int32), r = .inr x0' → zV X 0 0 (zwC κ ad pT pR pX pF pB pP) [(2, .int x0')] [] 41) (h : xX10_guessBits_L4 pT v1 w0 w1 = some r) : zV X 0 0 (zwC κ ad pT pR pX pF pB pP) [(0, .ref (ad 0)), (1, .int v1), (2, .int w0), (3, .int w1)] [] 4 := by
  unfold xX10_guessBits_L4 at h
  refine zr_iload_n (pc := 4) hC 3 rfl rfl dX10_guessBits_4 ?_
  refine zr_bipush (pc := 5) hC zkb_24 dX10_guessBits_5 ?_
  refine zr_icmp_ge (pc := 7) (tgt := 41) hC dX10_guessBits_7 (by decide) (fun c1 => ?_) (fun c1 => ?_)
  · replace h := zip h c1
    obtain rfl := Option.some.inj h
    exact zV.sub (lv' := [(2, .int w0)]) [2] rfl (hout0 w0 rfl)
  · replace h := zin h c1
    refine zr_iload_n (pc := 10) hC 3 rfl rfl dX10_guessBits_10 ?_
    refine zr_aload_n (pc := 11) hC 0 rfl rfl dX10_guessBits_11 ?_
    refine zcg_0_13 (pc := 12) hC hinX10_guessBits_X10 flX10_guessBits_54 dX10_guessBits_12 ?_
    refine zr_icmp_ge (pc := 15) (tgt := 41) hC dX10_guessBits_15 (by decide) (fun c2 => ?_) (fun c2 => ?_)
    · replace h := zip h c2
      obtain rfl := Option.some.inj h
      exact zV.sub (lv' := [(2, .int w0)]) [2] rfl (hout0 w0 rfl)
    · replace h := zin h c2
      refine zr_aload_n (pc := 18) hC 0 rfl rfl dX10_guessBits_18 ?_
      refine zcg_0_6 (pc := 19) hC hinX10_guessBits_X10 flX10_guessBits_30 dX10_guessBits_19 ?_
      refine zr_iload_n (pc := 22) hC 3 rfl rfl dX10_guessBits_22 ?_
      obtain ⟨i3, h⟩ := zgd h
      refine zcl_7 (pc := 23) hC i3 dX10_guessBits_23 ?_
      refine zr_iload_n (pc := 24) hC 1 rfl rfl dX10_guessBits_24 ?_
      refine zr_iand (pc := 25) hC dX10_guessBits_25 ?_
      refine zr_if_eq (pc := 26) (tgt := 35) hC dX10_guessBits_26 (by decide) (fun c4 => ?_) (fun c4 => ?_)
      · replace h := zip h c4
        refine zr_iinc (pc := 35) (k := 3) (lv' := [(3, .int (w1 + (1 : Int32))), (0, .ref (ad 0)), (1, .int v1), (2, .int w0)]) hC zki_1 (by decide) rfl rfl dX10_guessBits_35 ?_
        refine zr_goto (pc := 38) (tgt := 4) hC dX10_guessBits_38 (by decide) ?_
        obtain rfl := Option.some.inj h
        exact zV.sub (lv' := [(0, .ref (ad 0)), (1, .int v1), (2, .int w0), (3, .int (w1 + (1 : Int32)))]) [1, 2, 3, 0] rfl (hin w0 (w1 + (1 : Int32)) rfl)
      · replace h := zin h c4
        refine zr_iload_n (pc := 29) hC 2 rfl rfl dX10_guessBits_29 ?_
        refine zr_iconst (pc := 30) hC zki_1 dX10_guessBits_30 ?_
        refine zr_iload_n (pc := 31) hC 3 rfl rfl dX10_guessBits_31 ?_
        refine zr_ishl (pc := 32) hC dX10_guessBits_32 ?_
        refine zr_ior (pc := 33) hC dX10_guessBits_33 ?_
        obtain ⟨z5, e6, h⟩ := zle h
        refine zr_topi e6 ?_
        refine zr_istore_n (pc := 34) (lv' := [(2, .int z5), (0, .ref (ad 0)), (1, .int v1), (3, .int w1)]) hC rfl (by decide) rfl dX10_guessBits_34 ?_
        refine zr_iinc (pc := 35) (k := 3) (lv' := [(3, .int (w1 + (1 : Int32))), (2, .int z5), (0, .ref (ad 0)), (1, .int v1)]) hC zki_1 (by decide) rfl rfl dX10_guessBits_35 ?_
        refine zr_goto (pc := 38) (tgt := 4) hC dX10_guessBits_38 (by decide) ?_
        obtain rfl := Option.some.inj h
        exact zV.sub (lv' := [(0, .ref (ad 0)), (1, .int v1), (2, .int z5), (3, .int (w1 + (1 : Int32)))]) [2, 3, 1, 0] rfl (hin z5 (w1 + (1 : Int32)) rfl)
def xX10_guessBits (pT : zM) (v1 : Int32) : Option Int32 :=
  (x_it (fun a9 => xX10_guessBits_L4 pT v1 a9.1 a9.2) zFU ((0 : Int32), (1 : Int32))).bind fun q1 =>
  some q1
set_option maxHeartbeats 4000000 in
set_option maxRecDepth 100000 in
theorem tX10_guessBits {κ : Nat → ClassId} {tg : Nat} {S : zEn} {ad : Nat → Nat} (hEk : zEk (zE tg S)) {pT : zM} {pR : zM} {pX : zM} {pF : zM} {pB : zM} {pP : zP} {v1 : Int32} {res : Int32} (h : xX10_guessBits pT v1 = some res) (l : Launch) (D : va_G) : zCT (zE tg S) D vwCl (zty κ) l yX10_guessBits wsX10_guessBits ({ frames := 0, cells := 0, slots := 0, locals := 0 } : Room) 0 0 [.ref (ad 0), .int v1] (zwC κ ad pT pR pX pF pB pP) (zPd (some (.int res)) (zwC κ ad pT pR pX pF pB pP)) := by
  refine zCT.of (cc := cX10_guessBits) (maxL := 4) (ret := (some .int)) (by decide) rfl (Nat.le_of_ble_eq_true rfl) ?_
  intro X hC hR
  unfold xX10_guessBits at h
  refine zV.sub (lv' := [(0, .ref (ad 0)), (1, .int v1)]) [0, 1] rfl ?_
  refine zr_iconst (pc := 0) hC zki_0 dX10_guessBits_0 ?_
  refine zr_istore_n (pc := 1) (lv' := [(2, .int (0 : Int32)), (0, .ref (ad 0)), (1, .int v1)]) hC rfl (by decide) rfl dX10_guessBits_1 ?_
  refine zr_iconst (pc := 2) hC zki_1 dX10_guessBits_2 ?_
  refine zr_istore_n (pc := 3) (lv' := [(3, .int (1 : Int32)), (2, .int (0 : Int32)), (0, .ref (ad 0)), (1, .int v1)]) hC rfl (by decide) rfl dX10_guessBits_3 ?_
  obtain ⟨q1, hq1, h⟩ := zbd h
  refine zV.sub (lv' := [(0, .ref (ad 0)), (1, .int v1), (2, .int (0 : Int32)), (3, .int (1 : Int32))]) [2, 3, 1, 0] rfl ?_
  refine zit2 (Wp := fun (y0 : Int32) (y1 : Int32) => zV X 0 0 (zwC κ ad pT pR pX pF pB pP) [(0, .ref (ad 0)), (1, .int v1), (2, .int y0), (3, .int y1)] [] 4) (Ex := fun (b9 : Int32) => zV X 0 0 (zwC κ ad pT pR pX pF pB pP) [(2, .int b9)] [] 41) (fun y0 y1 r9 hr hin hout => tX10_guessBits_L4 hC hEk hin (fun z0 e9 => hout z0 e9) hr) zFU (0 : Int32) (1 : Int32) q1 hq1 ?_
  show zV X 0 0 (zwC κ ad pT pR pX pF pB pP) [(2, .int q1)] [] 41
  refine zr_iload_n (pc := 41) hC 0 rfl rfl dX10_guessBits_41 ?_
  obtain rfl := Option.some.inj h
  exact zr_iret hC hR ⟨rfl, rfl⟩ (Nat.le_refl _) (Nat.le_refl _) dX10_guessBits_42
/-! X10_endBits -/
theorem hyX10_endBits : yX10_endBits.cls = RX10 ∧ yX10_endBits.cls ≠ "java/lang/invoke/MethodHandle" ∧ yX10_endBits.cls ≠ "java/lang/invoke/VarHandle" ∧ (parseMethodDescriptor yX10_endBits.desc).map (fun d => d.parameters.length) = some 0 := by decide +kernel
theorem flX10_endBits_18 : Cond.fieldLink RX10 18 "BeforeTheEnd$Tree" "answer" "[I" ∈ wsX10_endBits := by decide +kernel
theorem flX10_endBits_54 : Cond.fieldLink RX10 54 "BeforeTheEnd$Tree" "count" "I" ∈ wsX10_endBits := by decide +kernel
theorem hinX10_endBits_X10 : ∀ w ∈ wsX100, w ∈ wsX10_endBits := fun _ h => List.mem_cons_of_mem _ (List.mem_append_right _ h)
def xX10_endBits_L4 (pT : zM) (w0 : Int32) (w1 : Int32) : Option ((Int32 × Int32) ⊕ Int32) :=
  if (24 : Int32) ≤ w1 then
  (some (.inr w0))
  else
  if (pT.1 0 13) ≤ w1 then
  (some (.inr w0))
  else
  if (w1 < 0 ∨ 24 ≤ w1.toNatClampNeg) then none else
  if (pT.1 3 w1.toNatClampNeg) ≤ 0 then
  (some (.inl (w0, (w1 + (1 : Int32)))))
  else
  zlet (w0 ||| ((1 : Int32) <<< (w1 &&& 31))) fun z5 =>
  some (.inl (z5, (w1 + (1 : Int32))))
set_option maxHeartbeats 4000000 in
set_option maxRecDepth 100000 in
theorem tX10_endBits_L4 {κ : Nat → ClassId} {tg : Nat} {S : zEn} {ad : Nat → Nat} {X : zX} {pR : zM} {pX : zM} {pF : zM} {pB : zM} {pP : zP} {pT : zM} {w0 : Int32} {w1 : Int32} {r : ((Int32 × Int32) ⊕ Int32)} (hC : zC X cX10_endBits RX10 wsX10_endBits vwCl (zty κ) (zE tg S) 3 ({ frames := 0, cells := 0, slots := 0, locals := 0 } : Room)) (hEk : zEk (zE tg S)) (hin : ∀ (x0' : Int32) (x1' : Int32), r = .inl (x0', x1') → zV X 0 0 (zwC κ ad pT pR pX pF pB pP) [(0, .ref (ad 0)), (1, .int x0'), (2, .int x1')] [] 4) (hout0 : ∀ (x0' : Int32), r = .inr x0' → zV X 0 0 (zwC κ ad pT pR pX pF pB pP) [(1, .int x0')] [] 39) (h : xX10_endBits_L4 pT  w0 w1 = some r) : zV X 0 0 (zwC κ ad pT pR pX pF pB pP) [(0, .ref (ad 0)), (1, .int w0), (2, .int w1)] [] 4 := by
  unfold xX10_endBits_L4 at h
  refine zr_iload_n (pc := 4) hC 2 rfl rfl dX10_endBits_4 ?_
  refine zr_bipush (pc := 5) hC zkb_24 dX10_endBits_5 ?_
  refine zr_icmp_ge (pc := 7) (tgt := 39) hC dX10_endBits_7 (by decide) (fun c1 => ?_) (fun c1 => ?_)
  · replace h := zip h c1
    obtain rfl := Option.some.inj h
    exact zV.sub (lv' := [(1, .int w0)]) [1] rfl (hout0 w0 rfl)
  · replace h := zin h c1
    refine zr_iload_n (pc := 10) hC 2 rfl rfl dX10_endBits_10 ?_
    refine zr_aload_n (pc := 11) hC 0 rfl rfl dX10_endBits_11 ?_
    refine zcg_0_13 (pc := 12) hC hinX10_endBits_X10 flX10_endBits_54 dX10_endBits_12 ?_
    refine zr_icmp_ge (pc := 15) (tgt := 39) hC dX10_endBits_15 (by decide) (fun c2 => ?_) (fun c2 => ?_)
    · replace h := zip h c2
      obtain rfl := Option.some.inj h
      exact zV.sub (lv' := [(1, .int w0)]) [1] rfl (hout0 w0 rfl)
    · replace h := zin h c2
      refine zr_aload_n (pc := 18) hC 0 rfl rfl dX10_endBits_18 ?_
      refine zcg_0_2 (pc := 19) hC hinX10_endBits_X10 flX10_endBits_18 dX10_endBits_19 ?_
      refine zr_iload_n (pc := 22) hC 2 rfl rfl dX10_endBits_22 ?_
      obtain ⟨i3, h⟩ := zgd h
      refine zcl_3 (pc := 23) hC i3 dX10_endBits_23 ?_
      refine zr_if_le (pc := 24) (tgt := 33) hC dX10_endBits_24 (by decide) (fun c4 => ?_) (fun c4 => ?_)
      · replace h := zip h c4
        refine zr_iinc (pc := 33) (k := 2) (lv' := [(2, .int (w1 + (1 : Int32))), (0, .ref (ad 0)), (1, .int w0)]) hC zki_1 (by decide) rfl rfl dX10_endBits_33 ?_
        refine zr_goto (pc := 36) (tgt := 4) hC dX10_endBits_36 (by decide) ?_
        obtain rfl := Option.some.inj h
        exact zV.sub (lv' := [(0, .ref (ad 0)), (1, .int w0), (2, .int (w1 + (1 : Int32)))]) [1, 2, 0] rfl (hin w0 (w1 + (1 : Int32)) rfl)
      · replace h := zin h c4
        refine zr_iload_n (pc := 27) hC 1 rfl rfl dX10_endBits_27 ?_
        refine zr_iconst (pc := 28) hC zki_1 dX10_endBits_28 ?_
        refine zr_iload_n (pc := 29) hC 2 rfl rfl dX10_endBits_29 ?_
        refine zr_ishl (pc := 30) hC dX10_endBits_30 ?_
        refine zr_ior (pc := 31) hC dX10_endBits_31 ?_
        obtain ⟨z5, e6, h⟩ := zle h
        refine zr_topi e6 ?_
        refine zr_istore_n (pc := 32) (lv' := [(1, .int z5), (0, .ref (ad 0)), (2, .int w1)]) hC rfl (by decide) rfl dX10_endBits_32 ?_
        refine zr_iinc (pc := 33) (k := 2) (lv' := [(2, .int (w1 + (1 : Int32))), (1, .int z5), (0, .ref (ad 0))]) hC zki_1 (by decide) rfl rfl dX10_endBits_33 ?_
        refine zr_goto (pc := 36) (tgt := 4) hC dX10_endBits_36 (by decide) ?_
        obtain rfl := Option.some.inj h
        exact zV.sub (lv' := [(0, .ref (ad 0)), (1, .int z5), (2, .int (w1 + (1 : Int32)))]) [2, 1, 0] rfl (hin z5 (w1 + (1 : Int32)) rfl)
def xX10_endBits (pT : zM)  : Option Int32 :=
  (x_it (fun a9 => xX10_endBits_L4 pT a9.1 a9.2) zFU ((0 : Int32), (1 : Int32))).bind fun q1 =>
  some q1
set_option maxHeartbeats 4000000 in
set_option maxRecDepth 100000 in
theorem tX10_endBits {κ : Nat → ClassId} {tg : Nat} {S : zEn} {ad : Nat → Nat} (hEk : zEk (zE tg S)) {pT : zM} {pR : zM} {pX : zM} {pF : zM} {pB : zM} {pP : zP}  {res : Int32} (h : xX10_endBits pT  = some res) (l : Launch) (D : va_G) : zCT (zE tg S) D vwCl (zty κ) l yX10_endBits wsX10_endBits ({ frames := 0, cells := 0, slots := 0, locals := 0 } : Room) 0 0 [.ref (ad 0)] (zwC κ ad pT pR pX pF pB pP) (zPd (some (.int res)) (zwC κ ad pT pR pX pF pB pP)) := by
  refine zCT.of (cc := cX10_endBits) (maxL := 3) (ret := (some .int)) (by decide) rfl (Nat.le_of_ble_eq_true rfl) ?_
  intro X hC hR
  unfold xX10_endBits at h
  refine zV.sub (lv' := [(0, .ref (ad 0))]) [0] rfl ?_
  refine zr_iconst (pc := 0) hC zki_0 dX10_endBits_0 ?_
  refine zr_istore_n (pc := 1) (lv' := [(1, .int (0 : Int32)), (0, .ref (ad 0))]) hC rfl (by decide) rfl dX10_endBits_1 ?_
  refine zr_iconst (pc := 2) hC zki_1 dX10_endBits_2 ?_
  refine zr_istore_n (pc := 3) (lv' := [(2, .int (1 : Int32)), (1, .int (0 : Int32)), (0, .ref (ad 0))]) hC rfl (by decide) rfl dX10_endBits_3 ?_
  obtain ⟨q1, hq1, h⟩ := zbd h
  refine zV.sub (lv' := [(0, .ref (ad 0)), (1, .int (0 : Int32)), (2, .int (1 : Int32))]) [2, 1, 0] rfl ?_
  refine zit2 (Wp := fun (y0 : Int32) (y1 : Int32) => zV X 0 0 (zwC κ ad pT pR pX pF pB pP) [(0, .ref (ad 0)), (1, .int y0), (2, .int y1)] [] 4) (Ex := fun (b9 : Int32) => zV X 0 0 (zwC κ ad pT pR pX pF pB pP) [(1, .int b9)] [] 39) (fun y0 y1 r9 hr hin hout => tX10_endBits_L4 hC hEk hin (fun z0 e9 => hout z0 e9) hr) zFU (0 : Int32) (1 : Int32) q1 hq1 ?_
  show zV X 0 0 (zwC κ ad pT pR pX pF pB pP) [(1, .int q1)] [] 39
  refine zr_iload_n (pc := 39) hC 0 rfl rfl dX10_endBits_39 ?_
  obtain rfl := Option.some.inj h
  exact zr_iret hC hR ⟨rfl, rfl⟩ (Nat.le_refl _) (Nat.le_refl _) dX10_endBits_40
/-! X2_wishes_k0 -/
theorem hyX2_wishes : yX2_wishes.cls = RX2 ∧ yX2_wishes.cls ≠ "java/lang/invoke/MethodHandle" ∧ yX2_wishes.cls ≠ "java/lang/invoke/VarHandle" ∧ (parseMethodDescriptor yX2_wishes.desc).map (fun d => d.parameters.length) = some 3 := by decide +kernel
theorem flX2_wishes_k0_9 : Cond.fieldLink RX2 9 "BeforeTheEnd$Race" "tree" "LBeforeTheEnd$Tree;" ∈ wsX2_wishes := by decide +kernel
theorem hinX2_wishes_k0_X6 : ∀ w ∈ wsX60, w ∈ wsX2_wishes := fun _ h => List.mem_cons_of_mem _ (List.mem_append_left _ (List.mem_append_right _ h))
theorem hinX2_wishes_k0_X10 : ∀ w ∈ wsX100, w ∈ wsX2_wishes := fun _ h => List.mem_cons_of_mem _ (List.mem_append_right _ h)
def xX2_wishes_k0 (pT : zM) (pP : zP) (v0 : Nat) (v2 : Int32) (v3 : Int32) : Option Int32 :=
  (xX10_endBits pT).bind fun q1 =>
  some q1
set_option maxHeartbeats 4000000 in
set_option maxRecDepth 100000 in
theorem tX2_wishes_k0 {κ : Nat → ClassId} {tg : Nat} {S : zEn} {ad : Nat → Nat} (hEk : zEk (zE tg S)) {pT : zM} {pR : zM} {pX : zM} {pF : zM} {pB : zM} {pP : zP} {v0 : Nat} {v2 : Int32} {v3 : Int32} (hk : pP.2.1 v0 = 0) (hv0 : v0 < pP.2.2.2) {res : Int32} (h : xX2_wishes_k0 pT pP v0 v2 v3 = some res) (l : Launch) (D : va_G) : zCT (zE tg S) D vwCl (zty κ) l yX2_wishes wsX2_wishes ({ frames := 1, cells := 0, slots := 0, locals := 22 } : Room) 0 0 [.ref (ad (81 + v0)), .ref (ad 62), .int v2, .int v3] (zwC κ ad pT pR pX pF pB pP) (zPd (some (.int res)) (zwC κ ad pT pR pX pF pB pP)) := by
  refine zCT.of (cc := cX2_wishes) (maxL := 4) (ret := (some .int)) (by decide) rfl (Nat.le_of_ble_eq_true rfl) ?_
  intro X hC hR
  unfold xX2_wishes_k0 at h
  refine zV.sub (lv' := [(0, .ref (ad (81 + v0))), (1, .ref (ad 62)), (2, .int v2), (3, .int v3)]) [0, 1, 2, 3] rfl ?_
  refine zr_aload_n (pc := 0) hC 1 rfl rfl dX2_wishes_0 ?_
  refine zcg_62_0 (pc := 1) hC hinX2_wishes_k0_X6 flX2_wishes_k0_9 dX2_wishes_1 ?_
  obtain ⟨q1, hq1, h⟩ := zbd h
  refine zr_cVi (pc := 4) hC hEk [] [] 0 0 (fun l D => tX10_endBits hEk hq1 l D) gX2_wishes_X10_endBits rfl rfl rfl ⟨Nat.le_of_ble_eq_true rfl, Nat.le_of_ble_eq_true rfl⟩ hyX10_endBits (zNC (by decide)) entC_0 rfl rfl rfl (Nat.le_of_ble_eq_true rfl) ⟨Nat.le_of_ble_eq_true rfl, Nat.le_of_ble_eq_true rfl⟩ dX2_wishes_4 ?_
  obtain rfl := Option.some.inj h
  exact zr_iret hC hR ⟨rfl, rfl⟩ (Nat.le_refl _) (Nat.le_refl _) dX2_wishes_7
/-! X10_has -/
theorem hyX10_has : yX10_has.cls = RX10 ∧ yX10_has.cls ≠ "java/lang/invoke/MethodHandle" ∧ yX10_has.cls ≠ "java/lang/invoke/VarHandle" ∧ (parseMethodDescriptor yX10_has.desc).map (fun d => d.parameters.length) = some 1 := by decide +kernel
theorem flX10_has_54 : Cond.fieldLink RX10 54 "BeforeTheEnd$Tree" "count" "I" ∈ wsX10_has := by decide +kernel
theorem hinX10_has_X10 : ∀ w ∈ wsX100, w ∈ wsX10_has := fun _ h => List.mem_cons_of_mem _ (List.mem_append_right _ h)
def xX10_has (pT : zM) (v1 : Int32) : Option Int32 :=
  if v1 < 0 then
  (some (0 : Int32))
  else
  if (24 : Int32) ≤ v1 then
  (some (0 : Int32))
  else
  if (pT.1 0 13) ≤ v1 then
  (some (0 : Int32))
  else
  some (1 : Int32)
set_option maxHeartbeats 4000000 in
set_option maxRecDepth 100000 in
theorem tX10_has {κ : Nat → ClassId} {tg : Nat} {S : zEn} {ad : Nat → Nat} (hEk : zEk (zE tg S)) {pT : zM} {pR : zM} {pX : zM} {pF : zM} {pB : zM} {pP : zP} {v1 : Int32} {res : Int32} (h : xX10_has pT v1 = some res) (l : Launch) (D : va_G) : zCT (zE tg S) D vwCl (zty κ) l yX10_has wsX10_has ({ frames := 0, cells := 0, slots := 0, locals := 0 } : Room) 0 0 [.ref (ad 0), .int v1] (zwC κ ad pT pR pX pF pB pP) (zPd (some (.int res)) (zwC κ ad pT pR pX pF pB pP)) := by
  refine zCT.of (cc := cX10_has) (maxL := 2) (ret := (some .boolean)) (by decide) rfl (Nat.le_of_ble_eq_true rfl) ?_
  intro X hC hR
  unfold xX10_has at h
  refine zV.sub (lv' := [(0, .ref (ad 0)), (1, .int v1)]) [0, 1] rfl ?_
  refine zr_iload_n (pc := 0) hC 1 rfl rfl dX10_has_0 ?_
  refine zr_if_lt (pc := 1) (tgt := 22) hC dX10_has_1 (by decide) (fun c1 => ?_) (fun c1 => ?_)
  · replace h := zip h c1
    refine zr_iconst (pc := 22) hC zki_0 dX10_has_22 ?_
    obtain rfl := Option.some.inj h
    exact zr_zret hC hR (by decide) ⟨rfl, rfl⟩ (Nat.le_refl _) (Nat.le_refl _) dX10_has_23
  · replace h := zin h c1
    refine zr_iload_n (pc := 4) hC 1 rfl rfl dX10_has_4 ?_
    refine zr_bipush (pc := 5) hC zkb_24 dX10_has_5 ?_
    refine zr_icmp_ge (pc := 7) (tgt := 22) hC dX10_has_7 (by decide) (fun c2 => ?_) (fun c2 => ?_)
    · replace h := zip h c2
      refine zr_iconst (pc := 22) hC zki_0 dX10_has_22 ?_
      obtain rfl := Option.some.inj h
      exact zr_zret hC hR (by decide) ⟨rfl, rfl⟩ (Nat.le_refl _) (Nat.le_refl _) dX10_has_23
    · replace h := zin h c2
      refine zr_iload_n (pc := 10) hC 1 rfl rfl dX10_has_10 ?_
      refine zr_aload_n (pc := 11) hC 0 rfl rfl dX10_has_11 ?_
      refine zcg_0_13 (pc := 12) hC hinX10_has_X10 flX10_has_54 dX10_has_12 ?_
      refine zr_icmp_ge (pc := 15) (tgt := 22) hC dX10_has_15 (by decide) (fun c3 => ?_) (fun c3 => ?_)
      · replace h := zip h c3
        refine zr_iconst (pc := 22) hC zki_0 dX10_has_22 ?_
        obtain rfl := Option.some.inj h
        exact zr_zret hC hR (by decide) ⟨rfl, rfl⟩ (Nat.le_refl _) (Nat.le_refl _) dX10_has_23
      · replace h := zin h c3
        refine zr_iconst (pc := 18) hC zki_1 dX10_has_18 ?_
        refine zr_goto (pc := 19) (tgt := 23) hC dX10_has_19 (by decide) ?_
        obtain rfl := Option.some.inj h
        exact zr_zret hC hR (by decide) ⟨rfl, rfl⟩ (Nat.le_refl _) (Nat.le_refl _) dX10_has_23
/-! X10_guessAt -/
theorem hyX10_guessAt : yX10_guessAt.cls = RX10 ∧ yX10_guessAt.cls ≠ "java/lang/invoke/MethodHandle" ∧ yX10_guessAt.cls ≠ "java/lang/invoke/VarHandle" ∧ (parseMethodDescriptor yX10_guessAt.desc).map (fun d => d.parameters.length) = some 2 := by decide +kernel
theorem flX10_guessAt_48 : Cond.fieldLink RX10 48 "BeforeTheEnd$Tree" "share" "[[J" ∈ wsX10_guessAt := by decide +kernel
theorem hinX10_guessAt_X10 : ∀ w ∈ wsX100, w ∈ wsX10_guessAt := fun _ h => List.mem_cons_of_mem _ (List.mem_append_right _ h)
def xX10_guessAt_L18 (pT : zM) (v1 : Int32) (v2 : Int32) (w0 : Int32) (w1 : Int64) (w2 : Int32) : Option ((Int32 × Int64 × Int32) ⊕ Int32) :=
  if (10 : Int32) ≤ w2 then
  (some (.inr w0))
  else
  if ((v2 >>> (w2 &&& 31)) &&& (1 : Int32)) = (1 : Int32) then
  (if (v1 < 0 ∨ 24 ≤ v1.toNatClampNeg) then none else
  if (w2 < 0 ∨ 10 ≤ w2.toNatClampNeg) then none else
  if (lg_cmp (pT.2 (14 + v1.toNatClampNeg) w2.toNatClampNeg) w1) ≤ 0 then
  (some (.inl (w0, w1, (w2 + (1 : Int32)))))
  else
  zlet (pT.2 (14 + v1.toNatClampNeg) w2.toNatClampNeg) fun z6 =>
  some (.inl (w2, z6, (w2 + (1 : Int32)))))
  else
  some (.inl (w0, w1, (w2 + (1 : Int32))))
set_option maxHeartbeats 4000000 in
set_option maxRecDepth 100000 in
theorem tX10_guessAt_L18 {κ : Nat → ClassId} {tg : Nat} {S : zEn} {ad : Nat → Nat} {X : zX} {pR : zM} {pX : zM} {pF : zM} {pB : zM} {pP : zP} {pT : zM} {v1 : Int32} {v2 : Int32} {w0 : Int32} {w1 : Int64} {w2 : Int32} {r : ((Int32 × Int64 × Int32) ⊕ Int32)} (hC : zC X cX10_guessAt RX10 wsX10_guessAt vwCl (zty κ) (zE tg S) 7 ({ frames := 1, cells := 0, slots := 0, locals := 21 } : Room)) (hEk : zEk (zE tg S)) (hin : ∀ (x0' : Int32) (x1' : Int64) (x2' : Int32), r = .inl (x0', x1', x2') → zV X 0 0 (zwC κ ad pT pR pX pF pB pP) [(0, .ref (ad 0)), (1, .int v1), (2, .int v2), (3, .int x0'), (4, .long x1'), (6, .int x2')] [] 18) (hout0 : ∀ (x0' : Int32), r = .inr x0' → zV X 0 0 (zwC κ ad pT pR pX pF pB pP) [(3, .int x0')] [] 70) (h : xX10_guessAt_L18 pT v1 v2 w0 w1 w2 = some r) : zV X 0 0 (zwC κ ad pT pR pX pF pB pP) [(0, .ref (ad 0)), (1, .int v1), (2, .int v2), (3, .int w0), (4, .long w1), (6, .int w2)] [] 18 := by
  unfold xX10_guessAt_L18 at h
  refine zr_iload (pc := 18) hC 5 rfl dX10_guessAt_18 ?_
  refine zr_bipush (pc := 20) hC zkb_10 dX10_guessAt_20 ?_
  refine zr_icmp_ge (pc := 22) (tgt := 70) hC dX10_guessAt_22 (by decide) (fun c1 => ?_) (fun c1 => ?_)
  · replace h := zip h c1
    obtain rfl := Option.some.inj h
    exact zV.sub (lv' := [(3, .int w0)]) [3] rfl (hout0 w0 rfl)
  · replace h := zin h c1
    refine zr_iload_n (pc := 25) hC 2 rfl rfl dX10_guessAt_25 ?_
    refine zr_iload (pc := 26) hC 5 rfl dX10_guessAt_26 ?_
    refine zr_ishr (pc := 28) hC dX10_guessAt_28 ?_
    refine zr_iconst (pc := 29) hC zki_1 dX10_guessAt_29 ?_
    refine zr_iand (pc := 30) hC dX10_guessAt_30 ?_
    refine zr_iconst (pc := 31) hC zki_1 dX10_guessAt_31 ?_
    refine zr_icmp_ne (pc := 32) (tgt := 64) hC dX10_guessAt_32 (by decide) (fun c2 => ?_) (fun c2 => ?_)
    · replace h := zin h c2
      refine zr_iinc (pc := 64) (k := 5) (lv' := [(6, .int (w2 + (1 : Int32))), (0, .ref (ad 0)), (1, .int v1), (2, .int v2), (3, .int w0), (4, .long w1)]) hC zki_1 (by decide) rfl rfl dX10_guessAt_64 ?_
      refine zr_goto (pc := 67) (tgt := 18) hC dX10_guessAt_67 (by decide) ?_
      obtain rfl := Option.some.inj h
      exact zV.sub (lv' := [(0, .ref (ad 0)), (1, .int v1), (2, .int v2), (3, .int w0), (4, .long w1), (6, .int (w2 + (1 : Int32)))]) [1, 2, 3, 4, 5, 0] rfl (hin w0 w1 (w2 + (1 : Int32)) rfl)
    · replace h := zip h c2
      refine zr_aload_n (pc := 35) hC 0 rfl rfl dX10_guessAt_35 ?_
      refine zcg_0_11 (pc := 36) hC hinX10_guessAt_X10 flX10_guessAt_48 dX10_guessAt_36 ?_
      refine zr_iload_n (pc := 39) hC 1 rfl rfl dX10_guessAt_39 ?_
      obtain ⟨i3, h⟩ := zgd h
      refine zcr_12 (pc := 40) hC i3 dX10_guessAt_40 ?_
      refine zr_iload (pc := 41) hC 5 rfl dX10_guessAt_41 ?_
      obtain ⟨i4, h⟩ := zgd h
      refine zrl_14 (pc := 43) hC i3 i4 dX10_guessAt_43 ?_
      refine zr_lload (pc := 44) hC 4 rfl dX10_guessAt_44 ?_
      refine zr_lcmp (pc := 46) hC dX10_guessAt_46 ?_
      refine zr_if_le (pc := 47) (tgt := 64) hC dX10_guessAt_47 (by decide) (fun c5 => ?_) (fun c5 => ?_)
      · replace h := zip h c5
        refine zr_iinc (pc := 64) (k := 5) (lv' := [(6, .int (w2 + (1 : Int32))), (0, .ref (ad 0)), (1, .int v1), (2, .int v2), (3, .int w0), (4, .long w1)]) hC zki_1 (by decide) rfl rfl dX10_guessAt_64 ?_
        refine zr_goto (pc := 67) (tgt := 18) hC dX10_guessAt_67 (by decide) ?_
        obtain rfl := Option.some.inj h
        exact zV.sub (lv' := [(0, .ref (ad 0)), (1, .int v1), (2, .int v2), (3, .int w0), (4, .long w1), (6, .int (w2 + (1 : Int32)))]) [1, 2, 3, 4, 5, 0] rfl (hin w0 w1 (w2 + (1 : Int32)) rfl)
      · replace h := zin h c5
        refine zr_aload_n (pc := 50) hC 0 rfl rfl dX10_guessAt_50 ?_
        refine zcg_0_11 (pc := 51) hC hinX10_guessAt_X10 flX10_guessAt_48 dX10_guessAt_51 ?_
        refine zr_iload_n (pc := 54) hC 1 rfl rfl dX10_guessAt_54 ?_
        refine zcr_12 (pc := 55) hC i3 dX10_guessAt_55 ?_
        refine zr_iload (pc := 56) hC 5 rfl dX10_guessAt_56 ?_
        refine zrl_14 (pc := 58) hC i3 i4 dX10_guessAt_58 ?_
        obtain ⟨z6, e7, h⟩ := zle h
        refine zr_topl e7 ?_
        refine zr_lstore (pc := 59) (lv' := [(4, .long z6), (0, .ref (ad 0)), (1, .int v1), (2, .int v2), (3, .int w0), (6, .int w2)]) hC (by decide) rfl dX10_guessAt_59 ?_
        refine zr_iload (pc := 61) hC 5 rfl dX10_guessAt_61 ?_
        refine zr_istore_n (pc := 63) (lv' := [(3, .int w2), (4, .long z6), (0, .ref (ad 0)), (1, .int v1), (2, .int v2), (6, .int w2)]) hC rfl (by decide) rfl dX10_guessAt_63 ?_
        refine zr_iinc (pc := 64) (k := 5) (lv' := [(6, .int (w2 + (1 : Int32))), (3, .int w2), (4, .long z6), (0, .ref (ad 0)), (1, .int v1), (2, .int v2)]) hC zki_1 (by decide) rfl rfl dX10_guessAt_64 ?_
        refine zr_goto (pc := 67) (tgt := 18) hC dX10_guessAt_67 (by decide) ?_
        obtain rfl := Option.some.inj h
        exact zV.sub (lv' := [(0, .ref (ad 0)), (1, .int v1), (2, .int v2), (3, .int w2), (4, .long z6), (6, .int (w2 + (1 : Int32)))]) [3, 4, 5, 1, 2, 0] rfl (hin w2 z6 (w2 + (1 : Int32)) rfl)
def xX10_guessAt (pT : zM) (v1 : Int32) (v2 : Int32) : Option Int32 :=
  (xX10_has pT v1).bind fun q1 =>
  if q1 = 0 then
  (some (0 : Int32))
  else
  (x_it (fun a9 => xX10_guessAt_L18 pT v1 v2 a9.1 a9.2.1 a9.2.2) zFU ((0 : Int32), (0 : Int64), (1 : Int32))).bind fun q3 =>
  some q3
set_option maxHeartbeats 4000000 in
set_option maxRecDepth 100000 in
theorem tX10_guessAt {κ : Nat → ClassId} {tg : Nat} {S : zEn} {ad : Nat → Nat} (hEk : zEk (zE tg S)) {pT : zM} {pR : zM} {pX : zM} {pF : zM} {pB : zM} {pP : zP} {v1 : Int32} {v2 : Int32} {res : Int32} (h : xX10_guessAt pT v1 v2 = some res) (l : Launch) (D : va_G) : zCT (zE tg S) D vwCl (zty κ) l yX10_guessAt wsX10_guessAt ({ frames := 1, cells := 0, slots := 0, locals := 21 } : Room) 0 0 [.ref (ad 0), .int v1, .int v2] (zwC κ ad pT pR pX pF pB pP) (zPd (some (.int res)) (zwC κ ad pT pR pX pF pB pP)) := by
  refine zCT.of (cc := cX10_guessAt) (maxL := 7) (ret := (some .int)) (by decide) rfl (Nat.le_of_ble_eq_true rfl) ?_
  intro X hC hR
  unfold xX10_guessAt at h
  refine zV.sub (lv' := [(0, .ref (ad 0)), (1, .int v1), (2, .int v2)]) [0, 1, 2] rfl ?_
  refine zr_aload_n (pc := 0) hC 0 rfl rfl dX10_guessAt_0 ?_
  refine zr_iload_n (pc := 1) hC 1 rfl rfl dX10_guessAt_1 ?_
  obtain ⟨q1, hq1, h⟩ := zbd h
  refine zr_cVi (pc := 2) hC hEk [.int v1] [] 0 1 (fun l D => tX10_has hEk hq1 l D) gX10_guessAt_X10_has rfl rfl rfl ⟨Nat.le_of_ble_eq_true rfl, Nat.le_of_ble_eq_true rfl⟩ hyX10_has (zNC (by decide)) entC_0 rfl rfl rfl (Nat.le_of_ble_eq_true rfl) ⟨Nat.le_of_ble_eq_true rfl, Nat.le_of_ble_eq_true rfl⟩ dX10_guessAt_2 ?_
  refine zr_if_ne (pc := 5) (tgt := 10) hC dX10_guessAt_5 (by decide) (fun c2 => ?_) (fun c2 => ?_)
  · replace h := zin h c2
    refine zr_iconst (pc := 10) hC zki_0 dX10_guessAt_10 ?_
    refine zr_istore_n (pc := 11) (lv' := [(3, .int (0 : Int32)), (0, .ref (ad 0)), (1, .int v1), (2, .int v2)]) hC rfl (by decide) rfl dX10_guessAt_11 ?_
    refine zr_lconst (pc := 12) hC zkl_0 dX10_guessAt_12 ?_
    refine zr_lstore (pc := 13) (lv' := [(4, .long (0 : Int64)), (3, .int (0 : Int32)), (0, .ref (ad 0)), (1, .int v1), (2, .int v2)]) hC (by decide) rfl dX10_guessAt_13 ?_
    refine zr_iconst (pc := 15) hC zki_1 dX10_guessAt_15 ?_
    refine zr_istore (pc := 16) (lv' := [(6, .int (1 : Int32)), (4, .long (0 : Int64)), (3, .int (0 : Int32)), (0, .ref (ad 0)), (1, .int v1), (2, .int v2)]) hC (by decide) rfl dX10_guessAt_16 ?_
    obtain ⟨q3, hq3, h⟩ := zbd h
    refine zV.sub (lv' := [(0, .ref (ad 0)), (1, .int v1), (2, .int v2), (3, .int (0 : Int32)), (4, .long (0 : Int64)), (6, .int (1 : Int32))]) [3, 4, 5, 2, 1, 0] rfl ?_
    refine zit3 (Wp := fun (y0 : Int32) (y1 : Int64) (y2 : Int32) => zV X 0 0 (zwC κ ad pT pR pX pF pB pP) [(0, .ref (ad 0)), (1, .int v1), (2, .int v2), (3, .int y0), (4, .long y1), (6, .int y2)] [] 18) (Ex := fun (b9 : Int32) => zV X 0 0 (zwC κ ad pT pR pX pF pB pP) [(3, .int b9)] [] 70) (fun y0 y1 y2 r9 hr hin hout => tX10_guessAt_L18 hC hEk hin (fun z0 e9 => hout z0 e9) hr) zFU (0 : Int32) (0 : Int64) (1 : Int32) q3 hq3 ?_
    show zV X 0 0 (zwC κ ad pT pR pX pF pB pP) [(3, .int q3)] [] 70
    refine zr_iload_n (pc := 70) hC 0 rfl rfl dX10_guessAt_70 ?_
    obtain rfl := Option.some.inj h
    exact zr_iret hC hR ⟨rfl, rfl⟩ (Nat.le_refl _) (Nat.le_refl _) dX10_guessAt_71
  · replace h := zip h c2
    refine zr_iconst (pc := 8) hC zki_0 dX10_guessAt_8 ?_
    obtain rfl := Option.some.inj h
    exact zr_iret hC hR ⟨rfl, rfl⟩ (Nat.le_refl _) (Nat.le_refl _) dX10_guessAt_9
/-! X10_shareOf -/
theorem hyX10_shareOf : yX10_shareOf.cls = RX10 ∧ yX10_shareOf.cls ≠ "java/lang/invoke/MethodHandle" ∧ yX10_shareOf.cls ≠ "java/lang/invoke/VarHandle" ∧ (parseMethodDescriptor yX10_shareOf.desc).map (fun d => d.parameters.length) = some 2 := by decide +kernel
theorem flX10_shareOf_48 : Cond.fieldLink RX10 48 "BeforeTheEnd$Tree" "share" "[[J" ∈ wsX10_shareOf := by decide +kernel
theorem hinX10_shareOf_X10 : ∀ w ∈ wsX100, w ∈ wsX10_shareOf := fun _ h => List.mem_cons_of_mem _ (List.mem_append_right _ h)
def xX10_shareOf (pT : zM) (v1 : Int32) (v2 : Int32) : Option Int64 :=
  (xX10_has pT v1).bind fun q1 =>
  if q1 = 0 then
  (some (0 : Int64))
  else
  if v2 ≤ 0 then
  (some (0 : Int64))
  else
  if (10 : Int32) ≤ v2 then
  (some (0 : Int64))
  else
  if (v1 < 0 ∨ 24 ≤ v1.toNatClampNeg) then none else
  if (v2 < 0 ∨ 10 ≤ v2.toNatClampNeg) then none else
  some (pT.2 (14 + v1.toNatClampNeg) v2.toNatClampNeg)
set_option maxHeartbeats 4000000 in
set_option maxRecDepth 100000 in
theorem tX10_shareOf {κ : Nat → ClassId} {tg : Nat} {S : zEn} {ad : Nat → Nat} (hEk : zEk (zE tg S)) {pT : zM} {pR : zM} {pX : zM} {pF : zM} {pB : zM} {pP : zP} {v1 : Int32} {v2 : Int32} {res : Int64} (h : xX10_shareOf pT v1 v2 = some res) (l : Launch) (D : va_G) : zCT (zE tg S) D vwCl (zty κ) l yX10_shareOf wsX10_shareOf ({ frames := 1, cells := 0, slots := 0, locals := 21 } : Room) 0 0 [.ref (ad 0), .int v1, .int v2] (zwC κ ad pT pR pX pF pB pP) (zPd (some (.long res)) (zwC κ ad pT pR pX pF pB pP)) := by
  refine zCT.of (cc := cX10_shareOf) (maxL := 3) (ret := (some .long)) (by decide) rfl (Nat.le_of_ble_eq_true rfl) ?_
  intro X hC hR
  unfold xX10_shareOf at h
  refine zV.sub (lv' := [(0, .ref (ad 0)), (1, .int v1), (2, .int v2)]) [0, 1, 2] rfl ?_
  refine zr_aload_n (pc := 0) hC 0 rfl rfl dX10_shareOf_0 ?_
  refine zr_iload_n (pc := 1) hC 1 rfl rfl dX10_shareOf_1 ?_
  obtain ⟨q1, hq1, h⟩ := zbd h
  refine zr_cVi (pc := 2) hC hEk [.int v1] [] 0 1 (fun l D => tX10_has hEk hq1 l D) gX10_shareOf_X10_has rfl rfl rfl ⟨Nat.le_of_ble_eq_true rfl, Nat.le_of_ble_eq_true rfl⟩ hyX10_has (zNC (by decide)) entC_0 rfl rfl rfl (Nat.le_of_ble_eq_true rfl) ⟨Nat.le_of_ble_eq_true rfl, Nat.le_of_ble_eq_true rfl⟩ dX10_shareOf_2 ?_
  refine zr_if_eq (pc := 5) (tgt := 29) hC dX10_shareOf_5 (by decide) (fun c2 => ?_) (fun c2 => ?_)
  · replace h := zip h c2
    refine zr_lconst (pc := 29) hC zkl_0 dX10_shareOf_29 ?_
    obtain rfl := Option.some.inj h
    exact zr_lret hC hR ⟨rfl, rfl⟩ (Nat.le_refl _) (Nat.le_refl _) dX10_shareOf_30
  · replace h := zin h c2
    refine zr_iload_n (pc := 8) hC 2 rfl rfl dX10_shareOf_8 ?_
    refine zr_if_le (pc := 9) (tgt := 29) hC dX10_shareOf_9 (by decide) (fun c3 => ?_) (fun c3 => ?_)
    · replace h := zip h c3
      refine zr_lconst (pc := 29) hC zkl_0 dX10_shareOf_29 ?_
      obtain rfl := Option.some.inj h
      exact zr_lret hC hR ⟨rfl, rfl⟩ (Nat.le_refl _) (Nat.le_refl _) dX10_shareOf_30
    · replace h := zin h c3
      refine zr_iload_n (pc := 12) hC 2 rfl rfl dX10_shareOf_12 ?_
      refine zr_bipush (pc := 13) hC zkb_10 dX10_shareOf_13 ?_
      refine zr_icmp_ge (pc := 15) (tgt := 29) hC dX10_shareOf_15 (by decide) (fun c4 => ?_) (fun c4 => ?_)
      · replace h := zip h c4
        refine zr_lconst (pc := 29) hC zkl_0 dX10_shareOf_29 ?_
        obtain rfl := Option.some.inj h
        exact zr_lret hC hR ⟨rfl, rfl⟩ (Nat.le_refl _) (Nat.le_refl _) dX10_shareOf_30
      · replace h := zin h c4
        refine zr_aload_n (pc := 18) hC 0 rfl rfl dX10_shareOf_18 ?_
        refine zcg_0_11 (pc := 19) hC hinX10_shareOf_X10 flX10_shareOf_48 dX10_shareOf_19 ?_
        refine zr_iload_n (pc := 22) hC 1 rfl rfl dX10_shareOf_22 ?_
        obtain ⟨i5, h⟩ := zgd h
        refine zcr_12 (pc := 23) hC i5 dX10_shareOf_23 ?_
        refine zr_iload_n (pc := 24) hC 2 rfl rfl dX10_shareOf_24 ?_
        obtain ⟨i6, h⟩ := zgd h
        refine zrl_14 (pc := 25) hC i5 i6 dX10_shareOf_25 ?_
        refine zr_goto (pc := 26) (tgt := 30) hC dX10_shareOf_26 (by decide) ?_
        obtain rfl := Option.some.inj h
        exact zr_lret hC hR ⟨rfl, rfl⟩ (Nat.le_refl _) (Nat.le_refl _) dX10_shareOf_30
/-! X10_sureBits -/
theorem hyX10_sureBits : yX10_sureBits.cls = RX10 ∧ yX10_sureBits.cls ≠ "java/lang/invoke/MethodHandle" ∧ yX10_sureBits.cls ≠ "java/lang/invoke/VarHandle" ∧ (parseMethodDescriptor yX10_sureBits.desc).map (fun d => d.parameters.length) = some 2 := by decide +kernel
theorem flX10_sureBits_36 : Cond.fieldLink RX10 36 "BeforeTheEnd$Tree" "below" "[J" ∈ wsX10_sureBits := by decide +kernel
theorem flX10_sureBits_54 : Cond.fieldLink RX10 54 "BeforeTheEnd$Tree" "count" "I" ∈ wsX10_sureBits := by decide +kernel
theorem flX10_sureBits_98 : Jvm.Cond.constantLong RX10 98 (100) ∈ wsX10_sureBits := by decide +kernel
theorem hinX10_sureBits_X10 : ∀ w ∈ wsX100, w ∈ wsX10_sureBits := fun _ h => List.mem_cons_of_mem _ (List.mem_append_right _ h)
def xX10_sureBits_L5 (pT : zM) (v1 : Int32) (v2 : Int32) (w0 : Int32) (w1 : Int32) : Option ((Int32 × Int32) ⊕ Int32) :=
  if (24 : Int32) ≤ w1 then
  (some (.inr w0))
  else
  if (pT.1 0 13) ≤ w1 then
  (some (.inr w0))
  else
  (xX10_guessAt pT w1 v1).bind fun q3 =>
  if q3 ≤ 0 then
  (some (.inl (w0, (w1 + (1 : Int32)))))
  else
  (xX10_shareOf pT w1 q3).bind fun q5 =>
  if (w1 < 0 ∨ 24 ≤ w1.toNatClampNeg) then none else
  if (lg_cmp (q5 * (100 : Int64)) (v2.toInt64 * (pT.2 9 w1.toNatClampNeg))) < 0 then
  (some (.inl (w0, (w1 + (1 : Int32)))))
  else
  zlet (w0 ||| ((1 : Int32) <<< (w1 &&& 31))) fun z8 =>
  some (.inl (z8, (w1 + (1 : Int32))))
set_option maxHeartbeats 4000000 in
set_option maxRecDepth 100000 in
theorem tX10_sureBits_L5 {κ : Nat → ClassId} {tg : Nat} {S : zEn} {ad : Nat → Nat} {X : zX} {pR : zM} {pX : zM} {pF : zM} {pB : zM} {pP : zP} {pT : zM} {v1 : Int32} {v2 : Int32} {w0 : Int32} {w1 : Int32} {r : ((Int32 × Int32) ⊕ Int32)} (hC : zC X cX10_sureBits RX10 wsX10_sureBits vwCl (zty κ) (zE tg S) 6 ({ frames := 2, cells := 0, slots := 0, locals := 47 } : Room)) (hEk : zEk (zE tg S)) (hin : ∀ (x0' : Int32) (x1' : Int32), r = .inl (x0', x1') → zV X 0 0 (zwC κ ad pT pR pX pF pB pP) [(0, .ref (ad 0)), (1, .int v1), (2, .int v2), (3, .int x0'), (4, .int x1')] [] 5) (hout0 : ∀ (x0' : Int32), r = .inr x0' → zV X 0 0 (zwC κ ad pT pR pX pF pB pP) [(3, .int x0')] [] 74) (h : xX10_sureBits_L5 pT v1 v2 w0 w1 = some r) : zV X 0 0 (zwC κ ad pT pR pX pF pB pP) [(0, .ref (ad 0)), (1, .int v1), (2, .int v2), (3, .int w0), (4, .int w1)] [] 5 := by
  unfold xX10_sureBits_L5 at h
  refine zr_iload (pc := 5) hC 4 rfl dX10_sureBits_5 ?_
  refine zr_bipush (pc := 7) hC zkb_24 dX10_sureBits_7 ?_
  refine zr_icmp_ge (pc := 9) (tgt := 74) hC dX10_sureBits_9 (by decide) (fun c1 => ?_) (fun c1 => ?_)
  · replace h := zip h c1
    obtain rfl := Option.some.inj h
    exact zV.sub (lv' := [(3, .int w0)]) [3] rfl (hout0 w0 rfl)
  · replace h := zin h c1
    refine zr_iload (pc := 12) hC 4 rfl dX10_sureBits_12 ?_
    refine zr_aload_n (pc := 14) hC 0 rfl rfl dX10_sureBits_14 ?_
    refine zcg_0_13 (pc := 15) hC hinX10_sureBits_X10 flX10_sureBits_54 dX10_sureBits_15 ?_
    refine zr_icmp_ge (pc := 18) (tgt := 74) hC dX10_sureBits_18 (by decide) (fun c2 => ?_) (fun c2 => ?_)
    · replace h := zip h c2
      obtain rfl := Option.some.inj h
      exact zV.sub (lv' := [(3, .int w0)]) [3] rfl (hout0 w0 rfl)
    · replace h := zin h c2
      refine zr_aload_n (pc := 21) hC 0 rfl rfl dX10_sureBits_21 ?_
      refine zr_iload (pc := 22) hC 4 rfl dX10_sureBits_22 ?_
      refine zr_iload_n (pc := 24) hC 1 rfl rfl dX10_sureBits_24 ?_
      obtain ⟨q3, hq3, h⟩ := zbd h
      refine zr_cVi (pc := 25) hC hEk [.int w1, .int v1] [] 0 2 (fun l D => tX10_guessAt hEk hq3 l D) gX10_sureBits_X10_guessAt rfl rfl rfl ⟨Nat.le_of_ble_eq_true rfl, Nat.le_of_ble_eq_true rfl⟩ hyX10_guessAt (zNC (by decide)) entC_0 rfl rfl rfl (Nat.le_of_ble_eq_true rfl) ⟨Nat.le_of_ble_eq_true rfl, Nat.le_of_ble_eq_true rfl⟩ dX10_sureBits_25 ?_
      refine zr_istore (pc := 28) (lv' := [(5, .int q3), (0, .ref (ad 0)), (1, .int v1), (2, .int v2), (3, .int w0), (4, .int w1)]) hC (by decide) rfl dX10_sureBits_28 ?_
      refine zr_iload (pc := 30) hC 0 rfl dX10_sureBits_30 ?_
      refine zr_if_le (pc := 32) (tgt := 68) hC dX10_sureBits_32 (by decide) (fun c4 => ?_) (fun c4 => ?_)
      · replace h := zip h c4
        refine zr_iinc (pc := 68) (k := 5) (lv' := [(4, .int (w1 + (1 : Int32))), (5, .int q3), (0, .ref (ad 0)), (1, .int v1), (2, .int v2), (3, .int w0)]) hC zki_1 (by decide) rfl rfl dX10_sureBits_68 ?_
        refine zr_goto (pc := 71) (tgt := 5) hC dX10_sureBits_71 (by decide) ?_
        obtain rfl := Option.some.inj h
        exact zV.sub (lv' := [(0, .ref (ad 0)), (1, .int v1), (2, .int v2), (3, .int w0), (4, .int (w1 + (1 : Int32)))]) [2, 3, 4, 5, 0] rfl (hin w0 (w1 + (1 : Int32)) rfl)
      · replace h := zin h c4
        refine zr_aload_n (pc := 35) hC 1 rfl rfl dX10_sureBits_35 ?_
        refine zr_iload (pc := 36) hC 5 rfl dX10_sureBits_36 ?_
        refine zr_iload (pc := 38) hC 0 rfl dX10_sureBits_38 ?_
        obtain ⟨q5, hq5, h⟩ := zbd h
        refine zr_cVl (pc := 40) hC hEk [.int w1, .int q3] [] 0 2 (fun l D => tX10_shareOf hEk hq5 l D) gX10_sureBits_X10_shareOf rfl rfl rfl ⟨Nat.le_of_ble_eq_true rfl, Nat.le_of_ble_eq_true rfl⟩ hyX10_shareOf (zNC (by decide)) entC_0 rfl rfl rfl (Nat.le_of_ble_eq_true rfl) ⟨Nat.le_of_ble_eq_true rfl, Nat.le_of_ble_eq_true rfl⟩ dX10_sureBits_40 ?_
        refine zr_ldc2 (pc := 43) hC flX10_sureBits_98 dX10_sureBits_43 ?_
        refine zr_lmul (pc := 46) hC dX10_sureBits_46 ?_
        refine zr_iload_n (pc := 47) hC 3 rfl rfl dX10_sureBits_47 ?_
        refine zr_i2l (pc := 48) hC dX10_sureBits_48 ?_
        refine zr_aload_n (pc := 49) hC 1 rfl rfl dX10_sureBits_49 ?_
        refine zcg_0_8 (pc := 50) hC hinX10_sureBits_X10 flX10_sureBits_36 dX10_sureBits_50 ?_
        refine zr_iload (pc := 53) hC 5 rfl dX10_sureBits_53 ?_
        obtain ⟨i6, h⟩ := zgd h
        refine zcl_9 (pc := 55) hC i6 dX10_sureBits_55 ?_
        refine zr_lmul (pc := 56) hC dX10_sureBits_56 ?_
        refine zr_lcmp (pc := 57) hC dX10_sureBits_57 ?_
        refine zr_if_lt (pc := 58) (tgt := 68) hC dX10_sureBits_58 (by decide) (fun c7 => ?_) (fun c7 => ?_)
        · replace h := zip h c7
          refine zr_iinc (pc := 68) (k := 5) (lv' := [(4, .int (w1 + (1 : Int32))), (5, .int q3), (0, .ref (ad 0)), (1, .int v1), (2, .int v2), (3, .int w0)]) hC zki_1 (by decide) rfl rfl dX10_sureBits_68 ?_
          refine zr_goto (pc := 71) (tgt := 5) hC dX10_sureBits_71 (by decide) ?_
          obtain rfl := Option.some.inj h
          exact zV.sub (lv' := [(0, .ref (ad 0)), (1, .int v1), (2, .int v2), (3, .int w0), (4, .int (w1 + (1 : Int32)))]) [2, 3, 4, 5, 0] rfl (hin w0 (w1 + (1 : Int32)) rfl)
        · replace h := zin h c7
          refine zr_iload_n (pc := 61) hC 4 rfl rfl dX10_sureBits_61 ?_
          refine zr_iconst (pc := 62) hC zki_1 dX10_sureBits_62 ?_
          refine zr_iload (pc := 63) hC 5 rfl dX10_sureBits_63 ?_
          refine zr_ishl (pc := 65) hC dX10_sureBits_65 ?_
          refine zr_ior (pc := 66) hC dX10_sureBits_66 ?_
          obtain ⟨z8, e9, h⟩ := zle h
          refine zr_topi e9 ?_
          refine zr_istore_n (pc := 67) (lv' := [(3, .int z8), (5, .int q3), (0, .ref (ad 0)), (1, .int v1), (2, .int v2), (4, .int w1)]) hC rfl (by decide) rfl dX10_sureBits_67 ?_
          refine zr_iinc (pc := 68) (k := 5) (lv' := [(4, .int (w1 + (1 : Int32))), (3, .int z8), (5, .int q3), (0, .ref (ad 0)), (1, .int v1), (2, .int v2)]) hC zki_1 (by decide) rfl rfl dX10_sureBits_68 ?_
          refine zr_goto (pc := 71) (tgt := 5) hC dX10_sureBits_71 (by decide) ?_
          obtain rfl := Option.some.inj h
          exact zV.sub (lv' := [(0, .ref (ad 0)), (1, .int v1), (2, .int v2), (3, .int z8), (4, .int (w1 + (1 : Int32)))]) [3, 4, 5, 1, 0] rfl (hin z8 (w1 + (1 : Int32)) rfl)
def xX10_sureBits (pT : zM) (v1 : Int32) (v2 : Int32) : Option Int32 :=
  (x_it (fun a9 => xX10_sureBits_L5 pT v1 v2 a9.1 a9.2) zFU ((0 : Int32), (1 : Int32))).bind fun q1 =>
  some q1
set_option maxHeartbeats 4000000 in
set_option maxRecDepth 100000 in
theorem tX10_sureBits {κ : Nat → ClassId} {tg : Nat} {S : zEn} {ad : Nat → Nat} (hEk : zEk (zE tg S)) {pT : zM} {pR : zM} {pX : zM} {pF : zM} {pB : zM} {pP : zP} {v1 : Int32} {v2 : Int32} {res : Int32} (h : xX10_sureBits pT v1 v2 = some res) (l : Launch) (D : va_G) : zCT (zE tg S) D vwCl (zty κ) l yX10_sureBits wsX10_sureBits ({ frames := 2, cells := 0, slots := 0, locals := 47 } : Room) 0 0 [.ref (ad 0), .int v1, .int v2] (zwC κ ad pT pR pX pF pB pP) (zPd (some (.int res)) (zwC κ ad pT pR pX pF pB pP)) := by
  refine zCT.of (cc := cX10_sureBits) (maxL := 6) (ret := (some .int)) (by decide) rfl (Nat.le_of_ble_eq_true rfl) ?_
  intro X hC hR
  unfold xX10_sureBits at h
  refine zV.sub (lv' := [(0, .ref (ad 0)), (1, .int v1), (2, .int v2)]) [0, 1, 2] rfl ?_
  refine zr_iconst (pc := 0) hC zki_0 dX10_sureBits_0 ?_
  refine zr_istore_n (pc := 1) (lv' := [(3, .int (0 : Int32)), (0, .ref (ad 0)), (1, .int v1), (2, .int v2)]) hC rfl (by decide) rfl dX10_sureBits_1 ?_
  refine zr_iconst (pc := 2) hC zki_1 dX10_sureBits_2 ?_
  refine zr_istore (pc := 3) (lv' := [(4, .int (1 : Int32)), (3, .int (0 : Int32)), (0, .ref (ad 0)), (1, .int v1), (2, .int v2)]) hC (by decide) rfl dX10_sureBits_3 ?_
  obtain ⟨q1, hq1, h⟩ := zbd h
  refine zV.sub (lv' := [(0, .ref (ad 0)), (1, .int v1), (2, .int v2), (3, .int (0 : Int32)), (4, .int (1 : Int32))]) [2, 3, 4, 1, 0] rfl ?_
  refine zit2 (Wp := fun (y0 : Int32) (y1 : Int32) => zV X 0 0 (zwC κ ad pT pR pX pF pB pP) [(0, .ref (ad 0)), (1, .int v1), (2, .int v2), (3, .int y0), (4, .int y1)] [] 5) (Ex := fun (b9 : Int32) => zV X 0 0 (zwC κ ad pT pR pX pF pB pP) [(3, .int b9)] [] 74) (fun y0 y1 r9 hr hin hout => tX10_sureBits_L5 hC hEk hin (fun z0 e9 => hout z0 e9) hr) zFU (0 : Int32) (1 : Int32) q1 hq1 ?_
  show zV X 0 0 (zwC κ ad pT pR pX pF pB pP) [(3, .int q1)] [] 74
  refine zr_iload_n (pc := 74) hC 0 rfl rfl dX10_sureBits_74 ?_
  obtain rfl := Option.some.inj h
  exact zr_iret hC hR ⟨rfl, rfl⟩ (Nat.le_refl _) (Nat.le_refl _) dX10_sureBits_75
/-! X7_hundredths_k1 -/
theorem hyX7_hundredths : yX7_hundredths.cls = RX7 ∧ yX7_hundredths.cls ≠ "java/lang/invoke/MethodHandle" ∧ yX7_hundredths.cls ≠ "java/lang/invoke/VarHandle" ∧ (parseMethodDescriptor yX7_hundredths.desc).map (fun d => d.parameters.length) = some 1 := by decide +kernel
theorem flX7_hundredths_k1_31 : Cond.fieldLink RX7 31 "BeforeTheEnd$Sure" "sure" "I" ∈ wsX7_hundredths := by decide +kernel
theorem sfX7_hundredths_k1_31 : Cond.sameField "BeforeTheEnd$Sure" "BeforeTheEnd$Player" "sure" "I" ∈ wsX7_hundredths := by decide +kernel
theorem hinX7_hundredths_k1_X0 : ∀ w ∈ wsX00, w ∈ wsX7_hundredths := fun _ h => List.mem_cons_of_mem _ (List.mem_append_left _ (List.mem_append_left _ (List.mem_append_left _ (List.mem_append_left _ (List.mem_append_left _ (List.mem_append_right _ h))))))
theorem hinX7_hundredths_k1_X1 : ∀ w ∈ wsX10, w ∈ wsX7_hundredths := fun _ h => List.mem_cons_of_mem _ (List.mem_append_left _ (List.mem_append_left _ (List.mem_append_left _ (List.mem_append_left _ (List.mem_append_right _ h)))))
theorem hinX7_hundredths_k1_X2 : ∀ w ∈ wsX20, w ∈ wsX7_hundredths := fun _ h => List.mem_cons_of_mem _ (List.mem_append_left _ (List.mem_append_left _ (List.mem_append_left _ (List.mem_append_right _ h))))
theorem hinX7_hundredths_k1_X4 : ∀ w ∈ wsX40, w ∈ wsX7_hundredths := fun _ h => List.mem_cons_of_mem _ (List.mem_append_left _ (List.mem_append_left _ (List.mem_append_right _ h)))
theorem hinX7_hundredths_k1_X7 : ∀ w ∈ wsX70, w ∈ wsX7_hundredths := fun _ h => List.mem_cons_of_mem _ (List.mem_append_left _ (List.mem_append_right _ h))
theorem hinX7_hundredths_k1_X9 : ∀ w ∈ wsX90, w ∈ wsX7_hundredths := fun _ h => List.mem_cons_of_mem _ (List.mem_append_right _ h)
def xX7_hundredths_k1 (pP : zP) (v0 : Nat) (v1 : Int32) : Option Int32 :=
  some (pP.2.2.1 v0 1)
set_option maxHeartbeats 4000000 in
set_option maxRecDepth 100000 in
theorem tX7_hundredths_k1 {κ : Nat → ClassId} {tg : Nat} {S : zEn} {ad : Nat → Nat} (hEk : zEk (zE tg S)) {pT : zM} {pR : zM} {pX : zM} {pF : zM} {pB : zM} {pP : zP} {v0 : Nat} {v1 : Int32} (hk : pP.2.1 v0 = 1) (hv0 : v0 < pP.2.2.2) {res : Int32} (h : xX7_hundredths_k1 pP v0 v1 = some res) (l : Launch) (D : va_G) : zCT (zE tg S) D vwCl (zty κ) l yX7_hundredths wsX7_hundredths ({ frames := 0, cells := 0, slots := 0, locals := 0 } : Room) 0 0 [.ref (ad (81 + v0)), .int v1] (zwC κ ad pT pR pX pF pB pP) (zPd (some (.int res)) (zwC κ ad pT pR pX pF pB pP)) := by
  refine zCT.of (cc := cX7_hundredths) (maxL := 2) (ret := (some .int)) (by decide) rfl (Nat.le_of_ble_eq_true rfl) ?_
  intro X hC hR
  unfold xX7_hundredths_k1 at h
  refine zV.sub (lv' := [(0, .ref (ad (81 + v0))), (1, .int v1)]) [0, 1] rfl ?_
  refine zr_aload_n (pc := 0) hC 0 rfl rfl dX7_hundredths_0 ?_
  refine zr_getS (pc := 1) (ref := "BeforeTheEnd$Sure") (T := TX7) hC (81 + v0) hinX7_hundredths_k1_X7 (by simpa using hv0) (entC_p1 hk) rfl 1 (by decide) flX7_hundredths_k1_31 sfX7_hundredths_k1_31 rfl dX7_hundredths_1 ?_
  obtain rfl := Option.some.inj h
  exact zr_iret hC hR ⟨rfl, rfl⟩ (Nat.le_refl _) (Nat.le_refl _) dX7_hundredths_4
/-! X7_wishes_k1 -/
theorem hyX7_wishes : yX7_wishes.cls = RX7 ∧ yX7_wishes.cls ≠ "java/lang/invoke/MethodHandle" ∧ yX7_wishes.cls ≠ "java/lang/invoke/VarHandle" ∧ (parseMethodDescriptor yX7_wishes.desc).map (fun d => d.parameters.length) = some 3 := by decide +kernel
theorem flX7_wishes_k1_9 : Cond.fieldLink RX7 9 "BeforeTheEnd$Race" "tree" "LBeforeTheEnd$Tree;" ∈ wsX7_wishes := by decide +kernel
theorem h0X7_wishes_hundredths : Cond.code ⟨"BeforeTheEnd$Sure", "hundredths", "(Z)I"⟩ cX7_hundredths 2 (some .int) ∈ wsX7_wishes := by decide +kernel
theorem hoX7_hundredths : "BeforeTheEnd$Sure" ≠ "java/lang/invoke/MethodHandle" ∧ "BeforeTheEnd$Sure" ≠ "java/lang/invoke/VarHandle" ∧ (parseMethodDescriptor "(Z)I").map (fun d => d.parameters.length) = some 1 := by decide +kernel
theorem hinX7_wishes_k1_X6 : ∀ w ∈ wsX60, w ∈ wsX7_wishes := fun _ h => List.mem_cons_of_mem _ (List.mem_append_left _ (List.mem_append_left _ (List.mem_append_left _ (List.mem_append_left _ (List.mem_append_left _ (List.mem_append_left _ (List.mem_append_left _ (List.mem_append_right _ h))))))))
theorem hinX7_wishes_k1_X0 : ∀ w ∈ wsX00, w ∈ wsX7_wishes := fun _ h => List.mem_cons_of_mem _ (List.mem_append_left _ (List.mem_append_left _ (List.mem_append_left _ (List.mem_append_left _ (List.mem_append_left _ (List.mem_append_left _ (List.mem_append_right _ h)))))))
theorem hinX7_wishes_k1_X1 : ∀ w ∈ wsX10, w ∈ wsX7_wishes := fun _ h => List.mem_cons_of_mem _ (List.mem_append_left _ (List.mem_append_left _ (List.mem_append_left _ (List.mem_append_left _ (List.mem_append_left _ (List.mem_append_right _ h))))))
theorem hinX7_wishes_k1_X2 : ∀ w ∈ wsX20, w ∈ wsX7_wishes := fun _ h => List.mem_cons_of_mem _ (List.mem_append_left _ (List.mem_append_left _ (List.mem_append_left _ (List.mem_append_left _ (List.mem_append_right _ h)))))
theorem hinX7_wishes_k1_X4 : ∀ w ∈ wsX40, w ∈ wsX7_wishes := fun _ h => List.mem_cons_of_mem _ (List.mem_append_left _ (List.mem_append_left _ (List.mem_append_left _ (List.mem_append_right _ h))))
theorem hinX7_wishes_k1_X7 : ∀ w ∈ wsX70, w ∈ wsX7_wishes := fun _ h => List.mem_cons_of_mem _ (List.mem_append_left _ (List.mem_append_left _ (List.mem_append_right _ h)))
theorem hinX7_wishes_k1_X9 : ∀ w ∈ wsX90, w ∈ wsX7_wishes := fun _ h => List.mem_cons_of_mem _ (List.mem_append_left _ (List.mem_append_right _ h))
theorem hinX7_wishes_k1_X10 : ∀ w ∈ wsX100, w ∈ wsX7_wishes := fun _ h => List.mem_cons_of_mem _ (List.mem_append_right _ h)
def xX7_wishes_k1 (pT : zM) (pP : zP) (v0 : Nat) (v2 : Int32) (v3 : Int32) : Option Int32 :=
  (xX7_hundredths_k1 pP v0 v3).bind fun q1 =>
  (xX10_sureBits pT v2 q1).bind fun q2 =>
  (xX10_endBits pT).bind fun q3 =>
  some (q2 ||| q3)
set_option maxHeartbeats 4000000 in
set_option maxRecDepth 100000 in
theorem tX7_wishes_k1 {κ : Nat → ClassId} {tg : Nat} {S : zEn} {ad : Nat → Nat} (hEk : zEk (zE tg S)) {pT : zM} {pR : zM} {pX : zM} {pF : zM} {pB : zM} {pP : zP} {v0 : Nat} {v2 : Int32} {v3 : Int32} (hk : pP.2.1 v0 = 1) (hv0 : v0 < pP.2.2.2) {res : Int32} (h : xX7_wishes_k1 pT pP v0 v2 v3 = some res) (l : Launch) (D : va_G) : zCT (zE tg S) D vwCl (zty κ) l yX7_wishes wsX7_wishes ({ frames := 3, cells := 0, slots := 0, locals := 72 } : Room) 0 0 [.ref (ad (81 + v0)), .ref (ad 62), .int v2, .int v3] (zwC κ ad pT pR pX pF pB pP) (zPd (some (.int res)) (zwC κ ad pT pR pX pF pB pP)) := by
  refine zCT.of (cc := cX7_wishes) (maxL := 4) (ret := (some .int)) (by decide) rfl (Nat.le_of_ble_eq_true rfl) ?_
  intro X hC hR
  unfold xX7_wishes_k1 at h
  refine zV.sub (lv' := [(0, .ref (ad (81 + v0))), (1, .ref (ad 62)), (2, .int v2), (3, .int v3)]) [0, 1, 2, 3] rfl ?_
  refine zr_aload_n (pc := 0) hC 1 rfl rfl dX7_wishes_0 ?_
  refine zcg_62_0 (pc := 1) hC hinX7_wishes_k1_X6 flX7_wishes_k1_9 dX7_wishes_1 ?_
  refine zr_iload_n (pc := 4) hC 2 rfl rfl dX7_wishes_4 ?_
  refine zr_aload_n (pc := 5) hC 0 rfl rfl dX7_wishes_5 ?_
  refine zr_iload_n (pc := 6) hC 3 rfl rfl dX7_wishes_6 ?_
  obtain ⟨q1, hq1, h⟩ := zbd h
  refine zr_cVi (pc := 7) hC hEk [.int v3] [.int v2, .ref (ad 0)] (81 + v0) 1 (fun l D => tX7_hundredths_k1 hEk hk hv0 hq1 l D) gX7_wishes_X7_hundredths rfl rfl rfl ⟨Nat.le_of_ble_eq_true rfl, Nat.le_of_ble_eq_true rfl⟩ hyX7_hundredths (by simpa using hv0) (entC_p1 hk) rfl rfl rfl (Nat.le_of_ble_eq_true rfl) ⟨Nat.le_of_ble_eq_true rfl, Nat.le_of_ble_eq_true rfl⟩ dX7_wishes_7 ?_
  obtain ⟨q2, hq2, h⟩ := zbd h
  refine zr_cVi (pc := 10) hC hEk [.int v2, .int q1] [] 0 2 (fun l D => tX10_sureBits hEk hq2 l D) gX7_wishes_X10_sureBits rfl rfl rfl ⟨Nat.le_of_ble_eq_true rfl, Nat.le_of_ble_eq_true rfl⟩ hyX10_sureBits (zNC (by decide)) entC_0 rfl rfl rfl (Nat.le_of_ble_eq_true rfl) ⟨Nat.le_of_ble_eq_true rfl, Nat.le_of_ble_eq_true rfl⟩ dX7_wishes_10 ?_
  refine zr_aload_n (pc := 13) hC 1 rfl rfl dX7_wishes_13 ?_
  refine zcg_62_0 (pc := 14) hC hinX7_wishes_k1_X6 flX7_wishes_k1_9 dX7_wishes_14 ?_
  obtain ⟨q3, hq3, h⟩ := zbd h
  refine zr_cVi (pc := 17) hC hEk [] [.int q2] 0 0 (fun l D => tX10_endBits hEk hq3 l D) gX7_wishes_X10_endBits rfl rfl rfl ⟨Nat.le_of_ble_eq_true rfl, Nat.le_of_ble_eq_true rfl⟩ hyX10_endBits (zNC (by decide)) entC_0 rfl rfl rfl (Nat.le_of_ble_eq_true rfl) ⟨Nat.le_of_ble_eq_true rfl, Nat.le_of_ble_eq_true rfl⟩ dX7_wishes_17 ?_
  refine zr_ior (pc := 20) hC dX7_wishes_20 ?_
  obtain rfl := Option.some.inj h
  exact zr_iret hC hR ⟨rfl, rfl⟩ (Nat.le_refl _) (Nat.le_refl _) dX7_wishes_21
