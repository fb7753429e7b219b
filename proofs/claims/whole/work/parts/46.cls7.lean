/-! X11_whole -/
theorem hyX11_whole : yX11_whole.cls = RX11 ∧ yX11_whole.cls ≠ "java/lang/invoke/MethodHandle" ∧ yX11_whole.cls ≠ "java/lang/invoke/VarHandle" ∧ (parseMethodDescriptor yX11_whole.desc).map (fun d => d.parameters.length) = some 0 := by decide +kernel
theorem flX11_whole_59 : Cond.fieldLink RX11 59 "BeforeTheEnd" "tree" "LBeforeTheEnd$Tree;" ∈ wsX11_whole := by decide +kernel
theorem hinX11_whole_X11 : ∀ w ∈ wsX110, w ∈ wsX11_whole := fun _ h => List.mem_cons_of_mem _ (List.mem_append_left _ (List.mem_append_right _ h))
theorem hinX11_whole_X10 : ∀ w ∈ wsX100, w ∈ wsX11_whole := fun _ h => List.mem_cons_of_mem _ (List.mem_append_right _ h)
def xX11_whole (pT : zM)  : Option Int32 :=
  (xX10_isWhole pT).bind fun q1 =>
  if q1 = 0 then
  (some (0 : Int32))
  else
  some (1 : Int32)
set_option maxHeartbeats 4000000 in
set_option maxRecDepth 100000 in
theorem tX11_whole {κ : Nat → ClassId} {tg : Nat} {S : zEn} {ad : Nat → Nat} (hEk : zEk (zE tg S)) {pT : zM} {pR : zM} {pX : zM} {pF : zM} {pB : zM} {pP : zP}  {res : Int32} (h : xX11_whole pT  = some res) (l : Launch) (D : va_G) : zCT (zE tg S) D vwCl (zty κ) l yX11_whole wsX11_whole ({ frames := 1, cells := 0, slots := 0, locals := 20 } : Room) 0 0 [.ref (ad 76)] (zwC κ ad pT pR pX pF pB pP) (zPd (some (.int res)) (zwC κ ad pT pR pX pF pB pP)) := by
  refine zCT.of (cc := cX11_whole) (maxL := 1) (ret := (some .int)) (by decide) rfl (Nat.le_of_ble_eq_true rfl) ?_
  intro X hC hR
  unfold xX11_whole at h
  refine zV.sub (lv' := [(0, .ref (ad 76))]) [0] rfl ?_
  refine zr_aload_n (pc := 0) hC 0 rfl rfl dX11_whole_0 ?_
  refine zcg_76_0 (pc := 1) hC hinX11_whole_X11 flX11_whole_59 dX11_whole_1 ?_
  obtain ⟨q1, hq1, h⟩ := zbd h
  refine zr_cVi (pc := 4) hC hEk [] [] 0 0 (fun l D => tX10_isWhole hEk hq1 l D) gX11_whole_X10_isWhole rfl rfl rfl ⟨Nat.le_of_ble_eq_true rfl, Nat.le_of_ble_eq_true rfl⟩ hyX10_isWhole (zNC (by decide)) entC_0 rfl rfl rfl (Nat.le_of_ble_eq_true rfl) ⟨Nat.le_of_ble_eq_true rfl, Nat.le_of_ble_eq_true rfl⟩ dX11_whole_4 ?_
  refine zr_if_eq (pc := 7) (tgt := 14) hC dX11_whole_7 (by decide) (fun c2 => ?_) (fun c2 => ?_)
  · replace h := zip h c2
    refine zr_iconst (pc := 14) hC zki_0 dX11_whole_14 ?_
    obtain rfl := Option.some.inj h
    exact zr_iret hC hR ⟨rfl, rfl⟩ (Nat.le_refl _) (Nat.le_refl _) dX11_whole_15
  · replace h := zin h c2
    refine zr_iconst (pc := 10) hC zki_1 dX11_whole_10 ?_
    refine zr_goto (pc := 11) (tgt := 15) hC dX11_whole_11 (by decide) ?_
    obtain rfl := Option.some.inj h
    exact zr_iret hC hR ⟨rfl, rfl⟩ (Nat.le_refl _) (Nat.le_refl _) dX11_whole_15
/-! X11_left -/
theorem hyX11_left : yX11_left.cls = RX11 ∧ yX11_left.cls ≠ "java/lang/invoke/MethodHandle" ∧ yX11_left.cls ≠ "java/lang/invoke/VarHandle" ∧ (parseMethodDescriptor yX11_left.desc).map (fun d => d.parameters.length) = some 1 := by decide +kernel
theorem flX11_left_59 : Cond.fieldLink RX11 59 "BeforeTheEnd" "tree" "LBeforeTheEnd$Tree;" ∈ wsX11_left := by decide +kernel
theorem hinX11_left_X11 : ∀ w ∈ wsX110, w ∈ wsX11_left := fun _ h => List.mem_cons_of_mem _ (List.mem_append_left _ (List.mem_append_right _ h))
theorem hinX11_left_X10 : ∀ w ∈ wsX100, w ∈ wsX11_left := fun _ h => List.mem_cons_of_mem _ (List.mem_append_right _ h)
def xX11_left (pT : zM) (pB : zM) (v1 : Int32) : Option (Int32 × zM) :=
  (xX10_has pT v1).bind fun q1 =>
  if q1 = 0 then
  ((xX11_refuse pB (-1 : Int32)).bind fun q4 =>
  some (q4.1, q4.2))
  else
  (xX10_behindOf pT v1).bind fun q3 =>
  some (q3, pB)
set_option maxHeartbeats 4000000 in
set_option maxRecDepth 100000 in
theorem tX11_left {κ : Nat → ClassId} {tg : Nat} {S : zEn} {ad : Nat → Nat} (hEk : zEk (zE tg S)) {pT : zM} {pR : zM} {pX : zM} {pF : zM} {pB : zM} {pP : zP} {v1 : Int32} {res : (Int32 × zM)} (h : xX11_left pT pB v1 = some res) (l : Launch) (D : va_G) : zCT (zE tg S) D vwCl (zty κ) l yX11_left wsX11_left ({ frames := 2, cells := 0, slots := 0, locals := 42 } : Room) 0 0 [.ref (ad 76), .int v1] (zwC κ ad pT pR pX pF pB pP) (zPd (some (.int res.1)) (zwC κ ad pT pR pX pF res.2 pP)) := by
  refine zCT.of (cc := cX11_left) (maxL := 2) (ret := (some .int)) (by decide) rfl (Nat.le_of_ble_eq_true rfl) ?_
  intro X hC hR
  unfold xX11_left at h
  refine zV.sub (lv' := [(0, .ref (ad 76)), (1, .int v1)]) [0, 1] rfl ?_
  refine zr_aload_n (pc := 0) hC 0 rfl rfl dX11_left_0 ?_
  refine zcg_76_0 (pc := 1) hC hinX11_left_X11 flX11_left_59 dX11_left_1 ?_
  refine zr_iload_n (pc := 4) hC 1 rfl rfl dX11_left_4 ?_
  obtain ⟨q1, hq1, h⟩ := zbd h
  refine zr_cVi (pc := 5) hC hEk [.int v1] [] 0 1 (fun l D => tX10_has hEk hq1 l D) gX11_left_X10_has rfl rfl rfl ⟨Nat.le_of_ble_eq_true rfl, Nat.le_of_ble_eq_true rfl⟩ hyX10_has (zNC (by decide)) entC_0 rfl rfl rfl (Nat.le_of_ble_eq_true rfl) ⟨Nat.le_of_ble_eq_true rfl, Nat.le_of_ble_eq_true rfl⟩ dX11_left_5 ?_
  refine zr_if_ne (pc := 8) (tgt := 17) hC dX11_left_8 (by decide) (fun c2 => ?_) (fun c2 => ?_)
  · replace h := zin h c2
    refine zr_aload_n (pc := 17) hC 0 rfl rfl dX11_left_17 ?_
    refine zcg_76_0 (pc := 18) hC hinX11_left_X11 flX11_left_59 dX11_left_18 ?_
    refine zr_iload_n (pc := 21) hC 1 rfl rfl dX11_left_21 ?_
    obtain ⟨q3, hq3, h⟩ := zbd h
    refine zr_cVi (pc := 22) hC hEk [.int v1] [] 0 1 (fun l D => tX10_behindOf hEk hq3 l D) gX11_left_X10_behindOf rfl rfl rfl ⟨Nat.le_of_ble_eq_true rfl, Nat.le_of_ble_eq_true rfl⟩ hyX10_behindOf (zNC (by decide)) entC_0 rfl rfl rfl (Nat.le_of_ble_eq_true rfl) ⟨Nat.le_of_ble_eq_true rfl, Nat.le_of_ble_eq_true rfl⟩ dX11_left_22 ?_
    obtain rfl := Option.some.inj h
    exact zr_iret hC hR ⟨rfl, rfl⟩ (Nat.le_refl _) (Nat.le_refl _) dX11_left_25
  · replace h := zip h c2
    refine zr_aload_n (pc := 11) hC 0 rfl rfl dX11_left_11 ?_
    refine zr_iconst (pc := 12) hC zki_m1 dX11_left_12 ?_
    obtain ⟨q4, hq4, h⟩ := zbd h
    refine zr_cVi (pc := 13) hC hEk [.int (-1 : Int32)] [] 76 1 (fun l D => tX11_refuse hEk hq4 l D) gX11_left_X11_refuse rfl rfl rfl ⟨Nat.le_of_ble_eq_true rfl, Nat.le_of_ble_eq_true rfl⟩ hyX11_refuse (zNC (by decide)) entC_76 rfl rfl rfl (Nat.le_of_ble_eq_true rfl) ⟨Nat.le_of_ble_eq_true rfl, Nat.le_of_ble_eq_true rfl⟩ dX11_left_13 ?_
    obtain rfl := Option.some.inj h
    exact zr_iret hC hR ⟨rfl, rfl⟩ (Nat.le_refl _) (Nat.le_refl _) dX11_left_16
/-! X11_refuseLong -/
theorem hyX11_refuseLong : yX11_refuseLong.cls = RX11 ∧ yX11_refuseLong.cls ≠ "java/lang/invoke/MethodHandle" ∧ yX11_refuseLong.cls ≠ "java/lang/invoke/VarHandle" ∧ (parseMethodDescriptor yX11_refuseLong.desc).map (fun d => d.parameters.length) = some 1 := by decide +kernel
theorem flX11_refuseLong_277 : Jvm.Cond.constantLong RX11 277 (4000000000000000000) ∈ wsX11_refuseLong := by decide +kernel
theorem hinX11_refuseLong_X11 : ∀ w ∈ wsX110, w ∈ wsX11_refuseLong := fun _ h => List.mem_cons_of_mem _ (List.mem_append_right _ h)
def xX11_refuseLong (pB : zM) (v1 : Int32) : Option (Int64 × zM) :=
  (xX11_refuse pB v1).bind fun q1 =>
  some (((4000000000000000000 : Int64) - q1.1.toInt64), q1.2)
set_option maxHeartbeats 4000000 in
set_option maxRecDepth 100000 in
theorem tX11_refuseLong {κ : Nat → ClassId} {tg : Nat} {S : zEn} {ad : Nat → Nat} (hEk : zEk (zE tg S)) {pT : zM} {pR : zM} {pX : zM} {pF : zM} {pB : zM} {pP : zP} {v1 : Int32} {res : (Int64 × zM)} (h : xX11_refuseLong pB v1 = some res) (l : Launch) (D : va_G) : zCT (zE tg S) D vwCl (zty κ) l yX11_refuseLong wsX11_refuseLong ({ frames := 1, cells := 0, slots := 0, locals := 22 } : Room) 0 0 [.ref (ad 76), .int v1] (zwC κ ad pT pR pX pF pB pP) (zPd (some (.long res.1)) (zwC κ ad pT pR pX pF res.2 pP)) := by
  refine zCT.of (cc := cX11_refuseLong) (maxL := 2) (ret := (some .long)) (by decide) rfl (Nat.le_of_ble_eq_true rfl) ?_
  intro X hC hR
  unfold xX11_refuseLong at h
  refine zV.sub (lv' := [(0, .ref (ad 76)), (1, .int v1)]) [0, 1] rfl ?_
  refine zr_ldc2 (pc := 0) hC flX11_refuseLong_277 dX11_refuseLong_0 ?_
  refine zr_aload_n (pc := 3) hC 0 rfl rfl dX11_refuseLong_3 ?_
  refine zr_iload_n (pc := 4) hC 1 rfl rfl dX11_refuseLong_4 ?_
  obtain ⟨q1, hq1, h⟩ := zbd h
  refine zr_cVi (pc := 5) hC hEk [.int v1] [.long (4000000000000000000 : Int64)] 76 1 (fun l D => tX11_refuse hEk hq1 l D) gX11_refuseLong_X11_refuse rfl rfl rfl ⟨Nat.le_of_ble_eq_true rfl, Nat.le_of_ble_eq_true rfl⟩ hyX11_refuse (zNC (by decide)) entC_76 rfl rfl rfl (Nat.le_of_ble_eq_true rfl) ⟨Nat.le_of_ble_eq_true rfl, Nat.le_of_ble_eq_true rfl⟩ dX11_refuseLong_5 ?_
  refine zr_i2l (pc := 8) hC dX11_refuseLong_8 ?_
  refine zr_lsub (pc := 9) hC dX11_refuseLong_9 ?_
  obtain rfl := Option.some.inj h
  exact zr_lret hC hR ⟨rfl, rfl⟩ (Nat.le_refl _) (Nat.le_refl _) dX11_refuseLong_10
/-! X11_isNoPart -/
theorem hyX11_isNoPart : yX11_isNoPart.cls ≠ "java/lang/invoke/MethodHandle" ∧ yX11_isNoPart.cls ≠ "java/lang/invoke/VarHandle" ∧ (parseMethodDescriptor yX11_isNoPart.desc).map (fun d => d.parameters.length) = some 1 := by decide +kernel
def xX11_isNoPart  (v0 : Int32) : Option Int32 :=
  if v0 = 0 then
  (some (0 : Int32))
  else
  if v0 = (1 : Int32) then
  (some (0 : Int32))
  else
  some (1 : Int32)
set_option maxHeartbeats 4000000 in
set_option maxRecDepth 100000 in
theorem tX11_isNoPart {κ : Nat → ClassId} {E : zEn} {ws : va_W} (hEk : zEk E)  {v0 : Int32} {res : Int32} (h : xX11_isNoPart  v0 = some res) (l : Launch) (D : va_G) : zCT E D vwCl (zty κ) l yX11_isNoPart wsX11_isNoPart ({ frames := 0, cells := 0, slots := 0, locals := 0 } : Room) 0 0 [.int v0] ws (zPd (some (.int res)) ws) := by
  refine zCT.of (cc := cX11_isNoPart) (maxL := 1) (ret := (some .boolean)) (by decide) rfl (Nat.le_of_ble_eq_true rfl) ?_
  intro X hC hR
  unfold xX11_isNoPart at h
  refine zV.sub (lv' := [(0, .int v0)]) [0] rfl ?_
  refine zr_iload_n (pc := 0) hC 0 rfl rfl dX11_isNoPart_0 ?_
  refine zr_if_eq (pc := 1) (tgt := 13) hC dX11_isNoPart_1 (by decide) (fun c1 => ?_) (fun c1 => ?_)
  · replace h := zip h c1
    refine zr_iconst (pc := 13) hC zki_0 dX11_isNoPart_13 ?_
    obtain rfl := Option.some.inj h
    exact zr_zret hC hR (by decide) ⟨rfl, rfl⟩ (Nat.le_refl _) (Nat.le_refl _) dX11_isNoPart_14
  · replace h := zin h c1
    refine zr_iload_n (pc := 4) hC 0 rfl rfl dX11_isNoPart_4 ?_
    refine zr_iconst (pc := 5) hC zki_1 dX11_isNoPart_5 ?_
    refine zr_icmp_eq (pc := 6) (tgt := 13) hC dX11_isNoPart_6 (by decide) (fun c2 => ?_) (fun c2 => ?_)
    · replace h := zip h c2
      refine zr_iconst (pc := 13) hC zki_0 dX11_isNoPart_13 ?_
      obtain rfl := Option.some.inj h
      exact zr_zret hC hR (by decide) ⟨rfl, rfl⟩ (Nat.le_refl _) (Nat.le_refl _) dX11_isNoPart_14
    · replace h := zin h c2
      refine zr_iconst (pc := 9) hC zki_1 dX11_isNoPart_9 ?_
      refine zr_goto (pc := 10) (tgt := 14) hC dX11_isNoPart_10 (by decide) ?_
      obtain rfl := Option.some.inj h
      exact zr_zret hC hR (by decide) ⟨rfl, rfl⟩ (Nat.le_refl _) (Nat.le_refl _) dX11_isNoPart_14
/-! X11_leastTerms -/
theorem hyX11_leastTerms : yX11_leastTerms.cls ≠ "java/lang/invoke/MethodHandle" ∧ yX11_leastTerms.cls ≠ "java/lang/invoke/VarHandle" ∧ (parseMethodDescriptor yX11_leastTerms.desc).map (fun d => d.parameters.length) = some 3 := by decide +kernel
def xX11_leastTerms  (v0 : Int64) (v2 : Int64) (v4 : Int32) : Option Int64 :=
  if v4 = 0 then
  ((xX11_commonDivisor v0 v2).bind fun q4 =>
  (xX11_parted v0 q4).bind fun q5 =>
  some q5)
  else
  (xX11_commonDivisor v0 v2).bind fun q2 =>
  (xX11_parted v2 q2).bind fun q3 =>
  some q3
set_option maxHeartbeats 4000000 in
set_option maxRecDepth 100000 in
theorem tX11_leastTerms {κ : Nat → ClassId} {E : zEn} {ws : va_W} (hEk : zEk E)  {v0 : Int64} {v2 : Int64} {v4 : Int32} {res : Int64} (h : xX11_leastTerms  v0 v2 v4 = some res) (l : Launch) (D : va_G) : zCT E D vwCl (zty κ) l yX11_leastTerms wsX11_leastTerms ({ frames := 2, cells := 0, slots := 0, locals := 51 } : Room) 0 0 [.long v0, .long v2, .int v4] ws (zPd (some (.long res)) ws) := by
  refine zCT.of (cc := cX11_leastTerms) (maxL := 5) (ret := (some .long)) (by decide) rfl (Nat.le_of_ble_eq_true rfl) ?_
  intro X hC hR
  unfold xX11_leastTerms at h
  refine zV.sub (lv' := [(0, .long v0), (2, .long v2), (4, .int v4)]) [0, 1, 2] rfl ?_
  refine zr_iload (pc := 0) hC 2 rfl dX11_leastTerms_0 ?_
  refine zr_if_ne (pc := 2) (tgt := 9) hC dX11_leastTerms_2 (by decide) (fun c1 => ?_) (fun c1 => ?_)
  · replace h := zin h c1
    refine zr_lload_n (pc := 9) hC 1 rfl rfl dX11_leastTerms_9 ?_
    refine zr_lload_n (pc := 10) hC 0 rfl rfl dX11_leastTerms_10 ?_
    refine zr_lload_n (pc := 11) hC 1 rfl rfl dX11_leastTerms_11 ?_
    obtain ⟨q2, hq2, h⟩ := zbd h
    refine zr_cSl (pc := 12) hC hEk [.long v0, .long v2] [.long v2] 2 (fun l D => tX11_commonDivisor hEk hq2 l D) gX11_leastTerms_X11_commonDivisor rfl rfl rfl ⟨Nat.le_of_ble_eq_true rfl, Nat.le_of_ble_eq_true rfl⟩ hyX11_commonDivisor rfl rfl (Nat.le_of_ble_eq_true rfl) ⟨Nat.le_of_ble_eq_true rfl, Nat.le_of_ble_eq_true rfl⟩ dX11_leastTerms_12 ?_
    obtain ⟨q3, hq3, h⟩ := zbd h
    refine zr_cSl (pc := 15) hC hEk [.long v2, .long q2] [] 2 (fun l D => tX11_parted hEk hq3 l D) gX11_leastTerms_X11_parted rfl rfl rfl ⟨Nat.le_of_ble_eq_true rfl, Nat.le_of_ble_eq_true rfl⟩ hyX11_parted rfl rfl (Nat.le_of_ble_eq_true rfl) ⟨Nat.le_of_ble_eq_true rfl, Nat.le_of_ble_eq_true rfl⟩ dX11_leastTerms_15 ?_
    obtain rfl := Option.some.inj h
    exact zr_lret hC hR ⟨rfl, rfl⟩ (Nat.le_refl _) (Nat.le_refl _) dX11_leastTerms_18
  · replace h := zip h c1
    refine zr_lload_n (pc := 5) hC 0 rfl rfl dX11_leastTerms_5 ?_
    refine zr_goto (pc := 6) (tgt := 10) hC dX11_leastTerms_6 (by decide) ?_
    refine zr_lload_n (pc := 10) hC 0 rfl rfl dX11_leastTerms_10 ?_
    refine zr_lload_n (pc := 11) hC 1 rfl rfl dX11_leastTerms_11 ?_
    obtain ⟨q4, hq4, h⟩ := zbd h
    refine zr_cSl (pc := 12) hC hEk [.long v0, .long v2] [.long v0] 2 (fun l D => tX11_commonDivisor hEk hq4 l D) gX11_leastTerms_X11_commonDivisor rfl rfl rfl ⟨Nat.le_of_ble_eq_true rfl, Nat.le_of_ble_eq_true rfl⟩ hyX11_commonDivisor rfl rfl (Nat.le_of_ble_eq_true rfl) ⟨Nat.le_of_ble_eq_true rfl, Nat.le_of_ble_eq_true rfl⟩ dX11_leastTerms_12 ?_
    obtain ⟨q5, hq5, h⟩ := zbd h
    refine zr_cSl (pc := 15) hC hEk [.long v0, .long q4] [] 2 (fun l D => tX11_parted hEk hq5 l D) gX11_leastTerms_X11_parted rfl rfl rfl ⟨Nat.le_of_ble_eq_true rfl, Nat.le_of_ble_eq_true rfl⟩ hyX11_parted rfl rfl (Nat.le_of_ble_eq_true rfl) ⟨Nat.le_of_ble_eq_true rfl, Nat.le_of_ble_eq_true rfl⟩ dX11_leastTerms_15 ?_
    obtain rfl := Option.some.inj h
    exact zr_lret hC hR ⟨rfl, rfl⟩ (Nat.le_refl _) (Nat.le_refl _) dX11_leastTerms_18
/-! X11_chance -/
theorem hyX11_chance : yX11_chance.cls = RX11 ∧ yX11_chance.cls ≠ "java/lang/invoke/MethodHandle" ∧ yX11_chance.cls ≠ "java/lang/invoke/VarHandle" ∧ (parseMethodDescriptor yX11_chance.desc).map (fun d => d.parameters.length) = some 3 := by decide +kernel
theorem flX11_chance_59 : Cond.fieldLink RX11 59 "BeforeTheEnd" "tree" "LBeforeTheEnd$Tree;" ∈ wsX11_chance := by decide +kernel
theorem hinX11_chance_X11 : ∀ w ∈ wsX110, w ∈ wsX11_chance := fun _ h => List.mem_cons_of_mem _ (List.mem_append_left _ (List.mem_append_right _ h))
theorem hinX11_chance_X10 : ∀ w ∈ wsX100, w ∈ wsX11_chance := fun _ h => List.mem_cons_of_mem _ (List.mem_append_right _ h)
def xX11_chance (pT : zM) (pB : zM) (v1 : Int32) (v2 : Int32) (v3 : Int32) : Option (Int64 × zM) :=
  (xX10_has pT v1).bind fun q1 =>
  if q1 = 0 then
  ((xX11_refuseLong pB (-1 : Int32)).bind fun q3 =>
  some (q3.1, q3.2))
  else
  if v2 < (1 : Int32) then
  ((xX11_refuseLong pB (-1 : Int32)).bind fun q5 =>
  some (q5.1, q5.2))
  else
  if v2 < (10 : Int32) then
  ((xX11_isNoPart v3).bind fun q7 =>
  if q7 = 0 then
  ((xX10_isWhole pT).bind fun q9 =>
  if q9 = 0 then
  ((xX11_refuseLong pB (-3 : Int32)).bind fun q14 =>
  some (q14.1, q14.2))
  else
  (xX10_shareOf pT v1 v2).bind fun q11 =>
  (xX10_belowOf pT v1).bind fun q12 =>
  (xX11_leastTerms q11 q12 v3).bind fun q13 =>
  some (q13, pB))
  else
  (xX11_refuseLong pB (-2 : Int32)).bind fun q15 =>
  some (q15.1, q15.2))
  else
  (xX11_refuseLong pB (-1 : Int32)).bind fun q16 =>
  some (q16.1, q16.2)
set_option maxHeartbeats 4000000 in
set_option maxRecDepth 100000 in
theorem tX11_chance {κ : Nat → ClassId} {tg : Nat} {S : zEn} {ad : Nat → Nat} (hEk : zEk (zE tg S)) {pT : zM} {pR : zM} {pX : zM} {pF : zM} {pB : zM} {pP : zP} {v1 : Int32} {v2 : Int32} {v3 : Int32} {res : (Int64 × zM)} (h : xX11_chance pT pB v1 v2 v3 = some res) (l : Launch) (D : va_G) : zCT (zE tg S) D vwCl (zty κ) l yX11_chance wsX11_chance ({ frames := 3, cells := 0, slots := 0, locals := 75 } : Room) 0 0 [.ref (ad 76), .int v1, .int v2, .int v3] (zwC κ ad pT pR pX pF pB pP) (zPd (some (.long res.1)) (zwC κ ad pT pR pX pF res.2 pP)) := by
  refine zCT.of (cc := cX11_chance) (maxL := 4) (ret := (some .long)) (by decide) rfl (Nat.le_of_ble_eq_true rfl) ?_
  intro X hC hR
  unfold xX11_chance at h
  refine zV.sub (lv' := [(0, .ref (ad 76)), (1, .int v1), (2, .int v2), (3, .int v3)]) [0, 1, 2, 3] rfl ?_
  refine zr_aload_n (pc := 0) hC 0 rfl rfl dX11_chance_0 ?_
  refine zcg_76_0 (pc := 1) hC hinX11_chance_X11 flX11_chance_59 dX11_chance_1 ?_
  refine zr_iload_n (pc := 4) hC 1 rfl rfl dX11_chance_4 ?_
  obtain ⟨q1, hq1, h⟩ := zbd h
  refine zr_cVi (pc := 5) hC hEk [.int v1] [] 0 1 (fun l D => tX10_has hEk hq1 l D) gX11_chance_X10_has rfl rfl rfl ⟨Nat.le_of_ble_eq_true rfl, Nat.le_of_ble_eq_true rfl⟩ hyX10_has (zNC (by decide)) entC_0 rfl rfl rfl (Nat.le_of_ble_eq_true rfl) ⟨Nat.le_of_ble_eq_true rfl, Nat.le_of_ble_eq_true rfl⟩ dX11_chance_5 ?_
  refine zr_if_eq (pc := 8) (tgt := 22) hC dX11_chance_8 (by decide) (fun c2 => ?_) (fun c2 => ?_)
  · replace h := zip h c2
    refine zr_aload_n (pc := 22) hC 0 rfl rfl dX11_chance_22 ?_
    refine zr_iconst (pc := 23) hC zki_m1 dX11_chance_23 ?_
    obtain ⟨q3, hq3, h⟩ := zbd h
    refine zr_cVl (pc := 24) hC hEk [.int (-1 : Int32)] [] 76 1 (fun l D => tX11_refuseLong hEk hq3 l D) gX11_chance_X11_refuseLong rfl rfl rfl ⟨Nat.le_of_ble_eq_true rfl, Nat.le_of_ble_eq_true rfl⟩ hyX11_refuseLong (zNC (by decide)) entC_76 rfl rfl rfl (Nat.le_of_ble_eq_true rfl) ⟨Nat.le_of_ble_eq_true rfl, Nat.le_of_ble_eq_true rfl⟩ dX11_chance_24 ?_
    obtain rfl := Option.some.inj h
    exact zr_lret hC hR ⟨rfl, rfl⟩ (Nat.le_refl _) (Nat.le_refl _) dX11_chance_27
  · replace h := zin h c2
    refine zr_iload_n (pc := 11) hC 2 rfl rfl dX11_chance_11 ?_
    refine zr_iconst (pc := 12) hC zki_1 dX11_chance_12 ?_
    refine zr_icmp_lt (pc := 13) (tgt := 22) hC dX11_chance_13 (by decide) (fun c4 => ?_) (fun c4 => ?_)
    · replace h := zip h c4
      refine zr_aload_n (pc := 22) hC 0 rfl rfl dX11_chance_22 ?_
      refine zr_iconst (pc := 23) hC zki_m1 dX11_chance_23 ?_
      obtain ⟨q5, hq5, h⟩ := zbd h
      refine zr_cVl (pc := 24) hC hEk [.int (-1 : Int32)] [] 76 1 (fun l D => tX11_refuseLong hEk hq5 l D) gX11_chance_X11_refuseLong rfl rfl rfl ⟨Nat.le_of_ble_eq_true rfl, Nat.le_of_ble_eq_true rfl⟩ hyX11_refuseLong (zNC (by decide)) entC_76 rfl rfl rfl (Nat.le_of_ble_eq_true rfl) ⟨Nat.le_of_ble_eq_true rfl, Nat.le_of_ble_eq_true rfl⟩ dX11_chance_24 ?_
      obtain rfl := Option.some.inj h
      exact zr_lret hC hR ⟨rfl, rfl⟩ (Nat.le_refl _) (Nat.le_refl _) dX11_chance_27
    · replace h := zin h c4
      refine zr_iload_n (pc := 16) hC 2 rfl rfl dX11_chance_16 ?_
      refine zr_bipush (pc := 17) hC zkb_10 dX11_chance_17 ?_
      refine zr_icmp_lt (pc := 19) (tgt := 28) hC dX11_chance_19 (by decide) (fun c6 => ?_) (fun c6 => ?_)
      · replace h := zip h c6
        refine zr_iload_n (pc := 28) hC 3 rfl rfl dX11_chance_28 ?_
        obtain ⟨q7, hq7, h⟩ := zbd h
        refine zr_cSi (pc := 29) hC hEk [.int v3] [] 1 (fun l D => tX11_isNoPart hEk hq7 l D) gX11_chance_X11_isNoPart rfl rfl rfl ⟨Nat.le_of_ble_eq_true rfl, Nat.le_of_ble_eq_true rfl⟩ hyX11_isNoPart rfl rfl (Nat.le_of_ble_eq_true rfl) ⟨Nat.le_of_ble_eq_true rfl, Nat.le_of_ble_eq_true rfl⟩ dX11_chance_29 ?_
        refine zr_if_eq (pc := 32) (tgt := 42) hC dX11_chance_32 (by decide) (fun c8 => ?_) (fun c8 => ?_)
        · replace h := zip h c8
          refine zr_aload_n (pc := 42) hC 0 rfl rfl dX11_chance_42 ?_
          refine zcg_76_0 (pc := 43) hC hinX11_chance_X11 flX11_chance_59 dX11_chance_43 ?_
          obtain ⟨q9, hq9, h⟩ := zbd h
          refine zr_cVi (pc := 46) hC hEk [] [] 0 0 (fun l D => tX10_isWhole hEk hq9 l D) gX11_chance_X10_isWhole rfl rfl rfl ⟨Nat.le_of_ble_eq_true rfl, Nat.le_of_ble_eq_true rfl⟩ hyX10_isWhole (zNC (by decide)) entC_0 rfl rfl rfl (Nat.le_of_ble_eq_true rfl) ⟨Nat.le_of_ble_eq_true rfl, Nat.le_of_ble_eq_true rfl⟩ dX11_chance_46 ?_
          refine zr_if_ne (pc := 49) (tgt := 59) hC dX11_chance_49 (by decide) (fun c10 => ?_) (fun c10 => ?_)
          · replace h := zin h c10
            refine zr_aload_n (pc := 59) hC 0 rfl rfl dX11_chance_59 ?_
            refine zcg_76_0 (pc := 60) hC hinX11_chance_X11 flX11_chance_59 dX11_chance_60 ?_
            refine zr_iload_n (pc := 63) hC 1 rfl rfl dX11_chance_63 ?_
            refine zr_iload_n (pc := 64) hC 2 rfl rfl dX11_chance_64 ?_
            obtain ⟨q11, hq11, h⟩ := zbd h
            refine zr_cVl (pc := 65) hC hEk [.int v1, .int v2] [] 0 2 (fun l D => tX10_shareOf hEk hq11 l D) gX11_chance_X10_shareOf rfl rfl rfl ⟨Nat.le_of_ble_eq_true rfl, Nat.le_of_ble_eq_true rfl⟩ hyX10_shareOf (zNC (by decide)) entC_0 rfl rfl rfl (Nat.le_of_ble_eq_true rfl) ⟨Nat.le_of_ble_eq_true rfl, Nat.le_of_ble_eq_true rfl⟩ dX11_chance_65 ?_
            refine zr_aload_n (pc := 68) hC 0 rfl rfl dX11_chance_68 ?_
            refine zcg_76_0 (pc := 69) hC hinX11_chance_X11 flX11_chance_59 dX11_chance_69 ?_
            refine zr_iload_n (pc := 72) hC 1 rfl rfl dX11_chance_72 ?_
            obtain ⟨q12, hq12, h⟩ := zbd h
            refine zr_cVl (pc := 73) hC hEk [.int v1] [.long q11] 0 1 (fun l D => tX10_belowOf hEk hq12 l D) gX11_chance_X10_belowOf rfl rfl rfl ⟨Nat.le_of_ble_eq_true rfl, Nat.le_of_ble_eq_true rfl⟩ hyX10_belowOf (zNC (by decide)) entC_0 rfl rfl rfl (Nat.le_of_ble_eq_true rfl) ⟨Nat.le_of_ble_eq_true rfl, Nat.le_of_ble_eq_true rfl⟩ dX11_chance_73 ?_
            refine zr_iload_n (pc := 76) hC 3 rfl rfl dX11_chance_76 ?_
            obtain ⟨q13, hq13, h⟩ := zbd h
            refine zr_cSl (pc := 77) hC hEk [.long q11, .long q12, .int v3] [] 3 (fun l D => tX11_leastTerms hEk hq13 l D) gX11_chance_X11_leastTerms rfl rfl rfl ⟨Nat.le_of_ble_eq_true rfl, Nat.le_of_ble_eq_true rfl⟩ hyX11_leastTerms rfl rfl (Nat.le_of_ble_eq_true rfl) ⟨Nat.le_of_ble_eq_true rfl, Nat.le_of_ble_eq_true rfl⟩ dX11_chance_77 ?_
            obtain rfl := Option.some.inj h
            exact zr_lret hC hR ⟨rfl, rfl⟩ (Nat.le_refl _) (Nat.le_refl _) dX11_chance_80
          · replace h := zip h c10
            refine zr_aload_n (pc := 52) hC 0 rfl rfl dX11_chance_52 ?_
            refine zr_bipush (pc := 53) hC zkb_m3 dX11_chance_53 ?_
            obtain ⟨q14, hq14, h⟩ := zbd h
            refine zr_cVl (pc := 55) hC hEk [.int (-3 : Int32)] [] 76 1 (fun l D => tX11_refuseLong hEk hq14 l D) gX11_chance_X11_refuseLong rfl rfl rfl ⟨Nat.le_of_ble_eq_true rfl, Nat.le_of_ble_eq_true rfl⟩ hyX11_refuseLong (zNC (by decide)) entC_76 rfl rfl rfl (Nat.le_of_ble_eq_true rfl) ⟨Nat.le_of_ble_eq_true rfl, Nat.le_of_ble_eq_true rfl⟩ dX11_chance_55 ?_
            obtain rfl := Option.some.inj h
            exact zr_lret hC hR ⟨rfl, rfl⟩ (Nat.le_refl _) (Nat.le_refl _) dX11_chance_58
        · replace h := zin h c8
          refine zr_aload_n (pc := 35) hC 0 rfl rfl dX11_chance_35 ?_
          refine zr_bipush (pc := 36) hC zkb_m2 dX11_chance_36 ?_
          obtain ⟨q15, hq15, h⟩ := zbd h
          refine zr_cVl (pc := 38) hC hEk [.int (-2 : Int32)] [] 76 1 (fun l D => tX11_refuseLong hEk hq15 l D) gX11_chance_X11_refuseLong rfl rfl rfl ⟨Nat.le_of_ble_eq_true rfl, Nat.le_of_ble_eq_true rfl⟩ hyX11_refuseLong (zNC (by decide)) entC_76 rfl rfl rfl (Nat.le_of_ble_eq_true rfl) ⟨Nat.le_of_ble_eq_true rfl, Nat.le_of_ble_eq_true rfl⟩ dX11_chance_38 ?_
          obtain rfl := Option.some.inj h
          exact zr_lret hC hR ⟨rfl, rfl⟩ (Nat.le_refl _) (Nat.le_refl _) dX11_chance_41
      · replace h := zin h c6
        refine zr_aload_n (pc := 22) hC 0 rfl rfl dX11_chance_22 ?_
        refine zr_iconst (pc := 23) hC zki_m1 dX11_chance_23 ?_
        obtain ⟨q16, hq16, h⟩ := zbd h
        refine zr_cVl (pc := 24) hC hEk [.int (-1 : Int32)] [] 76 1 (fun l D => tX11_refuseLong hEk hq16 l D) gX11_chance_X11_refuseLong rfl rfl rfl ⟨Nat.le_of_ble_eq_true rfl, Nat.le_of_ble_eq_true rfl⟩ hyX11_refuseLong (zNC (by decide)) entC_76 rfl rfl rfl (Nat.le_of_ble_eq_true rfl) ⟨Nat.le_of_ble_eq_true rfl, Nat.le_of_ble_eq_true rfl⟩ dX11_chance_24 ?_
        obtain rfl := Option.some.inj h
        exact zr_lret hC hR ⟨rfl, rfl⟩ (Nat.le_refl _) (Nat.le_refl _) dX11_chance_27
/-! X11_guess -/
theorem hyX11_guess : yX11_guess.cls = RX11 ∧ yX11_guess.cls ≠ "java/lang/invoke/MethodHandle" ∧ yX11_guess.cls ≠ "java/lang/invoke/VarHandle" ∧ (parseMethodDescriptor yX11_guess.desc).map (fun d => d.parameters.length) = some 2 := by decide +kernel
theorem flX11_guess_130 : Cond.fieldLink RX11 130 "BeforeTheEnd$Player" "knows" "I" ∈ wsX11_guess := by decide +kernel
theorem flX11_guess_59 : Cond.fieldLink RX11 59 "BeforeTheEnd" "tree" "LBeforeTheEnd$Tree;" ∈ wsX11_guess := by decide +kernel
theorem flX11_guess_68 : Cond.fieldLink RX11 68 "BeforeTheEnd" "race" "LBeforeTheEnd$Race;" ∈ wsX11_guess := by decide +kernel
theorem hinX11_guess_X11 : ∀ w ∈ wsX110, w ∈ wsX11_guess := fun _ h => List.mem_cons_of_mem _ (List.mem_append_left _ (List.mem_append_left _ (List.mem_append_left _ (List.mem_append_left _ (List.mem_append_left _ (List.mem_append_left _ (List.mem_append_left _ (List.mem_append_left _ (List.mem_append_right _ h)))))))))
theorem hinX11_guess_X0 : ∀ w ∈ wsX00, w ∈ wsX11_guess := fun _ h => List.mem_cons_of_mem _ (List.mem_append_left _ (List.mem_append_left _ (List.mem_append_left _ (List.mem_append_left _ (List.mem_append_left _ (List.mem_append_left _ (List.mem_append_left _ (List.mem_append_right _ h))))))))
theorem hinX11_guess_X1 : ∀ w ∈ wsX10, w ∈ wsX11_guess := fun _ h => List.mem_cons_of_mem _ (List.mem_append_left _ (List.mem_append_left _ (List.mem_append_left _ (List.mem_append_left _ (List.mem_append_left _ (List.mem_append_left _ (List.mem_append_right _ h)))))))
theorem hinX11_guess_X2 : ∀ w ∈ wsX20, w ∈ wsX11_guess := fun _ h => List.mem_cons_of_mem _ (List.mem_append_left _ (List.mem_append_left _ (List.mem_append_left _ (List.mem_append_left _ (List.mem_append_left _ (List.mem_append_right _ h))))))
theorem hinX11_guess_X4 : ∀ w ∈ wsX40, w ∈ wsX11_guess := fun _ h => List.mem_cons_of_mem _ (List.mem_append_left _ (List.mem_append_left _ (List.mem_append_left _ (List.mem_append_left _ (List.mem_append_right _ h)))))
theorem hinX11_guess_X7 : ∀ w ∈ wsX70, w ∈ wsX11_guess := fun _ h => List.mem_cons_of_mem _ (List.mem_append_left _ (List.mem_append_left _ (List.mem_append_left _ (List.mem_append_right _ h))))
theorem hinX11_guess_X9 : ∀ w ∈ wsX90, w ∈ wsX11_guess := fun _ h => List.mem_cons_of_mem _ (List.mem_append_left _ (List.mem_append_left _ (List.mem_append_right _ h)))
theorem hinX11_guess_X6 : ∀ w ∈ wsX60, w ∈ wsX11_guess := fun _ h => List.mem_cons_of_mem _ (List.mem_append_left _ (List.mem_append_right _ h))
theorem hinX11_guess_X10 : ∀ w ∈ wsX100, w ∈ wsX11_guess := fun _ h => List.mem_cons_of_mem _ (List.mem_append_right _ h)
def xX11_guess (pT : zM) (pR : zM) (pB : zM) (pP : zP) (v1 : Int32) (v2 : Int32) : Option (Int32 × zM) :=
  (xX6_playerAt pR pP v1).bind fun q1 =>
  zon q1
  ((xX11_refuse pB (-1 : Int32)).bind fun q5 =>
  some (q5.1, q5.2))
  (fun a2 => if pP.2.2.2 ≤ a2 then none else
  (xX10_has pT v2).bind fun q6 =>
  if q6 = 0 then
  ((xX11_refuse pB (-1 : Int32)).bind fun q12 =>
  some (q12.1, q12.2))
  else
  (xX10_isWhole pT).bind fun q8 =>
  if q8 = 0 then
  ((xX11_refuse pB (-3 : Int32)).bind fun q11 =>
  some (q11.1, q11.2))
  else
  (xX10_guessAt pT v2 (pP.2.2.1 a2 2)).bind fun q10 =>
  some (q10, pB))
set_option maxHeartbeats 4000000 in
set_option maxRecDepth 100000 in
theorem tX11_guess {κ : Nat → ClassId} {tg : Nat} {S : zEn} {ad : Nat → Nat} (hEk : zEk (zE tg S)) {pT : zM} {pR : zM} {pX : zM} {pF : zM} {pB : zM} {pP : zP} {v1 : Int32} {v2 : Int32} {res : (Int32 × zM)} (h : xX11_guess pT pR pB pP v1 v2 = some res) (l : Launch) (D : va_G) : zCT (zE tg S) D vwCl (zty κ) l yX11_guess wsX11_guess ({ frames := 2, cells := 0, slots := 0, locals := 47 } : Room) 0 0 [.ref (ad 76), .int v1, .int v2] (zwC κ ad pT pR pX pF pB pP) (zPd (some (.int res.1)) (zwC κ ad pT pR pX pF res.2 pP)) := by
  refine zCT.of (cc := cX11_guess) (maxL := 4) (ret := (some .int)) (by decide) rfl (Nat.le_of_ble_eq_true rfl) ?_
  intro X hC hR
  unfold xX11_guess at h
  refine zV.sub (lv' := [(0, .ref (ad 76)), (1, .int v1), (2, .int v2)]) [0, 1, 2] rfl ?_
  refine zr_aload_n (pc := 0) hC 0 rfl rfl dX11_guess_0 ?_
  refine zcg_76_1 (pc := 1) hC hinX11_guess_X11 flX11_guess_68 dX11_guess_1 ?_
  refine zr_iload_n (pc := 4) hC 1 rfl rfl dX11_guess_4 ?_
  obtain ⟨q1, hq1, h⟩ := zbd h
  refine zr_cVr (pc := 5) hC hEk [.int v1] [] 62 1 (fun l D => tX6_playerAt hEk hq1 l D) gX11_guess_X6_playerAt rfl rfl rfl ⟨Nat.le_of_ble_eq_true rfl, Nat.le_of_ble_eq_true rfl⟩ hyX6_playerAt (zNC (by decide)) entC_62 rfl rfl rfl (Nat.le_of_ble_eq_true rfl) ⟨Nat.le_of_ble_eq_true rfl, Nat.le_of_ble_eq_true rfl⟩ dX11_guess_5 ?_
  refine zr_astore_nO (pc := 8) (lv' := [(3, va_rf (q1.map (fun a => ad (81 + a)))), (0, .ref (ad 76)), (1, .int v1), (2, .int v2)]) hC rfl (by decide) (by cases q1 <;> rfl) dX11_guess_8 ?_
  refine zr_aload_nO (pc := 9) hC 0 rfl rfl dX11_guess_9 ?_
  refine zr_ifnullM (pc := 10) (tgt := 24) hC dX11_guess_10 (by decide) (fun e3 => ?_) (fun a2 e3 => ?_)
  · replace h := zon_n e3 h
    have h9 := h
    subst e3
    replace h := h9
    clear h9
    show zV X 0 0 (zwC κ ad pT pR pX pF pB pP) [(3, va_rf ((none : Option Nat).map (fun a => ad (81 + a)))), (0, .ref (ad 76)), (1, .int v1), (2, .int v2)] [] 24
    refine zr_aload_n (pc := 24) hC 1 rfl rfl dX11_guess_24 ?_
    refine zr_iconst (pc := 25) hC zki_m1 dX11_guess_25 ?_
    obtain ⟨q5, hq5, h⟩ := zbd h
    refine zr_cVi (pc := 26) hC hEk [.int (-1 : Int32)] [] 76 1 (fun l D => tX11_refuse hEk hq5 l D) gX11_guess_X11_refuse rfl rfl rfl ⟨Nat.le_of_ble_eq_true rfl, Nat.le_of_ble_eq_true rfl⟩ hyX11_refuse (zNC (by decide)) entC_76 rfl rfl rfl (Nat.le_of_ble_eq_true rfl) ⟨Nat.le_of_ble_eq_true rfl, Nat.le_of_ble_eq_true rfl⟩ dX11_guess_26 ?_
    obtain rfl := Option.some.inj h
    exact zr_iret hC hR ⟨rfl, rfl⟩ (Nat.le_refl _) (Nat.le_refl _) dX11_guess_29
  · replace h := zon_s e3 h
    have h9 := h
    subst e3
    replace h := h9
    clear h9
    obtain ⟨i4, h⟩ := zgd h
    show zV X 0 0 (zwC κ ad pT pR pX pF pB pP) [(3, .ref (ad (81 + a2))), (0, .ref (ad 76)), (1, .int v1), (2, .int v2)] [] 13
    refine zr_aload_n (pc := 13) hC 1 rfl rfl dX11_guess_13 ?_
    refine zcg_76_0 (pc := 14) hC hinX11_guess_X11 flX11_guess_59 dX11_guess_14 ?_
    refine zr_iload_n (pc := 17) hC 3 rfl rfl dX11_guess_17 ?_
    obtain ⟨q6, hq6, h⟩ := zbd h
    refine zr_cVi (pc := 18) hC hEk [.int v2] [] 0 1 (fun l D => tX10_has hEk hq6 l D) gX11_guess_X10_has rfl rfl rfl ⟨Nat.le_of_ble_eq_true rfl, Nat.le_of_ble_eq_true rfl⟩ hyX10_has (zNC (by decide)) entC_0 rfl rfl rfl (Nat.le_of_ble_eq_true rfl) ⟨Nat.le_of_ble_eq_true rfl, Nat.le_of_ble_eq_true rfl⟩ dX11_guess_18 ?_
    refine zr_if_ne (pc := 21) (tgt := 30) hC dX11_guess_21 (by decide) (fun c7 => ?_) (fun c7 => ?_)
    · replace h := zin h c7
      refine zr_aload_n (pc := 30) hC 1 rfl rfl dX11_guess_30 ?_
      refine zcg_76_0 (pc := 31) hC hinX11_guess_X11 flX11_guess_59 dX11_guess_31 ?_
      obtain ⟨q8, hq8, h⟩ := zbd h
      refine zr_cVi (pc := 34) hC hEk [] [] 0 0 (fun l D => tX10_isWhole hEk hq8 l D) gX11_guess_X10_isWhole rfl rfl rfl ⟨Nat.le_of_ble_eq_true rfl, Nat.le_of_ble_eq_true rfl⟩ hyX10_isWhole (zNC (by decide)) entC_0 rfl rfl rfl (Nat.le_of_ble_eq_true rfl) ⟨Nat.le_of_ble_eq_true rfl, Nat.le_of_ble_eq_true rfl⟩ dX11_guess_34 ?_
      refine zr_if_ne (pc := 37) (tgt := 47) hC dX11_guess_37 (by decide) (fun c9 => ?_) (fun c9 => ?_)
      · replace h := zin h c9
        refine zr_aload_n (pc := 47) hC 1 rfl rfl dX11_guess_47 ?_
        refine zcg_76_0 (pc := 48) hC hinX11_guess_X11 flX11_guess_59 dX11_guess_48 ?_
        refine zr_iload_n (pc := 51) hC 3 rfl rfl dX11_guess_51 ?_
        refine zr_aload_n (pc := 52) hC 0 rfl rfl dX11_guess_52 ?_
        refine zpg_2 (pc := 53) hC hinX11_guess_X2 hinX11_guess_X7 hinX11_guess_X1 hinX11_guess_X4 hinX11_guess_X9 hinX11_guess_X0 flX11_guess_130 i4 dX11_guess_53 ?_
        obtain ⟨q10, hq10, h⟩ := zbd h
        refine zr_cVi (pc := 56) hC hEk [.int v2, .int (pP.2.2.1 a2 2)] [] 0 2 (fun l D => tX10_guessAt hEk hq10 l D) gX11_guess_X10_guessAt rfl rfl rfl ⟨Nat.le_of_ble_eq_true rfl, Nat.le_of_ble_eq_true rfl⟩ hyX10_guessAt (zNC (by decide)) entC_0 rfl rfl rfl (Nat.le_of_ble_eq_true rfl) ⟨Nat.le_of_ble_eq_true rfl, Nat.le_of_ble_eq_true rfl⟩ dX11_guess_56 ?_
        obtain rfl := Option.some.inj h
        exact zr_iret hC hR ⟨rfl, rfl⟩ (Nat.le_refl _) (Nat.le_refl _) dX11_guess_59
      · replace h := zip h c9
        refine zr_aload_n (pc := 40) hC 1 rfl rfl dX11_guess_40 ?_
        refine zr_bipush (pc := 41) hC zkb_m3 dX11_guess_41 ?_
        obtain ⟨q11, hq11, h⟩ := zbd h
        refine zr_cVi (pc := 43) hC hEk [.int (-3 : Int32)] [] 76 1 (fun l D => tX11_refuse hEk hq11 l D) gX11_guess_X11_refuse rfl rfl rfl ⟨Nat.le_of_ble_eq_true rfl, Nat.le_of_ble_eq_true rfl⟩ hyX11_refuse (zNC (by decide)) entC_76 rfl rfl rfl (Nat.le_of_ble_eq_true rfl) ⟨Nat.le_of_ble_eq_true rfl, Nat.le_of_ble_eq_true rfl⟩ dX11_guess_43 ?_
        obtain rfl := Option.some.inj h
        exact zr_iret hC hR ⟨rfl, rfl⟩ (Nat.le_refl _) (Nat.le_refl _) dX11_guess_46
    · replace h := zip h c7
      refine zr_aload_n (pc := 24) hC 1 rfl rfl dX11_guess_24 ?_
      refine zr_iconst (pc := 25) hC zki_m1 dX11_guess_25 ?_
      obtain ⟨q12, hq12, h⟩ := zbd h
      refine zr_cVi (pc := 26) hC hEk [.int (-1 : Int32)] [] 76 1 (fun l D => tX11_refuse hEk hq12 l D) gX11_guess_X11_refuse rfl rfl rfl ⟨Nat.le_of_ble_eq_true rfl, Nat.le_of_ble_eq_true rfl⟩ hyX11_refuse (zNC (by decide)) entC_76 rfl rfl rfl (Nat.le_of_ble_eq_true rfl) ⟨Nat.le_of_ble_eq_true rfl, Nat.le_of_ble_eq_true rfl⟩ dX11_guess_26 ?_
      obtain rfl := Option.some.inj h
      exact zr_iret hC hR ⟨rfl, rfl⟩ (Nat.le_refl _) (Nat.le_refl _) dX11_guess_29
/-! X11_points -/
theorem hyX11_points : yX11_points.cls = RX11 ∧ yX11_points.cls ≠ "java/lang/invoke/MethodHandle" ∧ yX11_points.cls ≠ "java/lang/invoke/VarHandle" ∧ (parseMethodDescriptor yX11_points.desc).map (fun d => d.parameters.length) = some 2 := by decide +kernel
theorem flX11_points_47 : Cond.fieldLink RX11 47 "BeforeTheEnd" "GREATEST_POINTS" "[I" ∈ wsX11_points := by decide +kernel
theorem flX11_points_68 : Cond.fieldLink RX11 68 "BeforeTheEnd" "race" "LBeforeTheEnd$Race;" ∈ wsX11_points := by decide +kernel
theorem hinX11_points_X11 : ∀ w ∈ wsX110, w ∈ wsX11_points := fun _ h => List.mem_cons_of_mem _ (List.mem_append_left _ (List.mem_append_right _ h))
theorem hinX11_points_X6 : ∀ w ∈ wsX60, w ∈ wsX11_points := fun _ h => List.mem_cons_of_mem _ (List.mem_append_right _ h)
def xX11_points (pR : zM) (pB : zM) (v1 : Int32) (v2 : Int32) : Option (Int32 × zM × zM) :=
  if v1 < 0 then
  ((xX11_refuse pB (-2 : Int32)).bind fun q2 =>
  some (q2.1, pR, q2.2))
  else
  if v1 < (4 : Int32) then
  (if 0 ≤ v2 then
  (if (v1 < 0 ∨ 4 ≤ v1.toNatClampNeg) then none else
  if v2 ≤ (zGP v1) then
  ((xX6_pointOf pR v1).bind fun q7 =>
  (xX6_setPoint pR v1 v2).bind fun q8 =>
  some (q7, q8, pB))
  else
  (xX11_refuse pB (-6 : Int32)).bind fun q9 =>
  some (q9.1, pR, q9.2))
  else
  (xX11_refuse pB (-4 : Int32)).bind fun q10 =>
  some (q10.1, pR, q10.2))
  else
  (xX11_refuse pB (-2 : Int32)).bind fun q11 =>
  some (q11.1, pR, q11.2)
set_option maxHeartbeats 4000000 in
set_option maxRecDepth 100000 in
theorem tX11_points {κ : Nat → ClassId} {tg : Nat} {S : zEn} {ad : Nat → Nat} (hEk : zEk (zE tg S)) {pT : zM} {pR : zM} {pX : zM} {pF : zM} {pB : zM} {pP : zP} {v1 : Int32} {v2 : Int32} {res : (Int32 × zM × zM)} (h : xX11_points pR pB v1 v2 = some res) (l : Launch) (D : va_G) : zCT (zE tg S) D vwCl (zty κ) l yX11_points wsX11_points ({ frames := 1, cells := 0, slots := 0, locals := 22 } : Room) 0 0 [.ref (ad 76), .int v1, .int v2] (zwC κ ad pT pR pX pF pB pP) (zPd (some (.int res.1)) (zwC κ ad pT res.2.1 pX pF res.2.2 pP)) := by
  refine zCT.of (cc := cX11_points) (maxL := 4) (ret := (some .int)) (by decide) rfl (Nat.le_of_ble_eq_true rfl) ?_
  intro X hC hR
  unfold xX11_points at h
  refine zV.sub (lv' := [(0, .ref (ad 76)), (1, .int v1), (2, .int v2)]) [0, 1, 2] rfl ?_
  refine zr_iload_n (pc := 0) hC 1 rfl rfl dX11_points_0 ?_
  refine zr_if_lt (pc := 1) (tgt := 12) hC dX11_points_1 (by decide) (fun c1 => ?_) (fun c1 => ?_)
  · replace h := zip h c1
    refine zr_aload_n (pc := 12) hC 0 rfl rfl dX11_points_12 ?_
    refine zr_bipush (pc := 13) hC zkb_m2 dX11_points_13 ?_
    obtain ⟨q2, hq2, h⟩ := zbd h
    refine zr_cVi (pc := 15) hC hEk [.int (-2 : Int32)] [] 76 1 (fun l D => tX11_refuse hEk hq2 l D) gX11_points_X11_refuse rfl rfl rfl ⟨Nat.le_of_ble_eq_true rfl, Nat.le_of_ble_eq_true rfl⟩ hyX11_refuse (zNC (by decide)) entC_76 rfl rfl rfl (Nat.le_of_ble_eq_true rfl) ⟨Nat.le_of_ble_eq_true rfl, Nat.le_of_ble_eq_true rfl⟩ dX11_points_15 ?_
    obtain rfl := Option.some.inj h
    exact zr_iret hC hR ⟨rfl, rfl⟩ (Nat.le_refl _) (Nat.le_refl _) dX11_points_18
  · replace h := zin h c1
    refine zr_iload_n (pc := 4) hC 1 rfl rfl dX11_points_4 ?_
    refine zsg_get (pc := 5) hC hEk flX11_points_47 dX11_points_5 ?_
    refine zsg_len (pc := 8) hC hEk dX11_points_8 ?_
    refine zr_icmp_lt (pc := 9) (tgt := 19) hC dX11_points_9 (by decide) (fun c3 => ?_) (fun c3 => ?_)
    · replace h := zip h c3
      refine zr_iload_n (pc := 19) hC 2 rfl rfl dX11_points_19 ?_
      refine zr_if_ge (pc := 20) (tgt := 30) hC dX11_points_20 (by decide) (fun c4 => ?_) (fun c4 => ?_)
      · replace h := zip h c4
        refine zr_iload_n (pc := 30) hC 2 rfl rfl dX11_points_30 ?_
        refine zsg_get (pc := 31) hC hEk flX11_points_47 dX11_points_31 ?_
        refine zr_iload_n (pc := 34) hC 1 rfl rfl dX11_points_34 ?_
        obtain ⟨i5, h⟩ := zgd h
        refine zsg_ld (pc := 35) hC hEk i5 dX11_points_35 ?_
        refine zr_icmp_le (pc := 36) (tgt := 46) hC dX11_points_36 (by decide) (fun c6 => ?_) (fun c6 => ?_)
        · replace h := zip h c6
          refine zr_aload_n (pc := 46) hC 0 rfl rfl dX11_points_46 ?_
          refine zcg_76_1 (pc := 47) hC hinX11_points_X11 flX11_points_68 dX11_points_47 ?_
          refine zr_iload_n (pc := 50) hC 1 rfl rfl dX11_points_50 ?_
          obtain ⟨q7, hq7, h⟩ := zbd h
          refine zr_cVi (pc := 51) hC hEk [.int v1] [] 62 1 (fun l D => tX6_pointOf hEk hq7 l D) gX11_points_X6_pointOf rfl rfl rfl ⟨Nat.le_of_ble_eq_true rfl, Nat.le_of_ble_eq_true rfl⟩ hyX6_pointOf (zNC (by decide)) entC_62 rfl rfl rfl (Nat.le_of_ble_eq_true rfl) ⟨Nat.le_of_ble_eq_true rfl, Nat.le_of_ble_eq_true rfl⟩ dX11_points_51 ?_
          refine zr_istore_n (pc := 54) (lv' := [(3, .int q7), (0, .ref (ad 76)), (1, .int v1), (2, .int v2)]) hC rfl (by decide) rfl dX11_points_54 ?_
          refine zr_aload_n (pc := 55) hC 1 rfl rfl dX11_points_55 ?_
          refine zcg_76_1 (pc := 56) hC hinX11_points_X11 flX11_points_68 dX11_points_56 ?_
          refine zr_iload_n (pc := 59) hC 2 rfl rfl dX11_points_59 ?_
          refine zr_iload_n (pc := 60) hC 3 rfl rfl dX11_points_60 ?_
          obtain ⟨q8, hq8, h⟩ := zbd h
          refine zr_cVv (pc := 61) hC hEk [.int v1, .int v2] [] 62 2 (fun l D => tX6_setPoint hEk hq8 l D) gX11_points_X6_setPoint rfl rfl rfl ⟨Nat.le_of_ble_eq_true rfl, Nat.le_of_ble_eq_true rfl⟩ hyX6_setPoint (zNC (by decide)) entC_62 rfl rfl rfl (Nat.le_of_ble_eq_true rfl) ⟨Nat.le_of_ble_eq_true rfl, Nat.le_of_ble_eq_true rfl⟩ dX11_points_61 ?_
          refine zr_iload_n (pc := 64) hC 0 rfl rfl dX11_points_64 ?_
          obtain rfl := Option.some.inj h
          exact zr_iret hC hR ⟨rfl, rfl⟩ (Nat.le_refl _) (Nat.le_refl _) dX11_points_65
        · replace h := zin h c6
          refine zr_aload_n (pc := 39) hC 0 rfl rfl dX11_points_39 ?_
          refine zr_bipush (pc := 40) hC zkb_m6 dX11_points_40 ?_
          obtain ⟨q9, hq9, h⟩ := zbd h
          refine zr_cVi (pc := 42) hC hEk [.int (-6 : Int32)] [] 76 1 (fun l D => tX11_refuse hEk hq9 l D) gX11_points_X11_refuse rfl rfl rfl ⟨Nat.le_of_ble_eq_true rfl, Nat.le_of_ble_eq_true rfl⟩ hyX11_refuse (zNC (by decide)) entC_76 rfl rfl rfl (Nat.le_of_ble_eq_true rfl) ⟨Nat.le_of_ble_eq_true rfl, Nat.le_of_ble_eq_true rfl⟩ dX11_points_42 ?_
          obtain rfl := Option.some.inj h
          exact zr_iret hC hR ⟨rfl, rfl⟩ (Nat.le_refl _) (Nat.le_refl _) dX11_points_45
      · replace h := zin h c4
        refine zr_aload_n (pc := 23) hC 0 rfl rfl dX11_points_23 ?_
        refine zr_bipush (pc := 24) hC zkb_m4 dX11_points_24 ?_
        obtain ⟨q10, hq10, h⟩ := zbd h
        refine zr_cVi (pc := 26) hC hEk [.int (-4 : Int32)] [] 76 1 (fun l D => tX11_refuse hEk hq10 l D) gX11_points_X11_refuse rfl rfl rfl ⟨Nat.le_of_ble_eq_true rfl, Nat.le_of_ble_eq_true rfl⟩ hyX11_refuse (zNC (by decide)) entC_76 rfl rfl rfl (Nat.le_of_ble_eq_true rfl) ⟨Nat.le_of_ble_eq_true rfl, Nat.le_of_ble_eq_true rfl⟩ dX11_points_26 ?_
        obtain rfl := Option.some.inj h
        exact zr_iret hC hR ⟨rfl, rfl⟩ (Nat.le_refl _) (Nat.le_refl _) dX11_points_29
    · replace h := zin h c3
      refine zr_aload_n (pc := 12) hC 0 rfl rfl dX11_points_12 ?_
      refine zr_bipush (pc := 13) hC zkb_m2 dX11_points_13 ?_
      obtain ⟨q11, hq11, h⟩ := zbd h
      refine zr_cVi (pc := 15) hC hEk [.int (-2 : Int32)] [] 76 1 (fun l D => tX11_refuse hEk hq11 l D) gX11_points_X11_refuse rfl rfl rfl ⟨Nat.le_of_ble_eq_true rfl, Nat.le_of_ble_eq_true rfl⟩ hyX11_refuse (zNC (by decide)) entC_76 rfl rfl rfl (Nat.le_of_ble_eq_true rfl) ⟨Nat.le_of_ble_eq_true rfl, Nat.le_of_ble_eq_true rfl⟩ dX11_points_15 ?_
      obtain rfl := Option.some.inj h
      exact zr_iret hC hR ⟨rfl, rfl⟩ (Nat.le_refl _) (Nat.le_refl _) dX11_points_18
/-! X5_tell_k0 -/
theorem hyX5_tell : yX5_tell.cls = RX5 ∧ yX5_tell.cls ≠ "java/lang/invoke/MethodHandle" ∧ yX5_tell.cls ≠ "java/lang/invoke/VarHandle" ∧ (parseMethodDescriptor yX5_tell.desc).map (fun d => d.parameters.length) = some 1 := by decide +kernel
def xX5_tell_k0 (pP : zP) (v0 : Nat) (v1 : Int32) : Option Unit :=
  some ()
set_option maxHeartbeats 4000000 in
set_option maxRecDepth 100000 in
theorem tX5_tell_k0 {κ : Nat → ClassId} {tg : Nat} {S : zEn} {ad : Nat → Nat} (hEk : zEk (zE tg S)) {pT : zM} {pR : zM} {pX : zM} {pF : zM} {pB : zM} {pP : zP} {v0 : Nat} {v1 : Int32} (hk : pP.2.1 v0 = 0) (hv0 : v0 < pP.2.2.2) {res : Unit} (h : xX5_tell_k0 pP v0 v1 = some res) (l : Launch) (D : va_G) : zCT (zE tg S) D vwCl (zty κ) l yX5_tell wsX5_tell ({ frames := 0, cells := 0, slots := 0, locals := 0 } : Room) 0 0 [.ref (ad (81 + v0)), .int v1] (zwC κ ad pT pR pX pF pB pP) (zPd none (zwC κ ad pT pR pX pF pB pP)) := by
  refine zCT.of (cc := cX5_tell) (maxL := 2) (ret := none) (by decide) rfl (Nat.le_of_ble_eq_true rfl) ?_
  intro X hC hR
  unfold xX5_tell_k0 at h
  refine zV.sub (lv' := [(0, .ref (ad (81 + v0))), (1, .int v1)]) [0, 1] rfl ?_
  obtain rfl := Option.some.inj h
  exact zr_vret hC hR ⟨rfl, rfl⟩ (Nat.le_refl _) (Nat.le_refl _) dX5_tell_0
/-! X5_tell_k1 -/
def xX5_tell_k1 (pP : zP) (v0 : Nat) (v1 : Int32) : Option Unit :=
  some ()
set_option maxHeartbeats 4000000 in
set_option maxRecDepth 100000 in
theorem tX5_tell_k1 {κ : Nat → ClassId} {tg : Nat} {S : zEn} {ad : Nat → Nat} (hEk : zEk (zE tg S)) {pT : zM} {pR : zM} {pX : zM} {pF : zM} {pB : zM} {pP : zP} {v0 : Nat} {v1 : Int32} (hk : pP.2.1 v0 = 1) (hv0 : v0 < pP.2.2.2) {res : Unit} (h : xX5_tell_k1 pP v0 v1 = some res) (l : Launch) (D : va_G) : zCT (zE tg S) D vwCl (zty κ) l yX5_tell wsX5_tell ({ frames := 0, cells := 0, slots := 0, locals := 0 } : Room) 0 0 [.ref (ad (81 + v0)), .int v1] (zwC κ ad pT pR pX pF pB pP) (zPd none (zwC κ ad pT pR pX pF pB pP)) := by
  refine zCT.of (cc := cX5_tell) (maxL := 2) (ret := none) (by decide) rfl (Nat.le_of_ble_eq_true rfl) ?_
  intro X hC hR
  unfold xX5_tell_k1 at h
  refine zV.sub (lv' := [(0, .ref (ad (81 + v0))), (1, .int v1)]) [0, 1] rfl ?_
  obtain rfl := Option.some.inj h
  exact zr_vret hC hR ⟨rfl, rfl⟩ (Nat.le_refl _) (Nat.le_refl _) dX5_tell_0
/-! X5_tell_k2 -/
def xX5_tell_k2 (pP : zP) (v0 : Nat) (v1 : Int32) : Option Unit :=
  some ()
set_option maxHeartbeats 4000000 in
set_option maxRecDepth 100000 in
theorem tX5_tell_k2 {κ : Nat → ClassId} {tg : Nat} {S : zEn} {ad : Nat → Nat} (hEk : zEk (zE tg S)) {pT : zM} {pR : zM} {pX : zM} {pF : zM} {pB : zM} {pP : zP} {v0 : Nat} {v1 : Int32} (hk : pP.2.1 v0 = 2) (hv0 : v0 < pP.2.2.2) {res : Unit} (h : xX5_tell_k2 pP v0 v1 = some res) (l : Launch) (D : va_G) : zCT (zE tg S) D vwCl (zty κ) l yX5_tell wsX5_tell ({ frames := 0, cells := 0, slots := 0, locals := 0 } : Room) 0 0 [.ref (ad (81 + v0)), .int v1] (zwC κ ad pT pR pX pF pB pP) (zPd none (zwC κ ad pT pR pX pF pB pP)) := by
  refine zCT.of (cc := cX5_tell) (maxL := 2) (ret := none) (by decide) rfl (Nat.le_of_ble_eq_true rfl) ?_
  intro X hC hR
  unfold xX5_tell_k2 at h
  refine zV.sub (lv' := [(0, .ref (ad (81 + v0))), (1, .int v1)]) [0, 1] rfl ?_
  obtain rfl := Option.some.inj h
  exact zr_vret hC hR ⟨rfl, rfl⟩ (Nat.le_refl _) (Nat.le_refl _) dX5_tell_0
/-! X5_tell_k3 -/
def xX5_tell_k3 (pP : zP) (v0 : Nat) (v1 : Int32) : Option Unit :=
  some ()
set_option maxHeartbeats 4000000 in
set_option maxRecDepth 100000 in
theorem tX5_tell_k3 {κ : Nat → ClassId} {tg : Nat} {S : zEn} {ad : Nat → Nat} (hEk : zEk (zE tg S)) {pT : zM} {pR : zM} {pX : zM} {pF : zM} {pB : zM} {pP : zP} {v0 : Nat} {v1 : Int32} (hk : pP.2.1 v0 = 3) (hv0 : v0 < pP.2.2.2) {res : Unit} (h : xX5_tell_k3 pP v0 v1 = some res) (l : Launch) (D : va_G) : zCT (zE tg S) D vwCl (zty κ) l yX5_tell wsX5_tell ({ frames := 0, cells := 0, slots := 0, locals := 0 } : Room) 0 0 [.ref (ad (81 + v0)), .int v1] (zwC κ ad pT pR pX pF pB pP) (zPd none (zwC κ ad pT pR pX pF pB pP)) := by
  refine zCT.of (cc := cX5_tell) (maxL := 2) (ret := none) (by decide) rfl (Nat.le_of_ble_eq_true rfl) ?_
  intro X hC hR
  unfold xX5_tell_k3 at h
  refine zV.sub (lv' := [(0, .ref (ad (81 + v0))), (1, .int v1)]) [0, 1] rfl ?_
  obtain rfl := Option.some.inj h
  exact zr_vret hC hR ⟨rfl, rfl⟩ (Nat.le_refl _) (Nat.le_refl _) dX5_tell_0
/-! X9_tell_k4 -/
theorem hyX9_tell : yX9_tell.cls = RX9 ∧ yX9_tell.cls ≠ "java/lang/invoke/MethodHandle" ∧ yX9_tell.cls ≠ "java/lang/invoke/VarHandle" ∧ (parseMethodDescriptor yX9_tell.desc).map (fun d => d.parameters.length) = some 1 := by decide +kernel
theorem flX9_tell_k4_9 : Cond.fieldLink RX9 9 "BeforeTheEnd$Told" "set" "I" ∈ wsX9_tell := by decide +kernel
theorem hinX9_tell_k4_X0 : ∀ w ∈ wsX00, w ∈ wsX9_tell := fun _ h => List.mem_cons_of_mem _ (List.mem_append_left _ (List.mem_append_right _ h))
theorem hinX9_tell_k4_X9 : ∀ w ∈ wsX90, w ∈ wsX9_tell := fun _ h => List.mem_cons_of_mem _ (List.mem_append_right _ h)
def xX9_tell_k4 (pP : zP) (v0 : Nat) (v1 : Int32) : Option zP :=
  zlet (zpf pP v0 3 v1) fun M1 =>
  some M1
set_option maxHeartbeats 4000000 in
set_option maxRecDepth 100000 in
theorem tX9_tell_k4 {κ : Nat → ClassId} {tg : Nat} {S : zEn} {ad : Nat → Nat} (hEk : zEk (zE tg S)) {pT : zM} {pR : zM} {pX : zM} {pF : zM} {pB : zM} {pP : zP} {v0 : Nat} {v1 : Int32} (hk : pP.2.1 v0 = 4) (hv0 : v0 < pP.2.2.2) {res : zP} (h : xX9_tell_k4 pP v0 v1 = some res) (l : Launch) (D : va_G) : zCT (zE tg S) D vwCl (zty κ) l yX9_tell wsX9_tell ({ frames := 0, cells := 0, slots := 0, locals := 0 } : Room) 0 0 [.ref (ad (81 + v0)), .int v1] (zwC κ ad pT pR pX pF pB pP) (zPd none (zwC κ ad pT pR pX pF pB res)) := by
  refine zCT.of (cc := cX9_tell) (maxL := 2) (ret := none) (by decide) rfl (Nat.le_of_ble_eq_true rfl) ?_
  intro X hC hR
  unfold xX9_tell_k4 at h
  refine zV.sub (lv' := [(0, .ref (ad (81 + v0))), (1, .int v1)]) [0, 1] rfl ?_
  refine zr_aload_n (pc := 0) hC 0 rfl rfl dX9_tell_0 ?_
  refine zr_iload_n (pc := 1) hC 1 rfl rfl dX9_tell_1 ?_
  obtain ⟨M1, e2, h⟩ := zle h
  refine zpp_4 (pc := 2) hC hinX9_tell_k4_X9 flX9_tell_k4_9 hk hv0 e2 dX9_tell_2 ?_
  obtain rfl := Option.some.inj h
  exact zr_vret hC hR ⟨rfl, rfl⟩ (Nat.le_refl _) (Nat.le_refl _) dX9_tell_5
/-! X9_tell_k5 -/
theorem flX9_tell_k5_9 : Cond.fieldLink RX9 9 "BeforeTheEnd$Told" "set" "I" ∈ wsX9_tell := by decide +kernel
theorem hinX9_tell_k5_X0 : ∀ w ∈ wsX00, w ∈ wsX9_tell := fun _ h => List.mem_cons_of_mem _ (List.mem_append_left _ (List.mem_append_right _ h))
theorem hinX9_tell_k5_X9 : ∀ w ∈ wsX90, w ∈ wsX9_tell := fun _ h => List.mem_cons_of_mem _ (List.mem_append_right _ h)
def xX9_tell_k5 (pP : zP) (v0 : Nat) (v1 : Int32) : Option zP :=
  zlet (zpf pP v0 3 v1) fun M1 =>
  some M1
set_option maxHeartbeats 4000000 in
set_option maxRecDepth 100000 in
theorem tX9_tell_k5 {κ : Nat → ClassId} {tg : Nat} {S : zEn} {ad : Nat → Nat} (hEk : zEk (zE tg S)) {pT : zM} {pR : zM} {pX : zM} {pF : zM} {pB : zM} {pP : zP} {v0 : Nat} {v1 : Int32} (hk : zk5 pP v0) (hv0 : v0 < pP.2.2.2) {res : zP} (h : xX9_tell_k5 pP v0 v1 = some res) (l : Launch) (D : va_G) : zCT (zE tg S) D vwCl (zty κ) l yX9_tell wsX9_tell ({ frames := 0, cells := 0, slots := 0, locals := 0 } : Room) 0 0 [.ref (ad (81 + v0)), .int v1] (zwC κ ad pT pR pX pF pB pP) (zPd none (zwC κ ad pT pR pX pF pB res)) := by
  refine zCT.of (cc := cX9_tell) (maxL := 2) (ret := none) (by decide) rfl (Nat.le_of_ble_eq_true rfl) ?_
  intro X hC hR
  unfold xX9_tell_k5 at h
  refine zV.sub (lv' := [(0, .ref (ad (81 + v0))), (1, .int v1)]) [0, 1] rfl ?_
  refine zr_aload_n (pc := 0) hC 0 rfl rfl dX9_tell_0 ?_
  refine zr_iload_n (pc := 1) hC 1 rfl rfl dX9_tell_1 ?_
  obtain ⟨M1, e2, h⟩ := zle h
  refine zpp_5 (pc := 2) hC hinX9_tell_k5_X0 flX9_tell_k5_9 hk hv0 e2 dX9_tell_2 ?_
  obtain rfl := Option.some.inj h
  exact zr_vret hC hR ⟨rfl, rfl⟩ (Nat.le_refl _) (Nat.le_refl _) dX9_tell_5
/-! V:tell -/
def xv_tell (pP : zP) (a : Nat) (v1 : Int32) : Option zP :=
  if pP.2.1 a = 0 then
  ((xX5_tell_k0 pP a v1).bind fun q => some pP)
  else
  if pP.2.1 a = 1 then
  ((xX5_tell_k1 pP a v1).bind fun q => some pP)
  else
  if pP.2.1 a = 2 then
  ((xX5_tell_k2 pP a v1).bind fun q => some pP)
  else
  if pP.2.1 a = 3 then
  ((xX5_tell_k3 pP a v1).bind fun q => some pP)
  else
  if pP.2.1 a = 4 then
  ((xX9_tell_k4 pP a v1).bind fun q => some q)
  else
  (xX9_tell_k5 pP a v1).bind fun q => some q
theorem hxv_tell : "BeforeTheEnd$Player" ≠ "java/lang/invoke/MethodHandle" ∧ "BeforeTheEnd$Player" ≠ "java/lang/invoke/VarHandle" ∧ (parseMethodDescriptor "(I)V").map (fun d => d.parameters.length) = some 1 := by decide +kernel
/-! X11_setOf -/
set_option maxHeartbeats 4000000 in
theorem vrX11_setOf_119 {κ : Nat → ClassId} {tg : Nat} {S : zEn} {ad : Nat → Nat} {X : zX} {cells slots nL pc a : Nat} {lv : zLv} {rm : Room} {pT pR pX pF pB : zM} {pP : zP}  {q : Int32} (hC : zC X cX11_setOf RX11 wsX11_setOf vwCl (zty κ) (zE tg S) nL rm) (hEk : zEk (zE tg S)) (ha : ¬ pP.2.2.2 ≤ a) (hq : xv_kind pP a  = some q) {rest : List Value} (hcat : (rest.map fun v => v.category).sum ≤ 8) (hf : 1 ≤ rm.frames) (hl : 20 ≤ rm.locals) (hfit : cells + 0 ≤ rm.cells ∧ slots + 0 ≤ rm.slots) (hd : decode cX11_setOf pc = .ok (.invokevirtual 119, 3)) (kk : zV X cells slots (zwC κ ad pT pR pX pF pB pP) lv (.int q :: rest) (pc + 3)) : zV X cells slots (zwC κ ad pT pR pX pF pB pP) lv (.ref (ad (81 + a)) :: rest) pc := by
  have ha2 : a < pP.2.2.2 := by omega
  unfold xv_kind at hq
  by_cases k0 : pP.2.1 a = 0
  · replace hq := zip hq k0
    obtain ⟨q2, hq2, hq⟩ := zbd hq
    obtain rfl := Option.some.inj hq
    exact zr_cAi hC hEk [] rest (81 + a) 0 (fun l D => tX2_kind_k0 hEk k0 ha2 hq2 l D) gX11_setOf_X2_kind_u119X2 zE_kind rfl rfl rfl ⟨Nat.le_trans (Nat.le_of_ble_eq_true rfl) hf, Nat.le_trans (Nat.le_of_ble_eq_true rfl) hl⟩ hxv_kind (by omega) (entC_p0 k0) rfl rfl rfl hcat hfit hd kk
  replace hq := zin hq k0
  by_cases k1 : pP.2.1 a = 1
  · replace hq := zip hq k1
    obtain ⟨q2, hq2, hq⟩ := zbd hq
    obtain rfl := Option.some.inj hq
    exact zr_cAi hC hEk [] rest (81 + a) 0 (fun l D => tX7_kind_k1 hEk k1 ha2 hq2 l D) gX11_setOf_X7_kind_u119X7 zE_kind rfl rfl rfl ⟨Nat.le_trans (Nat.le_of_ble_eq_true rfl) hf, Nat.le_trans (Nat.le_of_ble_eq_true rfl) hl⟩ hxv_kind (by omega) (entC_p1 k1) rfl rfl rfl hcat hfit hd kk
  replace hq := zin hq k1
  by_cases k2 : pP.2.1 a = 2
  · replace hq := zip hq k2
    obtain ⟨q2, hq2, hq⟩ := zbd hq
    obtain rfl := Option.some.inj hq
    exact zr_cAi hC hEk [] rest (81 + a) 0 (fun l D => tX1_kind_k2 hEk k2 ha2 hq2 l D) gX11_setOf_X1_kind_u119X1 zE_kind rfl rfl rfl ⟨Nat.le_trans (Nat.le_of_ble_eq_true rfl) hf, Nat.le_trans (Nat.le_of_ble_eq_true rfl) hl⟩ hxv_kind (by omega) (entC_p2 k2) rfl rfl rfl hcat hfit hd kk
  replace hq := zin hq k2
  by_cases k3 : pP.2.1 a = 3
  · replace hq := zip hq k3
    obtain ⟨q2, hq2, hq⟩ := zbd hq
    obtain rfl := Option.some.inj hq
    exact zr_cAi hC hEk [] rest (81 + a) 0 (fun l D => tX4_kind_k3 hEk k3 ha2 hq2 l D) gX11_setOf_X4_kind_u119X4 zE_kind rfl rfl rfl ⟨Nat.le_trans (Nat.le_of_ble_eq_true rfl) hf, Nat.le_trans (Nat.le_of_ble_eq_true rfl) hl⟩ hxv_kind (by omega) (entC_p3 k3) rfl rfl rfl hcat hfit hd kk
  replace hq := zin hq k3
  by_cases k4 : pP.2.1 a = 4
  · replace hq := zip hq k4
    obtain ⟨q2, hq2, hq⟩ := zbd hq
    obtain rfl := Option.some.inj hq
    exact zr_cAi hC hEk [] rest (81 + a) 0 (fun l D => tX9_kind_k4 hEk k4 ha2 hq2 l D) gX11_setOf_X9_kind_u119X9 zE_kind rfl rfl rfl ⟨Nat.le_trans (Nat.le_of_ble_eq_true rfl) hf, Nat.le_trans (Nat.le_of_ble_eq_true rfl) hl⟩ hxv_kind (by omega) (entC_p4 k4) rfl rfl rfl hcat hfit hd kk
  replace hq := zin hq k4
  obtain ⟨q2, hq2, hq⟩ := zbd hq
  obtain rfl := Option.some.inj hq
  exact zr_cAi hC hEk [] rest (81 + a) 0 (fun l D => tX0_kind_k5 hEk ⟨k0, k1, k2, k3, k4⟩ ha2 hq2 l D) gX11_setOf_X0_kind_u119X0 zE_kind rfl rfl rfl ⟨Nat.le_trans (Nat.le_of_ble_eq_true rfl) hf, Nat.le_trans (Nat.le_of_ble_eq_true rfl) hl⟩ hxv_kind (by omega) (entC_p5 ⟨k0, k1, k2, k3, k4⟩) rfl rfl rfl hcat hfit hd kk
theorem h0X11_setOf_toldSet : Cond.code ⟨"BeforeTheEnd$Player", "toldSet", "()I"⟩ cX5_toldSet 1 (some .int) ∈ wsX11_setOf := by decide +kernel
set_option maxHeartbeats 4000000 in
theorem vrX11_setOf_133 {κ : Nat → ClassId} {tg : Nat} {S : zEn} {ad : Nat → Nat} {X : zX} {cells slots nL pc a : Nat} {lv : zLv} {rm : Room} {pT pR pX pF pB : zM} {pP : zP}  {q : Int32} (hC : zC X cX11_setOf RX11 wsX11_setOf vwCl (zty κ) (zE tg S) nL rm) (hEk : zEk (zE tg S)) (ha : ¬ pP.2.2.2 ≤ a) (hq : xv_toldSet pP a  = some q) {rest : List Value} (hcat : (rest.map fun v => v.category).sum ≤ 8) (hf : 1 ≤ rm.frames) (hl : 20 ≤ rm.locals) (hfit : cells + 0 ≤ rm.cells ∧ slots + 0 ≤ rm.slots) (hd : decode cX11_setOf pc = .ok (.invokevirtual 133, 3)) (kk : zV X cells slots (zwC κ ad pT pR pX pF pB pP) lv (.int q :: rest) (pc + 3)) : zV X cells slots (zwC κ ad pT pR pX pF pB pP) lv (.ref (ad (81 + a)) :: rest) pc := by
  have ha2 : a < pP.2.2.2 := by omega
  unfold xv_toldSet at hq
  by_cases k0 : pP.2.1 a = 0
  · replace hq := zip hq k0
    obtain ⟨q2, hq2, hq⟩ := zbd hq
    obtain rfl := Option.some.inj hq
    exact zr_cUi hC hEk [] rest (81 + a) 0 (fun l D => tX5_toldSet_k0 hEk k0 ha2 hq2 l D) gX11_setOf_X5_toldSet_u133X2 rfl rfl rfl rfl ⟨Nat.le_trans (Nat.le_of_ble_eq_true rfl) hf, Nat.le_trans (Nat.le_of_ble_eq_true rfl) hl⟩ hxv_toldSet (by omega) (entC_p0 k0) rfl rfl rfl hcat hfit hd kk
  replace hq := zin hq k0
  by_cases k1 : pP.2.1 a = 1
  · replace hq := zip hq k1
    obtain ⟨q2, hq2, hq⟩ := zbd hq
    obtain rfl := Option.some.inj hq
    exact zr_cUi hC hEk [] rest (81 + a) 0 (fun l D => tX5_toldSet_k1 hEk k1 ha2 hq2 l D) gX11_setOf_X5_toldSet_u133X7 rfl rfl rfl rfl ⟨Nat.le_trans (Nat.le_of_ble_eq_true rfl) hf, Nat.le_trans (Nat.le_of_ble_eq_true rfl) hl⟩ hxv_toldSet (by omega) (entC_p1 k1) rfl rfl rfl hcat hfit hd kk
  replace hq := zin hq k1
  by_cases k2 : pP.2.1 a = 2
  · replace hq := zip hq k2
    obtain ⟨q2, hq2, hq⟩ := zbd hq
    obtain rfl := Option.some.inj hq
    exact zr_cUi hC hEk [] rest (81 + a) 0 (fun l D => tX5_toldSet_k2 hEk k2 ha2 hq2 l D) gX11_setOf_X5_toldSet_u133X1 rfl rfl rfl rfl ⟨Nat.le_trans (Nat.le_of_ble_eq_true rfl) hf, Nat.le_trans (Nat.le_of_ble_eq_true rfl) hl⟩ hxv_toldSet (by omega) (entC_p2 k2) rfl rfl rfl hcat hfit hd kk
  replace hq := zin hq k2
  by_cases k3 : pP.2.1 a = 3
  · replace hq := zip hq k3
    obtain ⟨q2, hq2, hq⟩ := zbd hq
    obtain rfl := Option.some.inj hq
    exact zr_cUi hC hEk [] rest (81 + a) 0 (fun l D => tX5_toldSet_k3 hEk k3 ha2 hq2 l D) gX11_setOf_X5_toldSet_u133X4 rfl rfl rfl rfl ⟨Nat.le_trans (Nat.le_of_ble_eq_true rfl) hf, Nat.le_trans (Nat.le_of_ble_eq_true rfl) hl⟩ hxv_toldSet (by omega) (entC_p3 k3) rfl rfl rfl hcat hfit hd kk
  replace hq := zin hq k3
  by_cases k4 : pP.2.1 a = 4
  · replace hq := zip hq k4
    obtain ⟨q2, hq2, hq⟩ := zbd hq
    obtain rfl := Option.some.inj hq
    exact zr_cOi hC hEk [] rest (81 + a) 0 (fun l D => tX9_toldSet_k4 hEk k4 ha2 hq2 l D) gX11_setOf_X9_toldSet_u133X9 h0X11_setOf_toldSet rfl rfl rfl ⟨Nat.le_trans (Nat.le_of_ble_eq_true rfl) hf, Nat.le_trans (Nat.le_of_ble_eq_true rfl) hl⟩ hxv_toldSet (by omega) (entC_p4 k4) rfl rfl rfl hcat hfit hd kk
  replace hq := zin hq k4
  obtain ⟨q2, hq2, hq⟩ := zbd hq
  obtain rfl := Option.some.inj hq
  exact zr_cOi hC hEk [] rest (81 + a) 0 (fun l D => tX9_toldSet_k5 hEk ⟨k0, k1, k2, k3, k4⟩ ha2 hq2 l D) gX11_setOf_X9_toldSet_u133X0 h0X11_setOf_toldSet rfl rfl rfl ⟨Nat.le_trans (Nat.le_of_ble_eq_true rfl) hf, Nat.le_trans (Nat.le_of_ble_eq_true rfl) hl⟩ hxv_toldSet (by omega) (entC_p5 ⟨k0, k1, k2, k3, k4⟩) rfl rfl rfl hcat hfit hd kk
theorem h0X11_setOf_tell : Cond.code ⟨"BeforeTheEnd$Player", "tell", "(I)V"⟩ cX5_tell 2 none ∈ wsX11_setOf := by decide +kernel
set_option maxHeartbeats 4000000 in
theorem vrX11_setOf_175 {κ : Nat → ClassId} {tg : Nat} {S : zEn} {ad : Nat → Nat} {X : zX} {cells slots nL pc a : Nat} {lv : zLv} {rm : Room} {pT pR pX pF pB : zM} {pP : zP} {v1 : Int32} {q : zP} (hC : zC X cX11_setOf RX11 wsX11_setOf vwCl (zty κ) (zE tg S) nL rm) (hEk : zEk (zE tg S)) (ha : ¬ pP.2.2.2 ≤ a) (hq : xv_tell pP a v1 = some q) {rest : List Value} (hcat : (rest.map fun v => v.category).sum ≤ 8) (hf : 1 ≤ rm.frames) (hl : 21 ≤ rm.locals) (hfit : cells + 0 ≤ rm.cells ∧ slots + 0 ≤ rm.slots) (hd : decode cX11_setOf pc = .ok (.invokevirtual 175, 3)) (kk : zV X cells slots (zwC κ ad pT pR pX pF pB q) lv rest (pc + 3)) : zV X cells slots (zwC κ ad pT pR pX pF pB pP) lv (.int v1 :: .ref (ad (81 + a)) :: rest) pc := by
  have ha2 : a < pP.2.2.2 := by omega
  unfold xv_tell at hq
  by_cases k0 : pP.2.1 a = 0
  · replace hq := zip hq k0
    obtain ⟨q2, hq2, hq⟩ := zbd hq
    obtain rfl := Option.some.inj hq
    exact zr_cUv hC hEk [.int v1] rest (81 + a) 1 (fun l D => tX5_tell_k0 hEk k0 ha2 hq2 l D) gX11_setOf_X5_tell_u175X2 rfl rfl rfl rfl ⟨Nat.le_trans (Nat.le_of_ble_eq_true rfl) hf, Nat.le_trans (Nat.le_of_ble_eq_true rfl) hl⟩ hxv_tell (by omega) (entC_p0 k0) rfl rfl rfl hcat hfit hd kk
  replace hq := zin hq k0
  by_cases k1 : pP.2.1 a = 1
  · replace hq := zip hq k1
    obtain ⟨q2, hq2, hq⟩ := zbd hq
    obtain rfl := Option.some.inj hq
    exact zr_cUv hC hEk [.int v1] rest (81 + a) 1 (fun l D => tX5_tell_k1 hEk k1 ha2 hq2 l D) gX11_setOf_X5_tell_u175X7 rfl rfl rfl rfl ⟨Nat.le_trans (Nat.le_of_ble_eq_true rfl) hf, Nat.le_trans (Nat.le_of_ble_eq_true rfl) hl⟩ hxv_tell (by omega) (entC_p1 k1) rfl rfl rfl hcat hfit hd kk
  replace hq := zin hq k1
  by_cases k2 : pP.2.1 a = 2
  · replace hq := zip hq k2
    obtain ⟨q2, hq2, hq⟩ := zbd hq
    obtain rfl := Option.some.inj hq
    exact zr_cUv hC hEk [.int v1] rest (81 + a) 1 (fun l D => tX5_tell_k2 hEk k2 ha2 hq2 l D) gX11_setOf_X5_tell_u175X1 rfl rfl rfl rfl ⟨Nat.le_trans (Nat.le_of_ble_eq_true rfl) hf, Nat.le_trans (Nat.le_of_ble_eq_true rfl) hl⟩ hxv_tell (by omega) (entC_p2 k2) rfl rfl rfl hcat hfit hd kk
  replace hq := zin hq k2
  by_cases k3 : pP.2.1 a = 3
  · replace hq := zip hq k3
    obtain ⟨q2, hq2, hq⟩ := zbd hq
    obtain rfl := Option.some.inj hq
    exact zr_cUv hC hEk [.int v1] rest (81 + a) 1 (fun l D => tX5_tell_k3 hEk k3 ha2 hq2 l D) gX11_setOf_X5_tell_u175X4 rfl rfl rfl rfl ⟨Nat.le_trans (Nat.le_of_ble_eq_true rfl) hf, Nat.le_trans (Nat.le_of_ble_eq_true rfl) hl⟩ hxv_tell (by omega) (entC_p3 k3) rfl rfl rfl hcat hfit hd kk
  replace hq := zin hq k3
  by_cases k4 : pP.2.1 a = 4
  · replace hq := zip hq k4
    obtain ⟨q2, hq2, hq⟩ := zbd hq
    obtain rfl := Option.some.inj hq
    exact zr_cOv hC hEk [.int v1] rest (81 + a) 1 (fun l D => tX9_tell_k4 hEk k4 ha2 hq2 l D) gX11_setOf_X9_tell_u175X9 h0X11_setOf_tell rfl rfl rfl ⟨Nat.le_trans (Nat.le_of_ble_eq_true rfl) hf, Nat.le_trans (Nat.le_of_ble_eq_true rfl) hl⟩ hxv_tell (by omega) (entC_p4 k4) rfl rfl rfl hcat hfit hd kk
  replace hq := zin hq k4
  obtain ⟨q2, hq2, hq⟩ := zbd hq
  obtain rfl := Option.some.inj hq
  exact zr_cOv hC hEk [.int v1] rest (81 + a) 1 (fun l D => tX9_tell_k5 hEk ⟨k0, k1, k2, k3, k4⟩ ha2 hq2 l D) gX11_setOf_X9_tell_u175X0 h0X11_setOf_tell rfl rfl rfl ⟨Nat.le_trans (Nat.le_of_ble_eq_true rfl) hf, Nat.le_trans (Nat.le_of_ble_eq_true rfl) hl⟩ hxv_tell (by omega) (entC_p5 ⟨k0, k1, k2, k3, k4⟩) rfl rfl rfl hcat hfit hd kk
theorem hyX11_setOf : yX11_setOf.cls = RX11 ∧ yX11_setOf.cls ≠ "java/lang/invoke/MethodHandle" ∧ yX11_setOf.cls ≠ "java/lang/invoke/VarHandle" ∧ (parseMethodDescriptor yX11_setOf.desc).map (fun d => d.parameters.length) = some 2 := by decide +kernel
theorem flX11_setOf_59 : Cond.fieldLink RX11 59 "BeforeTheEnd" "tree" "LBeforeTheEnd$Tree;" ∈ wsX11_setOf := by decide +kernel
theorem flX11_setOf_68 : Cond.fieldLink RX11 68 "BeforeTheEnd" "race" "LBeforeTheEnd$Race;" ∈ wsX11_setOf := by decide +kernel
theorem hinX11_setOf_X11 : ∀ w ∈ wsX110, w ∈ wsX11_setOf := fun _ h => List.mem_cons_of_mem _ (List.mem_append_left _ (List.mem_append_left _ (List.mem_append_left _ (List.mem_append_left _ (List.mem_append_right _ h)))))
theorem hinX11_setOf_X6 : ∀ w ∈ wsX60, w ∈ wsX11_setOf := fun _ h => List.mem_cons_of_mem _ (List.mem_append_left _ (List.mem_append_left _ (List.mem_append_left _ (List.mem_append_right _ h))))
theorem hinX11_setOf_X10 : ∀ w ∈ wsX100, w ∈ wsX11_setOf := fun _ h => List.mem_cons_of_mem _ (List.mem_append_left _ (List.mem_append_left _ (List.mem_append_right _ h)))
theorem hinX11_setOf_X0 : ∀ w ∈ wsX00, w ∈ wsX11_setOf := fun _ h => List.mem_cons_of_mem _ (List.mem_append_left _ (List.mem_append_right _ h))
theorem hinX11_setOf_X9 : ∀ w ∈ wsX90, w ∈ wsX11_setOf := fun _ h => List.mem_cons_of_mem _ (List.mem_append_right _ h)
def xX11_setOf (pT : zM) (pR : zM) (pB : zM) (pP : zP) (v1 : Int32) (v2 : Int32) : Option (Int32 × zM × zP) :=
  (xX6_playerAt pR pP v1).bind fun q1 =>
  zon q1
  ((xX11_refuse pB (-1 : Int32)).bind fun q5 =>
  some (q5.1, q5.2, pP))
  (fun a2 => if pP.2.2.2 ≤ a2 then none else
  (xX10_allWords pT).bind fun q6 =>
  if (v2 &&& (q6 ^^^ (-1 : Int32))) = 0 then
  ((xv_kind pP a2).bind fun q8 =>
  if q8 = (4 : Int32) then
  ((xv_toldSet pP a2).bind fun q10 =>
  (xv_tell pP a2 v2).bind fun q11 =>
  some (q10, pB, q11))
  else
  (xX11_refuse pB (-2 : Int32)).bind fun q12 =>
  some (q12.1, q12.2, pP))
  else
  (xX11_refuse pB (-1 : Int32)).bind fun q13 =>
  some (q13.1, q13.2, pP))
set_option maxHeartbeats 4000000 in
set_option maxRecDepth 100000 in
theorem tX11_setOf {κ : Nat → ClassId} {tg : Nat} {S : zEn} {ad : Nat → Nat} (hEk : zEk (zE tg S)) {pT : zM} {pR : zM} {pX : zM} {pF : zM} {pB : zM} {pP : zP} {v1 : Int32} {v2 : Int32} {res : (Int32 × zM × zP)} (h : xX11_setOf pT pR pB pP v1 v2 = some res) (l : Launch) (D : va_G) : zCT (zE tg S) D vwCl (zty κ) l yX11_setOf wsX11_setOf ({ frames := 1, cells := 0, slots := 0, locals := 22 } : Room) 0 0 [.ref (ad 76), .int v1, .int v2] (zwC κ ad pT pR pX pF pB pP) (zPd (some (.int res.1)) (zwC κ ad pT pR pX pF res.2.1 res.2.2)) := by
  refine zCT.of (cc := cX11_setOf) (maxL := 5) (ret := (some .int)) (by decide) rfl (Nat.le_of_ble_eq_true rfl) ?_
  intro X hC hR
  unfold xX11_setOf at h
  refine zV.sub (lv' := [(0, .ref (ad 76)), (1, .int v1), (2, .int v2)]) [0, 1, 2] rfl ?_
  refine zr_aload_n (pc := 0) hC 0 rfl rfl dX11_setOf_0 ?_
  refine zcg_76_1 (pc := 1) hC hinX11_setOf_X11 flX11_setOf_68 dX11_setOf_1 ?_
  refine zr_iload_n (pc := 4) hC 1 rfl rfl dX11_setOf_4 ?_
  obtain ⟨q1, hq1, h⟩ := zbd h
  refine zr_cVr (pc := 5) hC hEk [.int v1] [] 62 1 (fun l D => tX6_playerAt hEk hq1 l D) gX11_setOf_X6_playerAt rfl rfl rfl ⟨Nat.le_of_ble_eq_true rfl, Nat.le_of_ble_eq_true rfl⟩ hyX6_playerAt (zNC (by decide)) entC_62 rfl rfl rfl (Nat.le_of_ble_eq_true rfl) ⟨Nat.le_of_ble_eq_true rfl, Nat.le_of_ble_eq_true rfl⟩ dX11_setOf_5 ?_
  refine zr_astore_nO (pc := 8) (lv' := [(3, va_rf (q1.map (fun a => ad (81 + a)))), (0, .ref (ad 76)), (1, .int v1), (2, .int v2)]) hC rfl (by decide) (by cases q1 <;> rfl) dX11_setOf_8 ?_
  refine zr_aload_nO (pc := 9) hC 0 rfl rfl dX11_setOf_9 ?_
  refine zr_ifnullM (pc := 10) (tgt := 27) hC dX11_setOf_10 (by decide) (fun e3 => ?_) (fun a2 e3 => ?_)
  · replace h := zon_n e3 h
    have h9 := h
    subst e3
    replace h := h9
    clear h9
    show zV X 0 0 (zwC κ ad pT pR pX pF pB pP) [(3, va_rf ((none : Option Nat).map (fun a => ad (81 + a)))), (0, .ref (ad 76)), (1, .int v1), (2, .int v2)] [] 27
    refine zr_aload_n (pc := 27) hC 1 rfl rfl dX11_setOf_27 ?_
    refine zr_iconst (pc := 28) hC zki_m1 dX11_setOf_28 ?_
    obtain ⟨q5, hq5, h⟩ := zbd h
    refine zr_cVi (pc := 29) hC hEk [.int (-1 : Int32)] [] 76 1 (fun l D => tX11_refuse hEk hq5 l D) gX11_setOf_X11_refuse rfl rfl rfl ⟨Nat.le_of_ble_eq_true rfl, Nat.le_of_ble_eq_true rfl⟩ hyX11_refuse (zNC (by decide)) entC_76 rfl rfl rfl (Nat.le_of_ble_eq_true rfl) ⟨Nat.le_of_ble_eq_true rfl, Nat.le_of_ble_eq_true rfl⟩ dX11_setOf_29 ?_
    obtain rfl := Option.some.inj h
    exact zr_iret hC hR ⟨rfl, rfl⟩ (Nat.le_refl _) (Nat.le_refl _) dX11_setOf_32
  · replace h := zon_s e3 h
    have h9 := h
    subst e3
    replace h := h9
    clear h9
    obtain ⟨i4, h⟩ := zgd h
    show zV X 0 0 (zwC κ ad pT pR pX pF pB pP) [(3, .ref (ad (81 + a2))), (0, .ref (ad 76)), (1, .int v1), (2, .int v2)] [] 13
    refine zr_iload_n (pc := 13) hC 3 rfl rfl dX11_setOf_13 ?_
    refine zr_aload_n (pc := 14) hC 1 rfl rfl dX11_setOf_14 ?_
    refine zcg_76_0 (pc := 15) hC hinX11_setOf_X11 flX11_setOf_59 dX11_setOf_15 ?_
    obtain ⟨q6, hq6, h⟩ := zbd h
    refine zr_cVi (pc := 18) hC hEk [] [.int v2] 0 0 (fun l D => tX10_allWords hEk hq6 l D) gX11_setOf_X10_allWords rfl rfl rfl ⟨Nat.le_of_ble_eq_true rfl, Nat.le_of_ble_eq_true rfl⟩ hyX10_allWords (zNC (by decide)) entC_0 rfl rfl rfl (Nat.le_of_ble_eq_true rfl) ⟨Nat.le_of_ble_eq_true rfl, Nat.le_of_ble_eq_true rfl⟩ dX11_setOf_18 ?_
    refine zr_iconst (pc := 21) hC zki_m1 dX11_setOf_21 ?_
    refine zr_ixor (pc := 22) hC dX11_setOf_22 ?_
    refine zr_iand (pc := 23) hC dX11_setOf_23 ?_
    refine zr_if_eq (pc := 24) (tgt := 33) hC dX11_setOf_24 (by decide) (fun c7 => ?_) (fun c7 => ?_)
    · replace h := zip h c7
      refine zr_aload_n (pc := 33) hC 0 rfl rfl dX11_setOf_33 ?_
      obtain ⟨q8, hq8, h⟩ := zbd h
      refine vrX11_setOf_119 (pc := 34) hC hEk i4 hq8 (rest := []) (Nat.le_of_ble_eq_true rfl) (Nat.le_of_ble_eq_true rfl) (Nat.le_of_ble_eq_true rfl) ⟨Nat.le_of_ble_eq_true rfl, Nat.le_of_ble_eq_true rfl⟩ dX11_setOf_34 ?_
      refine zr_iconst (pc := 37) hC zki_4 dX11_setOf_37 ?_
      refine zr_icmp_eq (pc := 38) (tgt := 48) hC dX11_setOf_38 (by decide) (fun c9 => ?_) (fun c9 => ?_)
      · replace h := zip h c9
        refine zr_aload_n (pc := 48) hC 0 rfl rfl dX11_setOf_48 ?_
        obtain ⟨q10, hq10, h⟩ := zbd h
        refine vrX11_setOf_133 (pc := 49) hC hEk i4 hq10 (rest := []) (Nat.le_of_ble_eq_true rfl) (Nat.le_of_ble_eq_true rfl) (Nat.le_of_ble_eq_true rfl) ⟨Nat.le_of_ble_eq_true rfl, Nat.le_of_ble_eq_true rfl⟩ dX11_setOf_49 ?_
        refine zr_istore (pc := 52) (lv' := [(4, .int q10), (3, .ref (ad (81 + a2))), (0, .ref (ad 76)), (1, .int v1), (2, .int v2)]) hC (by decide) rfl dX11_setOf_52 ?_
        refine zr_aload_n (pc := 54) hC 1 rfl rfl dX11_setOf_54 ?_
        refine zr_iload_n (pc := 55) hC 4 rfl rfl dX11_setOf_55 ?_
        obtain ⟨q11, hq11, h⟩ := zbd h
        refine vrX11_setOf_175 (pc := 56) hC hEk i4 hq11 (rest := []) (Nat.le_of_ble_eq_true rfl) (Nat.le_of_ble_eq_true rfl) (Nat.le_of_ble_eq_true rfl) ⟨Nat.le_of_ble_eq_true rfl, Nat.le_of_ble_eq_true rfl⟩ dX11_setOf_56 ?_
        refine zr_iload (pc := 59) hC 0 rfl dX11_setOf_59 ?_
        obtain rfl := Option.some.inj h
        exact zr_iret hC hR ⟨rfl, rfl⟩ (Nat.le_refl _) (Nat.le_refl _) dX11_setOf_61
      · replace h := zin h c9
        refine zr_aload_n (pc := 41) hC 1 rfl rfl dX11_setOf_41 ?_
        refine zr_bipush (pc := 42) hC zkb_m2 dX11_setOf_42 ?_
        obtain ⟨q12, hq12, h⟩ := zbd h
        refine zr_cVi (pc := 44) hC hEk [.int (-2 : Int32)] [] 76 1 (fun l D => tX11_refuse hEk hq12 l D) gX11_setOf_X11_refuse rfl rfl rfl ⟨Nat.le_of_ble_eq_true rfl, Nat.le_of_ble_eq_true rfl⟩ hyX11_refuse (zNC (by decide)) entC_76 rfl rfl rfl (Nat.le_of_ble_eq_true rfl) ⟨Nat.le_of_ble_eq_true rfl, Nat.le_of_ble_eq_true rfl⟩ dX11_setOf_44 ?_
        obtain rfl := Option.some.inj h
        exact zr_iret hC hR ⟨rfl, rfl⟩ (Nat.le_refl _) (Nat.le_refl _) dX11_setOf_47
    · replace h := zin h c7
      refine zr_aload_n (pc := 27) hC 1 rfl rfl dX11_setOf_27 ?_
      refine zr_iconst (pc := 28) hC zki_m1 dX11_setOf_28 ?_
      obtain ⟨q13, hq13, h⟩ := zbd h
      refine zr_cVi (pc := 29) hC hEk [.int (-1 : Int32)] [] 76 1 (fun l D => tX11_refuse hEk hq13 l D) gX11_setOf_X11_refuse rfl rfl rfl ⟨Nat.le_of_ble_eq_true rfl, Nat.le_of_ble_eq_true rfl⟩ hyX11_refuse (zNC (by decide)) entC_76 rfl rfl rfl (Nat.le_of_ble_eq_true rfl) ⟨Nat.le_of_ble_eq_true rfl, Nat.le_of_ble_eq_true rfl⟩ dX11_setOf_29 ?_
      obtain rfl := Option.some.inj h
      exact zr_iret hC hR ⟨rfl, rfl⟩ (Nat.le_refl _) (Nat.le_refl _) dX11_setOf_32
/-! X11_presses -/
theorem hyX11_presses : yX11_presses.cls = RX11 ∧ yX11_presses.cls ≠ "java/lang/invoke/MethodHandle" ∧ yX11_presses.cls ≠ "java/lang/invoke/VarHandle" ∧ (parseMethodDescriptor yX11_presses.desc).map (fun d => d.parameters.length) = some 2 := by decide +kernel
theorem flX11_presses_59 : Cond.fieldLink RX11 59 "BeforeTheEnd" "tree" "LBeforeTheEnd$Tree;" ∈ wsX11_presses := by decide +kernel
theorem flX11_presses_68 : Cond.fieldLink RX11 68 "BeforeTheEnd" "race" "LBeforeTheEnd$Race;" ∈ wsX11_presses := by decide +kernel
theorem hinX11_presses_X11 : ∀ w ∈ wsX110, w ∈ wsX11_presses := fun _ h => List.mem_cons_of_mem _ (List.mem_append_left _ (List.mem_append_left _ (List.mem_append_left _ (List.mem_append_left _ (List.mem_append_left _ (List.mem_append_left _ (List.mem_append_left _ (List.mem_append_left _ (List.mem_append_right _ h)))))))))
theorem hinX11_presses_X6 : ∀ w ∈ wsX60, w ∈ wsX11_presses := fun _ h => List.mem_cons_of_mem _ (List.mem_append_left _ (List.mem_append_left _ (List.mem_append_left _ (List.mem_append_left _ (List.mem_append_left _ (List.mem_append_left _ (List.mem_append_left _ (List.mem_append_right _ h))))))))
theorem hinX11_presses_X10 : ∀ w ∈ wsX100, w ∈ wsX11_presses := fun _ h => List.mem_cons_of_mem _ (List.mem_append_left _ (List.mem_append_left _ (List.mem_append_left _ (List.mem_append_left _ (List.mem_append_left _ (List.mem_append_left _ (List.mem_append_right _ h)))))))
theorem hinX11_presses_X0 : ∀ w ∈ wsX00, w ∈ wsX11_presses := fun _ h => List.mem_cons_of_mem _ (List.mem_append_left _ (List.mem_append_left _ (List.mem_append_left _ (List.mem_append_left _ (List.mem_append_left _ (List.mem_append_right _ h))))))
theorem hinX11_presses_X1 : ∀ w ∈ wsX10, w ∈ wsX11_presses := fun _ h => List.mem_cons_of_mem _ (List.mem_append_left _ (List.mem_append_left _ (List.mem_append_left _ (List.mem_append_left _ (List.mem_append_right _ h)))))
theorem hinX11_presses_X2 : ∀ w ∈ wsX20, w ∈ wsX11_presses := fun _ h => List.mem_cons_of_mem _ (List.mem_append_left _ (List.mem_append_left _ (List.mem_append_left _ (List.mem_append_right _ h))))
theorem hinX11_presses_X4 : ∀ w ∈ wsX40, w ∈ wsX11_presses := fun _ h => List.mem_cons_of_mem _ (List.mem_append_left _ (List.mem_append_left _ (List.mem_append_right _ h)))
theorem hinX11_presses_X7 : ∀ w ∈ wsX70, w ∈ wsX11_presses := fun _ h => List.mem_cons_of_mem _ (List.mem_append_left _ (List.mem_append_right _ h))
theorem hinX11_presses_X9 : ∀ w ∈ wsX90, w ∈ wsX11_presses := fun _ h => List.mem_cons_of_mem _ (List.mem_append_right _ h)
def xX11_presses (pT : zM) (pR : zM) (pB : zM) (pP : zP) (v1 : Int32) (v2 : Int32) : Option (Int32 × zM × zM) :=
  (xX6_playerAt pR pP v1).bind fun q1 =>
  zon q1
  ((xX11_refuse pB (-1 : Int32)).bind fun q5 =>
  some (q5.1, pR, q5.2))
  (fun a2 => if pP.2.2.2 ≤ a2 then none else
  (xX10_has pT v2).bind fun q6 =>
  if q6 = 0 then
  ((xX11_refuse pB (-1 : Int32)).bind fun q13 =>
  some (q13.1, pR, q13.2))
  else
  (xX10_isWhole pT).bind fun q8 =>
  if q8 = 0 then
  ((xX11_refuse pB (-3 : Int32)).bind fun q12 =>
  some (q12.1, pR, q12.2))
  else
  (xX6_prepare pT pR pP).bind fun q10 =>
  (xX6_calmBits q10 v1).bind fun q11 =>
  some (((q11 >>> (v2 &&& 31)) &&& (1 : Int32)), q10, pB))
set_option maxHeartbeats 4000000 in
set_option maxRecDepth 100000 in
theorem tX11_presses {κ : Nat → ClassId} {tg : Nat} {S : zEn} {ad : Nat → Nat} (hEk : zEk (zE tg S)) {pT : zM} {pR : zM} {pX : zM} {pF : zM} {pB : zM} {pP : zP} {v1 : Int32} {v2 : Int32} {res : (Int32 × zM × zM)} (h : xX11_presses pT pR pB pP v1 v2 = some res) (l : Launch) (D : va_G) : zCT (zE tg S) D vwCl (zty κ) l yX11_presses wsX11_presses ({ frames := 6, cells := 0, slots := 0, locals := 141 } : Room) 0 0 [.ref (ad 76), .int v1, .int v2] (zwC κ ad pT pR pX pF pB pP) (zPd (some (.int res.1)) (zwC κ ad pT res.2.1 pX pF res.2.2 pP)) := by
  refine zCT.of (cc := cX11_presses) (maxL := 3) (ret := (some .int)) (by decide) rfl (Nat.le_of_ble_eq_true rfl) ?_
  intro X hC hR
  unfold xX11_presses at h
  refine zV.sub (lv' := [(0, .ref (ad 76)), (1, .int v1), (2, .int v2)]) [0, 1, 2] rfl ?_
  refine zr_aload_n (pc := 0) hC 0 rfl rfl dX11_presses_0 ?_
  refine zcg_76_1 (pc := 1) hC hinX11_presses_X11 flX11_presses_68 dX11_presses_1 ?_
  refine zr_iload_n (pc := 4) hC 1 rfl rfl dX11_presses_4 ?_
  obtain ⟨q1, hq1, h⟩ := zbd h
  refine zr_cVr (pc := 5) hC hEk [.int v1] [] 62 1 (fun l D => tX6_playerAt hEk hq1 l D) gX11_presses_X6_playerAt rfl rfl rfl ⟨Nat.le_of_ble_eq_true rfl, Nat.le_of_ble_eq_true rfl⟩ hyX6_playerAt (zNC (by decide)) entC_62 rfl rfl rfl (Nat.le_of_ble_eq_true rfl) ⟨Nat.le_of_ble_eq_true rfl, Nat.le_of_ble_eq_true rfl⟩ dX11_presses_5 ?_
  refine zr_ifnullM (pc := 8) (tgt := 22) hC dX11_presses_8 (by decide) (fun e3 => ?_) (fun a2 e3 => ?_)
  · replace h := zon_n e3 h
    have h9 := h
    subst e3
    replace h := h9
    clear h9
    show zV X 0 0 (zwC κ ad pT pR pX pF pB pP) [(0, .ref (ad 76)), (1, .int v1), (2, .int v2)] [] 22
    refine zr_aload_n (pc := 22) hC 0 rfl rfl dX11_presses_22 ?_
    refine zr_iconst (pc := 23) hC zki_m1 dX11_presses_23 ?_
    obtain ⟨q5, hq5, h⟩ := zbd h
    refine zr_cVi (pc := 24) hC hEk [.int (-1 : Int32)] [] 76 1 (fun l D => tX11_refuse hEk hq5 l D) gX11_presses_X11_refuse rfl rfl rfl ⟨Nat.le_of_ble_eq_true rfl, Nat.le_of_ble_eq_true rfl⟩ hyX11_refuse (zNC (by decide)) entC_76 rfl rfl rfl (Nat.le_of_ble_eq_true rfl) ⟨Nat.le_of_ble_eq_true rfl, Nat.le_of_ble_eq_true rfl⟩ dX11_presses_24 ?_
    obtain rfl := Option.some.inj h
    exact zr_iret hC hR ⟨rfl, rfl⟩ (Nat.le_refl _) (Nat.le_refl _) dX11_presses_27
  · replace h := zon_s e3 h
    have h9 := h
    subst e3
    replace h := h9
    clear h9
    obtain ⟨i4, h⟩ := zgd h
    show zV X 0 0 (zwC κ ad pT pR pX pF pB pP) [(0, .ref (ad 76)), (1, .int v1), (2, .int v2)] [] 11
    refine zr_aload_n (pc := 11) hC 0 rfl rfl dX11_presses_11 ?_
    refine zcg_76_0 (pc := 12) hC hinX11_presses_X11 flX11_presses_59 dX11_presses_12 ?_
    refine zr_iload_n (pc := 15) hC 2 rfl rfl dX11_presses_15 ?_
    obtain ⟨q6, hq6, h⟩ := zbd h
    refine zr_cVi (pc := 16) hC hEk [.int v2] [] 0 1 (fun l D => tX10_has hEk hq6 l D) gX11_presses_X10_has rfl rfl rfl ⟨Nat.le_of_ble_eq_true rfl, Nat.le_of_ble_eq_true rfl⟩ hyX10_has (zNC (by decide)) entC_0 rfl rfl rfl (Nat.le_of_ble_eq_true rfl) ⟨Nat.le_of_ble_eq_true rfl, Nat.le_of_ble_eq_true rfl⟩ dX11_presses_16 ?_
    refine zr_if_ne (pc := 19) (tgt := 28) hC dX11_presses_19 (by decide) (fun c7 => ?_) (fun c7 => ?_)
    · replace h := zin h c7
      refine zr_aload_n (pc := 28) hC 0 rfl rfl dX11_presses_28 ?_
      refine zcg_76_0 (pc := 29) hC hinX11_presses_X11 flX11_presses_59 dX11_presses_29 ?_
      obtain ⟨q8, hq8, h⟩ := zbd h
      refine zr_cVi (pc := 32) hC hEk [] [] 0 0 (fun l D => tX10_isWhole hEk hq8 l D) gX11_presses_X10_isWhole rfl rfl rfl ⟨Nat.le_of_ble_eq_true rfl, Nat.le_of_ble_eq_true rfl⟩ hyX10_isWhole (zNC (by decide)) entC_0 rfl rfl rfl (Nat.le_of_ble_eq_true rfl) ⟨Nat.le_of_ble_eq_true rfl, Nat.le_of_ble_eq_true rfl⟩ dX11_presses_32 ?_
      refine zr_if_ne (pc := 35) (tgt := 45) hC dX11_presses_35 (by decide) (fun c9 => ?_) (fun c9 => ?_)
      · replace h := zin h c9
        refine zr_aload_n (pc := 45) hC 0 rfl rfl dX11_presses_45 ?_
        refine zcg_76_1 (pc := 46) hC hinX11_presses_X11 flX11_presses_68 dX11_presses_46 ?_
        obtain ⟨q10, hq10, h⟩ := zbd h
        refine zr_cVv (pc := 49) hC hEk [] [] 62 0 (fun l D => tX6_prepare hEk hq10 l D) gX11_presses_X6_prepare rfl rfl rfl ⟨Nat.le_of_ble_eq_true rfl, Nat.le_of_ble_eq_true rfl⟩ hyX6_prepare (zNC (by decide)) entC_62 rfl rfl rfl (Nat.le_of_ble_eq_true rfl) ⟨Nat.le_of_ble_eq_true rfl, Nat.le_of_ble_eq_true rfl⟩ dX11_presses_49 ?_
        refine zr_aload_n (pc := 52) hC 0 rfl rfl dX11_presses_52 ?_
        refine zcg_76_1 (pc := 53) hC hinX11_presses_X11 flX11_presses_68 dX11_presses_53 ?_
        refine zr_iload_n (pc := 56) hC 1 rfl rfl dX11_presses_56 ?_
        obtain ⟨q11, hq11, h⟩ := zbd h
        refine zr_cVi (pc := 57) hC hEk [.int v1] [] 62 1 (fun l D => tX6_calmBits hEk hq11 l D) gX11_presses_X6_calmBits rfl rfl rfl ⟨Nat.le_of_ble_eq_true rfl, Nat.le_of_ble_eq_true rfl⟩ hyX6_calmBits (zNC (by decide)) entC_62 rfl rfl rfl (Nat.le_of_ble_eq_true rfl) ⟨Nat.le_of_ble_eq_true rfl, Nat.le_of_ble_eq_true rfl⟩ dX11_presses_57 ?_
        refine zr_iload_n (pc := 60) hC 2 rfl rfl dX11_presses_60 ?_
        refine zr_ishr (pc := 61) hC dX11_presses_61 ?_
        refine zr_iconst (pc := 62) hC zki_1 dX11_presses_62 ?_
        refine zr_iand (pc := 63) hC dX11_presses_63 ?_
        obtain rfl := Option.some.inj h
        exact zr_iret hC hR ⟨rfl, rfl⟩ (Nat.le_refl _) (Nat.le_refl _) dX11_presses_64
      · replace h := zip h c9
        refine zr_aload_n (pc := 38) hC 0 rfl rfl dX11_presses_38 ?_
        refine zr_bipush (pc := 39) hC zkb_m3 dX11_presses_39 ?_
        obtain ⟨q12, hq12, h⟩ := zbd h
        refine zr_cVi (pc := 41) hC hEk [.int (-3 : Int32)] [] 76 1 (fun l D => tX11_refuse hEk hq12 l D) gX11_presses_X11_refuse rfl rfl rfl ⟨Nat.le_of_ble_eq_true rfl, Nat.le_of_ble_eq_true rfl⟩ hyX11_refuse (zNC (by decide)) entC_76 rfl rfl rfl (Nat.le_of_ble_eq_true rfl) ⟨Nat.le_of_ble_eq_true rfl, Nat.le_of_ble_eq_true rfl⟩ dX11_presses_41 ?_
        obtain rfl := Option.some.inj h
        exact zr_iret hC hR ⟨rfl, rfl⟩ (Nat.le_refl _) (Nat.le_refl _) dX11_presses_44
    · replace h := zip h c7
      refine zr_aload_n (pc := 22) hC 0 rfl rfl dX11_presses_22 ?_
      refine zr_iconst (pc := 23) hC zki_m1 dX11_presses_23 ?_
      obtain ⟨q13, hq13, h⟩ := zbd h
      refine zr_cVi (pc := 24) hC hEk [.int (-1 : Int32)] [] 76 1 (fun l D => tX11_refuse hEk hq13 l D) gX11_presses_X11_refuse rfl rfl rfl ⟨Nat.le_of_ble_eq_true rfl, Nat.le_of_ble_eq_true rfl⟩ hyX11_refuse (zNC (by decide)) entC_76 rfl rfl rfl (Nat.le_of_ble_eq_true rfl) ⟨Nat.le_of_ble_eq_true rfl, Nat.le_of_ble_eq_true rfl⟩ dX11_presses_24 ?_
      obtain rfl := Option.some.inj h
      exact zr_iret hC hR ⟨rfl, rfl⟩ (Nat.le_refl _) (Nat.le_refl _) dX11_presses_27
/-! X11_run -/
theorem hyX11_run : yX11_run.cls = RX11 ∧ yX11_run.cls ≠ "java/lang/invoke/MethodHandle" ∧ yX11_run.cls ≠ "java/lang/invoke/VarHandle" ∧ (parseMethodDescriptor yX11_run.desc).map (fun d => d.parameters.length) = some 2 := by decide +kernel
theorem flX11_run_190 : Cond.fieldLink RX11 190 "BeforeTheEnd$Race" "winner" "I" ∈ wsX11_run := by decide +kernel
theorem flX11_run_193 : Cond.fieldLink RX11 193 "BeforeTheEnd$Race" "firstWord" "I" ∈ wsX11_run := by decide +kernel
theorem flX11_run_196 : Cond.fieldLink RX11 196 "BeforeTheEnd$Race" "out" "I" ∈ wsX11_run := by decide +kernel
theorem flX11_run_59 : Cond.fieldLink RX11 59 "BeforeTheEnd" "tree" "LBeforeTheEnd$Tree;" ∈ wsX11_run := by decide +kernel
theorem flX11_run_68 : Cond.fieldLink RX11 68 "BeforeTheEnd" "race" "LBeforeTheEnd$Race;" ∈ wsX11_run := by decide +kernel
theorem hinX11_run_X11 : ∀ w ∈ wsX110, w ∈ wsX11_run := fun _ h => List.mem_cons_of_mem _ (List.mem_append_left _ (List.mem_append_left _ (List.mem_append_left _ (List.mem_append_left _ (List.mem_append_left _ (List.mem_append_left _ (List.mem_append_left _ (List.mem_append_left _ (List.mem_append_right _ h)))))))))
theorem hinX11_run_X6 : ∀ w ∈ wsX60, w ∈ wsX11_run := fun _ h => List.mem_cons_of_mem _ (List.mem_append_left _ (List.mem_append_left _ (List.mem_append_left _ (List.mem_append_left _ (List.mem_append_left _ (List.mem_append_left _ (List.mem_append_left _ (List.mem_append_right _ h))))))))
theorem hinX11_run_X10 : ∀ w ∈ wsX100, w ∈ wsX11_run := fun _ h => List.mem_cons_of_mem _ (List.mem_append_left _ (List.mem_append_left _ (List.mem_append_left _ (List.mem_append_left _ (List.mem_append_left _ (List.mem_append_left _ (List.mem_append_right _ h)))))))
theorem hinX11_run_X0 : ∀ w ∈ wsX00, w ∈ wsX11_run := fun _ h => List.mem_cons_of_mem _ (List.mem_append_left _ (List.mem_append_left _ (List.mem_append_left _ (List.mem_append_left _ (List.mem_append_left _ (List.mem_append_right _ h))))))
theorem hinX11_run_X1 : ∀ w ∈ wsX10, w ∈ wsX11_run := fun _ h => List.mem_cons_of_mem _ (List.mem_append_left _ (List.mem_append_left _ (List.mem_append_left _ (List.mem_append_left _ (List.mem_append_right _ h)))))
theorem hinX11_run_X2 : ∀ w ∈ wsX20, w ∈ wsX11_run := fun _ h => List.mem_cons_of_mem _ (List.mem_append_left _ (List.mem_append_left _ (List.mem_append_left _ (List.mem_append_right _ h))))
theorem hinX11_run_X4 : ∀ w ∈ wsX40, w ∈ wsX11_run := fun _ h => List.mem_cons_of_mem _ (List.mem_append_left _ (List.mem_append_left _ (List.mem_append_right _ h)))
theorem hinX11_run_X7 : ∀ w ∈ wsX70, w ∈ wsX11_run := fun _ h => List.mem_cons_of_mem _ (List.mem_append_left _ (List.mem_append_right _ h))
theorem hinX11_run_X9 : ∀ w ∈ wsX90, w ∈ wsX11_run := fun _ h => List.mem_cons_of_mem _ (List.mem_append_right _ h)
def xX11_run (pT : zM) (pR : zM) (pB : zM) (pP : zP) (v1 : Int32) (v2 : Int32) : Option (Int32 × zM × zM) :=
  (xX10_isEnd pT v1).bind fun q1 =>
  if q1 = 0 then
  ((xX11_refuse pB (-1 : Int32)).bind fun q15 =>
  some (q15.1, pR, q15.2))
  else
  if v2 < 0 then
  ((xX11_refuse pB (-2 : Int32)).bind fun q4 =>
  some (q4.1, pR, q4.2))
  else
  if v2 ≤ (2 : Int32) then
  ((xX10_isWhole pT).bind fun q6 =>
  if q6 = 0 then
  ((xX11_refuse pB (-3 : Int32)).bind fun q13 =>
  some (q13.1, pR, q13.2))
  else
  (xX6_prepare pT pR pP).bind fun q8 =>
  (xX6_runTo pT q8 pP v1).bind fun q9 =>
  if v2 = 0 then
  (some ((q9.1 62 8), q9, pB))
  else
  if v2 = (1 : Int32) then
  (some ((q9.1 62 9), q9, pB))
  else
  (xJ6_bitCount_0f7a4 (q9.1 62 11)).bind fun q12 =>
  some (q12, q9, pB))
  else
  (xX11_refuse pB (-2 : Int32)).bind fun q14 =>
  some (q14.1, pR, q14.2)
set_option maxHeartbeats 4000000 in
set_option maxRecDepth 100000 in
theorem tX11_run {κ : Nat → ClassId} {tg : Nat} {S : zEn} {ad : Nat → Nat} (hEk : zEk (zE tg S)) {pT : zM} {pR : zM} {pX : zM} {pF : zM} {pB : zM} {pP : zP} {v1 : Int32} {v2 : Int32} {res : (Int32 × zM × zM)} (h : xX11_run pT pR pB pP v1 v2 = some res) (l : Launch) (D : va_G) : zCT (zE tg S) D vwCl (zty κ) l yX11_run wsX11_run ({ frames := 6, cells := 0, slots := 0, locals := 141 } : Room) 0 0 [.ref (ad 76), .int v1, .int v2] (zwC κ ad pT pR pX pF pB pP) (zPd (some (.int res.1)) (zwC κ ad pT res.2.1 pX pF res.2.2 pP)) := by
  refine zCT.of (cc := cX11_run) (maxL := 3) (ret := (some .int)) (by decide) rfl (Nat.le_of_ble_eq_true rfl) ?_
  intro X hC hR
  unfold xX11_run at h
  refine zV.sub (lv' := [(0, .ref (ad 76)), (1, .int v1), (2, .int v2)]) [0, 1, 2] rfl ?_
  refine zr_aload_n (pc := 0) hC 0 rfl rfl dX11_run_0 ?_
  refine zcg_76_0 (pc := 1) hC hinX11_run_X11 flX11_run_59 dX11_run_1 ?_
  refine zr_iload_n (pc := 4) hC 1 rfl rfl dX11_run_4 ?_
  obtain ⟨q1, hq1, h⟩ := zbd h
  refine zr_cVi (pc := 5) hC hEk [.int v1] [] 0 1 (fun l D => tX10_isEnd hEk hq1 l D) gX11_run_X10_isEnd rfl rfl rfl ⟨Nat.le_of_ble_eq_true rfl, Nat.le_of_ble_eq_true rfl⟩ hyX10_isEnd (zNC (by decide)) entC_0 rfl rfl rfl (Nat.le_of_ble_eq_true rfl) ⟨Nat.le_of_ble_eq_true rfl, Nat.le_of_ble_eq_true rfl⟩ dX11_run_5 ?_
  refine zr_if_ne (pc := 8) (tgt := 17) hC dX11_run_8 (by decide) (fun c2 => ?_) (fun c2 => ?_)
  · replace h := zin h c2
    refine zr_iload_n (pc := 17) hC 2 rfl rfl dX11_run_17 ?_
    refine zr_if_lt (pc := 18) (tgt := 26) hC dX11_run_18 (by decide) (fun c3 => ?_) (fun c3 => ?_)
    · replace h := zip h c3
      refine zr_aload_n (pc := 26) hC 0 rfl rfl dX11_run_26 ?_
      refine zr_bipush (pc := 27) hC zkb_m2 dX11_run_27 ?_
      obtain ⟨q4, hq4, h⟩ := zbd h
      refine zr_cVi (pc := 29) hC hEk [.int (-2 : Int32)] [] 76 1 (fun l D => tX11_refuse hEk hq4 l D) gX11_run_X11_refuse rfl rfl rfl ⟨Nat.le_of_ble_eq_true rfl, Nat.le_of_ble_eq_true rfl⟩ hyX11_refuse (zNC (by decide)) entC_76 rfl rfl rfl (Nat.le_of_ble_eq_true rfl) ⟨Nat.le_of_ble_eq_true rfl, Nat.le_of_ble_eq_true rfl⟩ dX11_run_29 ?_
      obtain rfl := Option.some.inj h
      exact zr_iret hC hR ⟨rfl, rfl⟩ (Nat.le_refl _) (Nat.le_refl _) dX11_run_32
    · replace h := zin h c3
      refine zr_iload_n (pc := 21) hC 2 rfl rfl dX11_run_21 ?_
      refine zr_iconst (pc := 22) hC zki_2 dX11_run_22 ?_
      refine zr_icmp_le (pc := 23) (tgt := 33) hC dX11_run_23 (by decide) (fun c5 => ?_) (fun c5 => ?_)
      · replace h := zip h c5
        refine zr_aload_n (pc := 33) hC 0 rfl rfl dX11_run_33 ?_
        refine zcg_76_0 (pc := 34) hC hinX11_run_X11 flX11_run_59 dX11_run_34 ?_
        obtain ⟨q6, hq6, h⟩ := zbd h
        refine zr_cVi (pc := 37) hC hEk [] [] 0 0 (fun l D => tX10_isWhole hEk hq6 l D) gX11_run_X10_isWhole rfl rfl rfl ⟨Nat.le_of_ble_eq_true rfl, Nat.le_of_ble_eq_true rfl⟩ hyX10_isWhole (zNC (by decide)) entC_0 rfl rfl rfl (Nat.le_of_ble_eq_true rfl) ⟨Nat.le_of_ble_eq_true rfl, Nat.le_of_ble_eq_true rfl⟩ dX11_run_37 ?_
        refine zr_if_ne (pc := 40) (tgt := 50) hC dX11_run_40 (by decide) (fun c7 => ?_) (fun c7 => ?_)
        · replace h := zin h c7
          refine zr_aload_n (pc := 50) hC 0 rfl rfl dX11_run_50 ?_
          refine zcg_76_1 (pc := 51) hC hinX11_run_X11 flX11_run_68 dX11_run_51 ?_
          obtain ⟨q8, hq8, h⟩ := zbd h
          refine zr_cVv (pc := 54) hC hEk [] [] 62 0 (fun l D => tX6_prepare hEk hq8 l D) gX11_run_X6_prepare rfl rfl rfl ⟨Nat.le_of_ble_eq_true rfl, Nat.le_of_ble_eq_true rfl⟩ hyX6_prepare (zNC (by decide)) entC_62 rfl rfl rfl (Nat.le_of_ble_eq_true rfl) ⟨Nat.le_of_ble_eq_true rfl, Nat.le_of_ble_eq_true rfl⟩ dX11_run_54 ?_
          refine zr_aload_n (pc := 57) hC 0 rfl rfl dX11_run_57 ?_
          refine zcg_76_1 (pc := 58) hC hinX11_run_X11 flX11_run_68 dX11_run_58 ?_
          refine zr_iload_n (pc := 61) hC 1 rfl rfl dX11_run_61 ?_
          obtain ⟨q9, hq9, h⟩ := zbd h
          refine zr_cVv (pc := 62) hC hEk [.int v1] [] 62 1 (fun l D => tX6_runTo hEk hq9 l D) gX11_run_X6_runTo rfl rfl rfl ⟨Nat.le_of_ble_eq_true rfl, Nat.le_of_ble_eq_true rfl⟩ hyX6_runTo (zNC (by decide)) entC_62 rfl rfl rfl (Nat.le_of_ble_eq_true rfl) ⟨Nat.le_of_ble_eq_true rfl, Nat.le_of_ble_eq_true rfl⟩ dX11_run_62 ?_
          refine zr_iload_n (pc := 65) hC 2 rfl rfl dX11_run_65 ?_
          refine zr_if_ne (pc := 66) (tgt := 77) hC dX11_run_66 (by decide) (fun c10 => ?_) (fun c10 => ?_)
          · replace h := zin h c10
            refine zr_iload_n (pc := 77) hC 2 rfl rfl dX11_run_77 ?_
            refine zr_iconst (pc := 78) hC zki_1 dX11_run_78 ?_
            refine zr_icmp_ne (pc := 79) (tgt := 92) hC dX11_run_79 (by decide) (fun c11 => ?_) (fun c11 => ?_)
            · replace h := zin h c11
              refine zr_aload_n (pc := 92) hC 0 rfl rfl dX11_run_92 ?_
              refine zcg_76_1 (pc := 93) hC hinX11_run_X11 flX11_run_68 dX11_run_93 ?_
              refine zcg_62_11 (pc := 96) hC hinX11_run_X6 flX11_run_196 dX11_run_96 ?_
              obtain ⟨q12, hq12, h⟩ := zbd h
              refine zr_cSi (pc := 99) hC hEk [.int (q9.1 62 11)] [] 1 (fun l D => tJ6_bitCount_0f7a4 hEk hq12 l D) gX11_run_J6_bitCount_0f7a4 rfl rfl rfl ⟨Nat.le_of_ble_eq_true rfl, Nat.le_of_ble_eq_true rfl⟩ hyJ6_bitCount_0f7a4 rfl rfl (Nat.le_of_ble_eq_true rfl) ⟨Nat.le_of_ble_eq_true rfl, Nat.le_of_ble_eq_true rfl⟩ dX11_run_99 ?_
              obtain rfl := Option.some.inj h
              exact zr_iret hC hR ⟨rfl, rfl⟩ (Nat.le_refl _) (Nat.le_refl _) dX11_run_102
            · replace h := zip h c11
              refine zr_aload_n (pc := 82) hC 0 rfl rfl dX11_run_82 ?_
              refine zcg_76_1 (pc := 83) hC hinX11_run_X11 flX11_run_68 dX11_run_83 ?_
              refine zcg_62_9 (pc := 86) hC hinX11_run_X6 flX11_run_193 dX11_run_86 ?_
              refine zr_goto (pc := 89) (tgt := 102) hC dX11_run_89 (by decide) ?_
              obtain rfl := Option.some.inj h
              exact zr_iret hC hR ⟨rfl, rfl⟩ (Nat.le_refl _) (Nat.le_refl _) dX11_run_102
          · replace h := zip h c10
            refine zr_aload_n (pc := 69) hC 0 rfl rfl dX11_run_69 ?_
            refine zcg_76_1 (pc := 70) hC hinX11_run_X11 flX11_run_68 dX11_run_70 ?_
            refine zcg_62_8 (pc := 73) hC hinX11_run_X6 flX11_run_190 dX11_run_73 ?_
            obtain rfl := Option.some.inj h
            exact zr_iret hC hR ⟨rfl, rfl⟩ (Nat.le_refl _) (Nat.le_refl _) dX11_run_76
        · replace h := zip h c7
          refine zr_aload_n (pc := 43) hC 0 rfl rfl dX11_run_43 ?_
          refine zr_bipush (pc := 44) hC zkb_m3 dX11_run_44 ?_
          obtain ⟨q13, hq13, h⟩ := zbd h
          refine zr_cVi (pc := 46) hC hEk [.int (-3 : Int32)] [] 76 1 (fun l D => tX11_refuse hEk hq13 l D) gX11_run_X11_refuse rfl rfl rfl ⟨Nat.le_of_ble_eq_true rfl, Nat.le_of_ble_eq_true rfl⟩ hyX11_refuse (zNC (by decide)) entC_76 rfl rfl rfl (Nat.le_of_ble_eq_true rfl) ⟨Nat.le_of_ble_eq_true rfl, Nat.le_of_ble_eq_true rfl⟩ dX11_run_46 ?_
          obtain rfl := Option.some.inj h
          exact zr_iret hC hR ⟨rfl, rfl⟩ (Nat.le_refl _) (Nat.le_refl _) dX11_run_49
      · replace h := zin h c5
        refine zr_aload_n (pc := 26) hC 0 rfl rfl dX11_run_26 ?_
        refine zr_bipush (pc := 27) hC zkb_m2 dX11_run_27 ?_
        obtain ⟨q14, hq14, h⟩ := zbd h
        refine zr_cVi (pc := 29) hC hEk [.int (-2 : Int32)] [] 76 1 (fun l D => tX11_refuse hEk hq14 l D) gX11_run_X11_refuse rfl rfl rfl ⟨Nat.le_of_ble_eq_true rfl, Nat.le_of_ble_eq_true rfl⟩ hyX11_refuse (zNC (by decide)) entC_76 rfl rfl rfl (Nat.le_of_ble_eq_true rfl) ⟨Nat.le_of_ble_eq_true rfl, Nat.le_of_ble_eq_true rfl⟩ dX11_run_29 ?_
        obtain rfl := Option.some.inj h
        exact zr_iret hC hR ⟨rfl, rfl⟩ (Nat.le_refl _) (Nat.le_refl _) dX11_run_32
  · replace h := zip h c2
    refine zr_aload_n (pc := 11) hC 0 rfl rfl dX11_run_11 ?_
    refine zr_iconst (pc := 12) hC zki_m1 dX11_run_12 ?_
    obtain ⟨q15, hq15, h⟩ := zbd h
    refine zr_cVi (pc := 13) hC hEk [.int (-1 : Int32)] [] 76 1 (fun l D => tX11_refuse hEk hq15 l D) gX11_run_X11_refuse rfl rfl rfl ⟨Nat.le_of_ble_eq_true rfl, Nat.le_of_ble_eq_true rfl⟩ hyX11_refuse (zNC (by decide)) entC_76 rfl rfl rfl (Nat.le_of_ble_eq_true rfl) ⟨Nat.le_of_ble_eq_true rfl, Nat.le_of_ble_eq_true rfl⟩ dX11_run_13 ?_
    obtain rfl := Option.some.inj h
    exact zr_iret hC hR ⟨rfl, rfl⟩ (Nat.le_refl _) (Nat.le_refl _) dX11_run_16
/-! X11_meanOf -/
theorem hyX11_meanOf : yX11_meanOf.cls = RX11 ∧ yX11_meanOf.cls ≠ "java/lang/invoke/MethodHandle" ∧ yX11_meanOf.cls ≠ "java/lang/invoke/VarHandle" ∧ (parseMethodDescriptor yX11_meanOf.desc).map (fun d => d.parameters.length) = some 3 := by decide +kernel
theorem flX11_meanOf_59 : Cond.fieldLink RX11 59 "BeforeTheEnd" "tree" "LBeforeTheEnd$Tree;" ∈ wsX11_meanOf := by decide +kernel
theorem flX11_meanOf_68 : Cond.fieldLink RX11 68 "BeforeTheEnd" "race" "LBeforeTheEnd$Race;" ∈ wsX11_meanOf := by decide +kernel
theorem hinX11_meanOf_X11 : ∀ w ∈ wsX110, w ∈ wsX11_meanOf := fun _ h => List.mem_cons_of_mem _ (List.mem_append_left _ (List.mem_append_left _ (List.mem_append_left _ (List.mem_append_left _ (List.mem_append_left _ (List.mem_append_left _ (List.mem_append_left _ (List.mem_append_left _ (List.mem_append_right _ h)))))))))
theorem hinX11_meanOf_X6 : ∀ w ∈ wsX60, w ∈ wsX11_meanOf := fun _ h => List.mem_cons_of_mem _ (List.mem_append_left _ (List.mem_append_left _ (List.mem_append_left _ (List.mem_append_left _ (List.mem_append_left _ (List.mem_append_left _ (List.mem_append_left _ (List.mem_append_right _ h))))))))
theorem hinX11_meanOf_X10 : ∀ w ∈ wsX100, w ∈ wsX11_meanOf := fun _ h => List.mem_cons_of_mem _ (List.mem_append_left _ (List.mem_append_left _ (List.mem_append_left _ (List.mem_append_left _ (List.mem_append_left _ (List.mem_append_left _ (List.mem_append_right _ h)))))))
theorem hinX11_meanOf_X0 : ∀ w ∈ wsX00, w ∈ wsX11_meanOf := fun _ h => List.mem_cons_of_mem _ (List.mem_append_left _ (List.mem_append_left _ (List.mem_append_left _ (List.mem_append_left _ (List.mem_append_left _ (List.mem_append_right _ h))))))
theorem hinX11_meanOf_X1 : ∀ w ∈ wsX10, w ∈ wsX11_meanOf := fun _ h => List.mem_cons_of_mem _ (List.mem_append_left _ (List.mem_append_left _ (List.mem_append_left _ (List.mem_append_left _ (List.mem_append_right _ h)))))
theorem hinX11_meanOf_X2 : ∀ w ∈ wsX20, w ∈ wsX11_meanOf := fun _ h => List.mem_cons_of_mem _ (List.mem_append_left _ (List.mem_append_left _ (List.mem_append_left _ (List.mem_append_right _ h))))
theorem hinX11_meanOf_X4 : ∀ w ∈ wsX40, w ∈ wsX11_meanOf := fun _ h => List.mem_cons_of_mem _ (List.mem_append_left _ (List.mem_append_left _ (List.mem_append_right _ h)))
theorem hinX11_meanOf_X7 : ∀ w ∈ wsX70, w ∈ wsX11_meanOf := fun _ h => List.mem_cons_of_mem _ (List.mem_append_left _ (List.mem_append_right _ h))
theorem hinX11_meanOf_X9 : ∀ w ∈ wsX90, w ∈ wsX11_meanOf := fun _ h => List.mem_cons_of_mem _ (List.mem_append_right _ h)
def xX11_meanOf (pT : zM) (pR : zM) (pB : zM) (pP : zP) (v1 : Int32) (v2 : Int32) (v3 : Int32) : Option (Int64 × zM × zM) :=
  (xX6_playerAt pR pP v2).bind fun q1 =>
  zon q1
  ((xX11_refuseLong pB (-1 : Int32)).bind fun q5 =>
  some (q5.1, pR, q5.2))
  (fun a2 => if pP.2.2.2 ≤ a2 then none else
  (xX11_isNoPart v3).bind fun q6 =>
  if q6 = 0 then
  ((xX10_isWhole pT).bind fun q8 =>
  if q8 = 0 then
  ((xX11_refuseLong pB (-3 : Int32)).bind fun q14 =>
  some (q14.1, pR, q14.2))
  else
  (xX6_prepare pT pR pP).bind fun q10 =>
  (xX6_total pT q10 pP v1 v2).bind fun q11 =>
  (xX10_belowOf pT (0 : Int32)).bind fun q12 =>
  (xX11_leastTerms q11.1 q12 v3).bind fun q13 =>
  some (q13, q11.2, pB))
  else
  (xX11_refuseLong pB (-2 : Int32)).bind fun q15 =>
  some (q15.1, pR, q15.2))
set_option maxHeartbeats 4000000 in
set_option maxRecDepth 100000 in
theorem tX11_meanOf {κ : Nat → ClassId} {tg : Nat} {S : zEn} {ad : Nat → Nat} (hEk : zEk (zE tg S)) {pT : zM} {pR : zM} {pX : zM} {pF : zM} {pB : zM} {pP : zP} {v1 : Int32} {v2 : Int32} {v3 : Int32} {res : (Int64 × zM × zM)} (h : xX11_meanOf pT pR pB pP v1 v2 v3 = some res) (l : Launch) (D : va_G) : zCT (zE tg S) D vwCl (zty κ) l yX11_meanOf wsX11_meanOf ({ frames := 6, cells := 0, slots := 0, locals := 141 } : Room) 0 0 [.ref (ad 76), .int v1, .int v2, .int v3] (zwC κ ad pT pR pX pF pB pP) (zPd (some (.long res.1)) (zwC κ ad pT res.2.1 pX pF res.2.2 pP)) := by
  refine zCT.of (cc := cX11_meanOf) (maxL := 4) (ret := (some .long)) (by decide) rfl (Nat.le_of_ble_eq_true rfl) ?_
  intro X hC hR
  unfold xX11_meanOf at h
  refine zV.sub (lv' := [(0, .ref (ad 76)), (1, .int v1), (2, .int v2), (3, .int v3)]) [0, 1, 2, 3] rfl ?_
  refine zr_aload_n (pc := 0) hC 0 rfl rfl dX11_meanOf_0 ?_
  refine zcg_76_1 (pc := 1) hC hinX11_meanOf_X11 flX11_meanOf_68 dX11_meanOf_1 ?_
  refine zr_iload_n (pc := 4) hC 2 rfl rfl dX11_meanOf_4 ?_
  obtain ⟨q1, hq1, h⟩ := zbd h
  refine zr_cVr (pc := 5) hC hEk [.int v2] [] 62 1 (fun l D => tX6_playerAt hEk hq1 l D) gX11_meanOf_X6_playerAt rfl rfl rfl ⟨Nat.le_of_ble_eq_true rfl, Nat.le_of_ble_eq_true rfl⟩ hyX6_playerAt (zNC (by decide)) entC_62 rfl rfl rfl (Nat.le_of_ble_eq_true rfl) ⟨Nat.le_of_ble_eq_true rfl, Nat.le_of_ble_eq_true rfl⟩ dX11_meanOf_5 ?_
  refine zr_ifnonnullM (pc := 8) (tgt := 17) hC dX11_meanOf_8 (by decide) (fun a2 e3 => ?_) (fun e3 => ?_)
  · replace h := zon_s e3 h
    have h9 := h
    subst e3
    replace h := h9
    clear h9
    obtain ⟨i4, h⟩ := zgd h
    show zV X 0 0 (zwC κ ad pT pR pX pF pB pP) [(0, .ref (ad 76)), (1, .int v1), (2, .int v2), (3, .int v3)] [] 17
    refine zr_iload_n (pc := 17) hC 3 rfl rfl dX11_meanOf_17 ?_
    obtain ⟨q6, hq6, h⟩ := zbd h
    refine zr_cSi (pc := 18) hC hEk [.int v3] [] 1 (fun l D => tX11_isNoPart hEk hq6 l D) gX11_meanOf_X11_isNoPart rfl rfl rfl ⟨Nat.le_of_ble_eq_true rfl, Nat.le_of_ble_eq_true rfl⟩ hyX11_isNoPart rfl rfl (Nat.le_of_ble_eq_true rfl) ⟨Nat.le_of_ble_eq_true rfl, Nat.le_of_ble_eq_true rfl⟩ dX11_meanOf_18 ?_
    refine zr_if_eq (pc := 21) (tgt := 31) hC dX11_meanOf_21 (by decide) (fun c7 => ?_) (fun c7 => ?_)
    · replace h := zip h c7
      refine zr_aload_n (pc := 31) hC 0 rfl rfl dX11_meanOf_31 ?_
      refine zcg_76_0 (pc := 32) hC hinX11_meanOf_X11 flX11_meanOf_59 dX11_meanOf_32 ?_
      obtain ⟨q8, hq8, h⟩ := zbd h
      refine zr_cVi (pc := 35) hC hEk [] [] 0 0 (fun l D => tX10_isWhole hEk hq8 l D) gX11_meanOf_X10_isWhole rfl rfl rfl ⟨Nat.le_of_ble_eq_true rfl, Nat.le_of_ble_eq_true rfl⟩ hyX10_isWhole (zNC (by decide)) entC_0 rfl rfl rfl (Nat.le_of_ble_eq_true rfl) ⟨Nat.le_of_ble_eq_true rfl, Nat.le_of_ble_eq_true rfl⟩ dX11_meanOf_35 ?_
      refine zr_if_ne (pc := 38) (tgt := 48) hC dX11_meanOf_38 (by decide) (fun c9 => ?_) (fun c9 => ?_)
      · replace h := zin h c9
        refine zr_aload_n (pc := 48) hC 0 rfl rfl dX11_meanOf_48 ?_
        refine zcg_76_1 (pc := 49) hC hinX11_meanOf_X11 flX11_meanOf_68 dX11_meanOf_49 ?_
        obtain ⟨q10, hq10, h⟩ := zbd h
        refine zr_cVv (pc := 52) hC hEk [] [] 62 0 (fun l D => tX6_prepare hEk hq10 l D) gX11_meanOf_X6_prepare rfl rfl rfl ⟨Nat.le_of_ble_eq_true rfl, Nat.le_of_ble_eq_true rfl⟩ hyX6_prepare (zNC (by decide)) entC_62 rfl rfl rfl (Nat.le_of_ble_eq_true rfl) ⟨Nat.le_of_ble_eq_true rfl, Nat.le_of_ble_eq_true rfl⟩ dX11_meanOf_52 ?_
        refine zr_aload_n (pc := 55) hC 0 rfl rfl dX11_meanOf_55 ?_
        refine zcg_76_1 (pc := 56) hC hinX11_meanOf_X11 flX11_meanOf_68 dX11_meanOf_56 ?_
        refine zr_iload_n (pc := 59) hC 1 rfl rfl dX11_meanOf_59 ?_
        refine zr_iload_n (pc := 60) hC 2 rfl rfl dX11_meanOf_60 ?_
        obtain ⟨q11, hq11, h⟩ := zbd h
        refine zr_cVl (pc := 61) hC hEk [.int v1, .int v2] [] 62 2 (fun l D => tX6_total hEk hq11 l D) gX11_meanOf_X6_total rfl rfl rfl ⟨Nat.le_of_ble_eq_true rfl, Nat.le_of_ble_eq_true rfl⟩ hyX6_total (zNC (by decide)) entC_62 rfl rfl rfl (Nat.le_of_ble_eq_true rfl) ⟨Nat.le_of_ble_eq_true rfl, Nat.le_of_ble_eq_true rfl⟩ dX11_meanOf_61 ?_
        refine zr_aload_n (pc := 64) hC 0 rfl rfl dX11_meanOf_64 ?_
        refine zcg_76_0 (pc := 65) hC hinX11_meanOf_X11 flX11_meanOf_59 dX11_meanOf_65 ?_
        refine zr_iconst (pc := 68) hC zki_0 dX11_meanOf_68 ?_
        obtain ⟨q12, hq12, h⟩ := zbd h
        refine zr_cVl (pc := 69) hC hEk [.int (0 : Int32)] [.long q11.1] 0 1 (fun l D => tX10_belowOf hEk hq12 l D) gX11_meanOf_X10_belowOf rfl rfl rfl ⟨Nat.le_of_ble_eq_true rfl, Nat.le_of_ble_eq_true rfl⟩ hyX10_belowOf (zNC (by decide)) entC_0 rfl rfl rfl (Nat.le_of_ble_eq_true rfl) ⟨Nat.le_of_ble_eq_true rfl, Nat.le_of_ble_eq_true rfl⟩ dX11_meanOf_69 ?_
        refine zr_iload_n (pc := 72) hC 3 rfl rfl dX11_meanOf_72 ?_
        obtain ⟨q13, hq13, h⟩ := zbd h
        refine zr_cSl (pc := 73) hC hEk [.long q11.1, .long q12, .int v3] [] 3 (fun l D => tX11_leastTerms hEk hq13 l D) gX11_meanOf_X11_leastTerms rfl rfl rfl ⟨Nat.le_of_ble_eq_true rfl, Nat.le_of_ble_eq_true rfl⟩ hyX11_leastTerms rfl rfl (Nat.le_of_ble_eq_true rfl) ⟨Nat.le_of_ble_eq_true rfl, Nat.le_of_ble_eq_true rfl⟩ dX11_meanOf_73 ?_
        obtain rfl := Option.some.inj h
        exact zr_lret hC hR ⟨rfl, rfl⟩ (Nat.le_refl _) (Nat.le_refl _) dX11_meanOf_76
      · replace h := zip h c9
        refine zr_aload_n (pc := 41) hC 0 rfl rfl dX11_meanOf_41 ?_
        refine zr_bipush (pc := 42) hC zkb_m3 dX11_meanOf_42 ?_
        obtain ⟨q14, hq14, h⟩ := zbd h
        refine zr_cVl (pc := 44) hC hEk [.int (-3 : Int32)] [] 76 1 (fun l D => tX11_refuseLong hEk hq14 l D) gX11_meanOf_X11_refuseLong rfl rfl rfl ⟨Nat.le_of_ble_eq_true rfl, Nat.le_of_ble_eq_true rfl⟩ hyX11_refuseLong (zNC (by decide)) entC_76 rfl rfl rfl (Nat.le_of_ble_eq_true rfl) ⟨Nat.le_of_ble_eq_true rfl, Nat.le_of_ble_eq_true rfl⟩ dX11_meanOf_44 ?_
        obtain rfl := Option.some.inj h
        exact zr_lret hC hR ⟨rfl, rfl⟩ (Nat.le_refl _) (Nat.le_refl _) dX11_meanOf_47
    · replace h := zin h c7
      refine zr_aload_n (pc := 24) hC 0 rfl rfl dX11_meanOf_24 ?_
      refine zr_bipush (pc := 25) hC zkb_m2 dX11_meanOf_25 ?_
      obtain ⟨q15, hq15, h⟩ := zbd h
      refine zr_cVl (pc := 27) hC hEk [.int (-2 : Int32)] [] 76 1 (fun l D => tX11_refuseLong hEk hq15 l D) gX11_meanOf_X11_refuseLong rfl rfl rfl ⟨Nat.le_of_ble_eq_true rfl, Nat.le_of_ble_eq_true rfl⟩ hyX11_refuseLong (zNC (by decide)) entC_76 rfl rfl rfl (Nat.le_of_ble_eq_true rfl) ⟨Nat.le_of_ble_eq_true rfl, Nat.le_of_ble_eq_true rfl⟩ dX11_meanOf_27 ?_
      obtain rfl := Option.some.inj h
      exact zr_lret hC hR ⟨rfl, rfl⟩ (Nat.le_refl _) (Nat.le_refl _) dX11_meanOf_30
  · replace h := zon_n e3 h
    have h9 := h
    subst e3
    replace h := h9
    clear h9
    show zV X 0 0 (zwC κ ad pT pR pX pF pB pP) [(0, .ref (ad 76)), (1, .int v1), (2, .int v2), (3, .int v3)] [] 11
    refine zr_aload_n (pc := 11) hC 0 rfl rfl dX11_meanOf_11 ?_
    refine zr_iconst (pc := 12) hC zki_m1 dX11_meanOf_12 ?_
    obtain ⟨q5, hq5, h⟩ := zbd h
    refine zr_cVl (pc := 13) hC hEk [.int (-1 : Int32)] [] 76 1 (fun l D => tX11_refuseLong hEk hq5 l D) gX11_meanOf_X11_refuseLong rfl rfl rfl ⟨Nat.le_of_ble_eq_true rfl, Nat.le_of_ble_eq_true rfl⟩ hyX11_refuseLong (zNC (by decide)) entC_76 rfl rfl rfl (Nat.le_of_ble_eq_true rfl) ⟨Nat.le_of_ble_eq_true rfl, Nat.le_of_ble_eq_true rfl⟩ dX11_meanOf_13 ?_
    obtain rfl := Option.some.inj h
    exact zr_lret hC hR ⟨rfl, rfl⟩ (Nat.le_refl _) (Nat.le_refl _) dX11_meanOf_16
/-! X11_wins -/
theorem hyX11_wins : yX11_wins.cls = RX11 ∧ yX11_wins.cls ≠ "java/lang/invoke/MethodHandle" ∧ yX11_wins.cls ≠ "java/lang/invoke/VarHandle" ∧ (parseMethodDescriptor yX11_wins.desc).map (fun d => d.parameters.length) = some 2 := by decide +kernel
theorem hinX11_wins_X11 : ∀ w ∈ wsX110, w ∈ wsX11_wins := fun _ h => List.mem_cons_of_mem _ (List.mem_append_left _ (List.mem_append_left _ (List.mem_append_left _ (List.mem_append_left _ (List.mem_append_left _ (List.mem_append_left _ (List.mem_append_left _ (List.mem_append_left _ (List.mem_append_right _ h)))))))))
theorem hinX11_wins_X6 : ∀ w ∈ wsX60, w ∈ wsX11_wins := fun _ h => List.mem_cons_of_mem _ (List.mem_append_left _ (List.mem_append_left _ (List.mem_append_left _ (List.mem_append_left _ (List.mem_append_left _ (List.mem_append_left _ (List.mem_append_left _ (List.mem_append_right _ h))))))))
theorem hinX11_wins_X10 : ∀ w ∈ wsX100, w ∈ wsX11_wins := fun _ h => List.mem_cons_of_mem _ (List.mem_append_left _ (List.mem_append_left _ (List.mem_append_left _ (List.mem_append_left _ (List.mem_append_left _ (List.mem_append_left _ (List.mem_append_right _ h)))))))
theorem hinX11_wins_X0 : ∀ w ∈ wsX00, w ∈ wsX11_wins := fun _ h => List.mem_cons_of_mem _ (List.mem_append_left _ (List.mem_append_left _ (List.mem_append_left _ (List.mem_append_left _ (List.mem_append_left _ (List.mem_append_right _ h))))))
theorem hinX11_wins_X1 : ∀ w ∈ wsX10, w ∈ wsX11_wins := fun _ h => List.mem_cons_of_mem _ (List.mem_append_left _ (List.mem_append_left _ (List.mem_append_left _ (List.mem_append_left _ (List.mem_append_right _ h)))))
theorem hinX11_wins_X2 : ∀ w ∈ wsX20, w ∈ wsX11_wins := fun _ h => List.mem_cons_of_mem _ (List.mem_append_left _ (List.mem_append_left _ (List.mem_append_left _ (List.mem_append_right _ h))))
theorem hinX11_wins_X4 : ∀ w ∈ wsX40, w ∈ wsX11_wins := fun _ h => List.mem_cons_of_mem _ (List.mem_append_left _ (List.mem_append_left _ (List.mem_append_right _ h)))
theorem hinX11_wins_X7 : ∀ w ∈ wsX70, w ∈ wsX11_wins := fun _ h => List.mem_cons_of_mem _ (List.mem_append_left _ (List.mem_append_right _ h))
theorem hinX11_wins_X9 : ∀ w ∈ wsX90, w ∈ wsX11_wins := fun _ h => List.mem_cons_of_mem _ (List.mem_append_right _ h)
def xX11_wins (pT : zM) (pR : zM) (pB : zM) (pP : zP) (v1 : Int32) (v2 : Int32) : Option (Int64 × zM × zM) :=
  (xX11_meanOf pT pR pB pP (0 : Int32) v1 v2).bind fun q1 =>
  some (q1.1, q1.2.1, q1.2.2)
set_option maxHeartbeats 4000000 in
set_option maxRecDepth 100000 in
theorem tX11_wins {κ : Nat → ClassId} {tg : Nat} {S : zEn} {ad : Nat → Nat} (hEk : zEk (zE tg S)) {pT : zM} {pR : zM} {pX : zM} {pF : zM} {pB : zM} {pP : zP} {v1 : Int32} {v2 : Int32} {res : (Int64 × zM × zM)} (h : xX11_wins pT pR pB pP v1 v2 = some res) (l : Launch) (D : va_G) : zCT (zE tg S) D vwCl (zty κ) l yX11_wins wsX11_wins ({ frames := 7, cells := 0, slots := 0, locals := 164 } : Room) 0 0 [.ref (ad 76), .int v1, .int v2] (zwC κ ad pT pR pX pF pB pP) (zPd (some (.long res.1)) (zwC κ ad pT res.2.1 pX pF res.2.2 pP)) := by
  refine zCT.of (cc := cX11_wins) (maxL := 3) (ret := (some .long)) (by decide) rfl (Nat.le_of_ble_eq_true rfl) ?_
  intro X hC hR
  unfold xX11_wins at h
  refine zV.sub (lv' := [(0, .ref (ad 76)), (1, .int v1), (2, .int v2)]) [0, 1, 2] rfl ?_
  refine zr_aload_n (pc := 0) hC 0 rfl rfl dX11_wins_0 ?_
  refine zr_iconst (pc := 1) hC zki_0 dX11_wins_1 ?_
  refine zr_iload_n (pc := 2) hC 1 rfl rfl dX11_wins_2 ?_
  refine zr_iload_n (pc := 3) hC 2 rfl rfl dX11_wins_3 ?_
  obtain ⟨q1, hq1, h⟩ := zbd h
  refine zr_cVl (pc := 4) hC hEk [.int (0 : Int32), .int v1, .int v2] [] 76 3 (fun l D => tX11_meanOf hEk hq1 l D) gX11_wins_X11_meanOf rfl rfl rfl ⟨Nat.le_of_ble_eq_true rfl, Nat.le_of_ble_eq_true rfl⟩ hyX11_meanOf (zNC (by decide)) entC_76 rfl rfl rfl (Nat.le_of_ble_eq_true rfl) ⟨Nat.le_of_ble_eq_true rfl, Nat.le_of_ble_eq_true rfl⟩ dX11_wins_4 ?_
  obtain rfl := Option.some.inj h
  exact zr_lret hC hR ⟨rfl, rfl⟩ (Nat.le_refl _) (Nat.le_refl _) dX11_wins_7
/-! X11_worth -/
theorem hyX11_worth : yX11_worth.cls = RX11 ∧ yX11_worth.cls ≠ "java/lang/invoke/MethodHandle" ∧ yX11_worth.cls ≠ "java/lang/invoke/VarHandle" ∧ (parseMethodDescriptor yX11_worth.desc).map (fun d => d.parameters.length) = some 2 := by decide +kernel
theorem hinX11_worth_X11 : ∀ w ∈ wsX110, w ∈ wsX11_worth := fun _ h => List.mem_cons_of_mem _ (List.mem_append_left _ (List.mem_append_left _ (List.mem_append_left _ (List.mem_append_left _ (List.mem_append_left _ (List.mem_append_left _ (List.mem_append_left _ (List.mem_append_left _ (List.mem_append_right _ h)))))))))
theorem hinX11_worth_X6 : ∀ w ∈ wsX60, w ∈ wsX11_worth := fun _ h => List.mem_cons_of_mem _ (List.mem_append_left _ (List.mem_append_left _ (List.mem_append_left _ (List.mem_append_left _ (List.mem_append_left _ (List.mem_append_left _ (List.mem_append_left _ (List.mem_append_right _ h))))))))
theorem hinX11_worth_X10 : ∀ w ∈ wsX100, w ∈ wsX11_worth := fun _ h => List.mem_cons_of_mem _ (List.mem_append_left _ (List.mem_append_left _ (List.mem_append_left _ (List.mem_append_left _ (List.mem_append_left _ (List.mem_append_left _ (List.mem_append_right _ h)))))))
theorem hinX11_worth_X0 : ∀ w ∈ wsX00, w ∈ wsX11_worth := fun _ h => List.mem_cons_of_mem _ (List.mem_append_left _ (List.mem_append_left _ (List.mem_append_left _ (List.mem_append_left _ (List.mem_append_left _ (List.mem_append_right _ h))))))
theorem hinX11_worth_X1 : ∀ w ∈ wsX10, w ∈ wsX11_worth := fun _ h => List.mem_cons_of_mem _ (List.mem_append_left _ (List.mem_append_left _ (List.mem_append_left _ (List.mem_append_left _ (List.mem_append_right _ h)))))
theorem hinX11_worth_X2 : ∀ w ∈ wsX20, w ∈ wsX11_worth := fun _ h => List.mem_cons_of_mem _ (List.mem_append_left _ (List.mem_append_left _ (List.mem_append_left _ (List.mem_append_right _ h))))
theorem hinX11_worth_X4 : ∀ w ∈ wsX40, w ∈ wsX11_worth := fun _ h => List.mem_cons_of_mem _ (List.mem_append_left _ (List.mem_append_left _ (List.mem_append_right _ h)))
theorem hinX11_worth_X7 : ∀ w ∈ wsX70, w ∈ wsX11_worth := fun _ h => List.mem_cons_of_mem _ (List.mem_append_left _ (List.mem_append_right _ h))
theorem hinX11_worth_X9 : ∀ w ∈ wsX90, w ∈ wsX11_worth := fun _ h => List.mem_cons_of_mem _ (List.mem_append_right _ h)
def xX11_worth (pT : zM) (pR : zM) (pB : zM) (pP : zP) (v1 : Int32) (v2 : Int32) : Option (Int64 × zM × zM) :=
  (xX11_meanOf pT pR pB pP (1 : Int32) v1 v2).bind fun q1 =>
  some (q1.1, q1.2.1, q1.2.2)
set_option maxHeartbeats 4000000 in
set_option maxRecDepth 100000 in
theorem tX11_worth {κ : Nat → ClassId} {tg : Nat} {S : zEn} {ad : Nat → Nat} (hEk : zEk (zE tg S)) {pT : zM} {pR : zM} {pX : zM} {pF : zM} {pB : zM} {pP : zP} {v1 : Int32} {v2 : Int32} {res : (Int64 × zM × zM)} (h : xX11_worth pT pR pB pP v1 v2 = some res) (l : Launch) (D : va_G) : zCT (zE tg S) D vwCl (zty κ) l yX11_worth wsX11_worth ({ frames := 7, cells := 0, slots := 0, locals := 164 } : Room) 0 0 [.ref (ad 76), .int v1, .int v2] (zwC κ ad pT pR pX pF pB pP) (zPd (some (.long res.1)) (zwC κ ad pT res.2.1 pX pF res.2.2 pP)) := by
  refine zCT.of (cc := cX11_worth) (maxL := 3) (ret := (some .long)) (by decide) rfl (Nat.le_of_ble_eq_true rfl) ?_
  intro X hC hR
  unfold xX11_worth at h
  refine zV.sub (lv' := [(0, .ref (ad 76)), (1, .int v1), (2, .int v2)]) [0, 1, 2] rfl ?_
  refine zr_aload_n (pc := 0) hC 0 rfl rfl dX11_worth_0 ?_
  refine zr_iconst (pc := 1) hC zki_1 dX11_worth_1 ?_
  refine zr_iload_n (pc := 2) hC 1 rfl rfl dX11_worth_2 ?_
  refine zr_iload_n (pc := 3) hC 2 rfl rfl dX11_worth_3 ?_
  obtain ⟨q1, hq1, h⟩ := zbd h
  refine zr_cVl (pc := 4) hC hEk [.int (1 : Int32), .int v1, .int v2] [] 76 3 (fun l D => tX11_meanOf hEk hq1 l D) gX11_worth_X11_meanOf rfl rfl rfl ⟨Nat.le_of_ble_eq_true rfl, Nat.le_of_ble_eq_true rfl⟩ hyX11_meanOf (zNC (by decide)) entC_76 rfl rfl rfl (Nat.le_of_ble_eq_true rfl) ⟨Nat.le_of_ble_eq_true rfl, Nat.le_of_ble_eq_true rfl⟩ dX11_worth_4 ?_
  obtain rfl := Option.some.inj h
  exact zr_lret hC hR ⟨rfl, rfl⟩ (Nat.le_refl _) (Nat.le_refl _) dX11_worth_7
/-! X11_nobody -/
theorem hyX11_nobody : yX11_nobody.cls = RX11 ∧ yX11_nobody.cls ≠ "java/lang/invoke/MethodHandle" ∧ yX11_nobody.cls ≠ "java/lang/invoke/VarHandle" ∧ (parseMethodDescriptor yX11_nobody.desc).map (fun d => d.parameters.length) = some 1 := by decide +kernel
theorem flX11_nobody_59 : Cond.fieldLink RX11 59 "BeforeTheEnd" "tree" "LBeforeTheEnd$Tree;" ∈ wsX11_nobody := by decide +kernel
theorem flX11_nobody_68 : Cond.fieldLink RX11 68 "BeforeTheEnd" "race" "LBeforeTheEnd$Race;" ∈ wsX11_nobody := by decide +kernel
theorem hinX11_nobody_X11 : ∀ w ∈ wsX110, w ∈ wsX11_nobody := fun _ h => List.mem_cons_of_mem _ (List.mem_append_left _ (List.mem_append_left _ (List.mem_append_left _ (List.mem_append_left _ (List.mem_append_left _ (List.mem_append_left _ (List.mem_append_left _ (List.mem_append_left _ (List.mem_append_right _ h)))))))))
theorem hinX11_nobody_X10 : ∀ w ∈ wsX100, w ∈ wsX11_nobody := fun _ h => List.mem_cons_of_mem _ (List.mem_append_left _ (List.mem_append_left _ (List.mem_append_left _ (List.mem_append_left _ (List.mem_append_left _ (List.mem_append_left _ (List.mem_append_left _ (List.mem_append_right _ h))))))))
theorem hinX11_nobody_X6 : ∀ w ∈ wsX60, w ∈ wsX11_nobody := fun _ h => List.mem_cons_of_mem _ (List.mem_append_left _ (List.mem_append_left _ (List.mem_append_left _ (List.mem_append_left _ (List.mem_append_left _ (List.mem_append_left _ (List.mem_append_right _ h)))))))
theorem hinX11_nobody_X0 : ∀ w ∈ wsX00, w ∈ wsX11_nobody := fun _ h => List.mem_cons_of_mem _ (List.mem_append_left _ (List.mem_append_left _ (List.mem_append_left _ (List.mem_append_left _ (List.mem_append_left _ (List.mem_append_right _ h))))))
theorem hinX11_nobody_X1 : ∀ w ∈ wsX10, w ∈ wsX11_nobody := fun _ h => List.mem_cons_of_mem _ (List.mem_append_left _ (List.mem_append_left _ (List.mem_append_left _ (List.mem_append_left _ (List.mem_append_right _ h)))))
theorem hinX11_nobody_X2 : ∀ w ∈ wsX20, w ∈ wsX11_nobody := fun _ h => List.mem_cons_of_mem _ (List.mem_append_left _ (List.mem_append_left _ (List.mem_append_left _ (List.mem_append_right _ h))))
theorem hinX11_nobody_X4 : ∀ w ∈ wsX40, w ∈ wsX11_nobody := fun _ h => List.mem_cons_of_mem _ (List.mem_append_left _ (List.mem_append_left _ (List.mem_append_right _ h)))
theorem hinX11_nobody_X7 : ∀ w ∈ wsX70, w ∈ wsX11_nobody := fun _ h => List.mem_cons_of_mem _ (List.mem_append_left _ (List.mem_append_right _ h))
theorem hinX11_nobody_X9 : ∀ w ∈ wsX90, w ∈ wsX11_nobody := fun _ h => List.mem_cons_of_mem _ (List.mem_append_right _ h)
def xX11_nobody (pT : zM) (pR : zM) (pB : zM) (pP : zP) (v1 : Int32) : Option (Int64 × zM × zM) :=
  (xX11_isNoPart v1).bind fun q1 =>
  if q1 = 0 then
  ((xX10_isWhole pT).bind fun q3 =>
  if q3 = 0 then
  ((xX11_refuseLong pB (-3 : Int32)).bind fun q9 =>
  some (q9.1, pR, q9.2))
  else
  (xX6_prepare pT pR pP).bind fun q5 =>
  (xX6_total pT q5 pP (2 : Int32) (-9 : Int32)).bind fun q6 =>
  (xX10_belowOf pT (0 : Int32)).bind fun q7 =>
  (xX11_leastTerms q6.1 q7 v1).bind fun q8 =>
  some (q8, q6.2, pB))
  else
  (xX11_refuseLong pB (-2 : Int32)).bind fun q10 =>
  some (q10.1, pR, q10.2)
set_option maxHeartbeats 4000000 in
set_option maxRecDepth 100000 in
theorem tX11_nobody {κ : Nat → ClassId} {tg : Nat} {S : zEn} {ad : Nat → Nat} (hEk : zEk (zE tg S)) {pT : zM} {pR : zM} {pX : zM} {pF : zM} {pB : zM} {pP : zP} {v1 : Int32} {res : (Int64 × zM × zM)} (h : xX11_nobody pT pR pB pP v1 = some res) (l : Launch) (D : va_G) : zCT (zE tg S) D vwCl (zty κ) l yX11_nobody wsX11_nobody ({ frames := 6, cells := 0, slots := 0, locals := 141 } : Room) 0 0 [.ref (ad 76), .int v1] (zwC κ ad pT pR pX pF pB pP) (zPd (some (.long res.1)) (zwC κ ad pT res.2.1 pX pF res.2.2 pP)) := by
  refine zCT.of (cc := cX11_nobody) (maxL := 2) (ret := (some .long)) (by decide) rfl (Nat.le_of_ble_eq_true rfl) ?_
  intro X hC hR
  unfold xX11_nobody at h
  refine zV.sub (lv' := [(0, .ref (ad 76)), (1, .int v1)]) [0, 1] rfl ?_
  refine zr_iload_n (pc := 0) hC 1 rfl rfl dX11_nobody_0 ?_
  obtain ⟨q1, hq1, h⟩ := zbd h
  refine zr_cSi (pc := 1) hC hEk [.int v1] [] 1 (fun l D => tX11_isNoPart hEk hq1 l D) gX11_nobody_X11_isNoPart rfl rfl rfl ⟨Nat.le_of_ble_eq_true rfl, Nat.le_of_ble_eq_true rfl⟩ hyX11_isNoPart rfl rfl (Nat.le_of_ble_eq_true rfl) ⟨Nat.le_of_ble_eq_true rfl, Nat.le_of_ble_eq_true rfl⟩ dX11_nobody_1 ?_
  refine zr_if_eq (pc := 4) (tgt := 14) hC dX11_nobody_4 (by decide) (fun c2 => ?_) (fun c2 => ?_)
  · replace h := zip h c2
    refine zr_aload_n (pc := 14) hC 0 rfl rfl dX11_nobody_14 ?_
    refine zcg_76_0 (pc := 15) hC hinX11_nobody_X11 flX11_nobody_59 dX11_nobody_15 ?_
    obtain ⟨q3, hq3, h⟩ := zbd h
    refine zr_cVi (pc := 18) hC hEk [] [] 0 0 (fun l D => tX10_isWhole hEk hq3 l D) gX11_nobody_X10_isWhole rfl rfl rfl ⟨Nat.le_of_ble_eq_true rfl, Nat.le_of_ble_eq_true rfl⟩ hyX10_isWhole (zNC (by decide)) entC_0 rfl rfl rfl (Nat.le_of_ble_eq_true rfl) ⟨Nat.le_of_ble_eq_true rfl, Nat.le_of_ble_eq_true rfl⟩ dX11_nobody_18 ?_
    refine zr_if_ne (pc := 21) (tgt := 31) hC dX11_nobody_21 (by decide) (fun c4 => ?_) (fun c4 => ?_)
    · replace h := zin h c4
      refine zr_aload_n (pc := 31) hC 0 rfl rfl dX11_nobody_31 ?_
      refine zcg_76_1 (pc := 32) hC hinX11_nobody_X11 flX11_nobody_68 dX11_nobody_32 ?_
      obtain ⟨q5, hq5, h⟩ := zbd h
      refine zr_cVv (pc := 35) hC hEk [] [] 62 0 (fun l D => tX6_prepare hEk hq5 l D) gX11_nobody_X6_prepare rfl rfl rfl ⟨Nat.le_of_ble_eq_true rfl, Nat.le_of_ble_eq_true rfl⟩ hyX6_prepare (zNC (by decide)) entC_62 rfl rfl rfl (Nat.le_of_ble_eq_true rfl) ⟨Nat.le_of_ble_eq_true rfl, Nat.le_of_ble_eq_true rfl⟩ dX11_nobody_35 ?_
      refine zr_aload_n (pc := 38) hC 0 rfl rfl dX11_nobody_38 ?_
      refine zcg_76_1 (pc := 39) hC hinX11_nobody_X11 flX11_nobody_68 dX11_nobody_39 ?_
      refine zr_iconst (pc := 42) hC zki_2 dX11_nobody_42 ?_
      refine zr_bipush (pc := 43) hC zkb_m9 dX11_nobody_43 ?_
      obtain ⟨q6, hq6, h⟩ := zbd h
      refine zr_cVl (pc := 45) hC hEk [.int (2 : Int32), .int (-9 : Int32)] [] 62 2 (fun l D => tX6_total hEk hq6 l D) gX11_nobody_X6_total rfl rfl rfl ⟨Nat.le_of_ble_eq_true rfl, Nat.le_of_ble_eq_true rfl⟩ hyX6_total (zNC (by decide)) entC_62 rfl rfl rfl (Nat.le_of_ble_eq_true rfl) ⟨Nat.le_of_ble_eq_true rfl, Nat.le_of_ble_eq_true rfl⟩ dX11_nobody_45 ?_
      refine zr_aload_n (pc := 48) hC 0 rfl rfl dX11_nobody_48 ?_
      refine zcg_76_0 (pc := 49) hC hinX11_nobody_X11 flX11_nobody_59 dX11_nobody_49 ?_
      refine zr_iconst (pc := 52) hC zki_0 dX11_nobody_52 ?_
      obtain ⟨q7, hq7, h⟩ := zbd h
      refine zr_cVl (pc := 53) hC hEk [.int (0 : Int32)] [.long q6.1] 0 1 (fun l D => tX10_belowOf hEk hq7 l D) gX11_nobody_X10_belowOf rfl rfl rfl ⟨Nat.le_of_ble_eq_true rfl, Nat.le_of_ble_eq_true rfl⟩ hyX10_belowOf (zNC (by decide)) entC_0 rfl rfl rfl (Nat.le_of_ble_eq_true rfl) ⟨Nat.le_of_ble_eq_true rfl, Nat.le_of_ble_eq_true rfl⟩ dX11_nobody_53 ?_
      refine zr_iload_n (pc := 56) hC 1 rfl rfl dX11_nobody_56 ?_
      obtain ⟨q8, hq8, h⟩ := zbd h
      refine zr_cSl (pc := 57) hC hEk [.long q6.1, .long q7, .int v1] [] 3 (fun l D => tX11_leastTerms hEk hq8 l D) gX11_nobody_X11_leastTerms rfl rfl rfl ⟨Nat.le_of_ble_eq_true rfl, Nat.le_of_ble_eq_true rfl⟩ hyX11_leastTerms rfl rfl (Nat.le_of_ble_eq_true rfl) ⟨Nat.le_of_ble_eq_true rfl, Nat.le_of_ble_eq_true rfl⟩ dX11_nobody_57 ?_
      obtain rfl := Option.some.inj h
      exact zr_lret hC hR ⟨rfl, rfl⟩ (Nat.le_refl _) (Nat.le_refl _) dX11_nobody_60
    · replace h := zip h c4
      refine zr_aload_n (pc := 24) hC 0 rfl rfl dX11_nobody_24 ?_
      refine zr_bipush (pc := 25) hC zkb_m3 dX11_nobody_25 ?_
      obtain ⟨q9, hq9, h⟩ := zbd h
      refine zr_cVl (pc := 27) hC hEk [.int (-3 : Int32)] [] 76 1 (fun l D => tX11_refuseLong hEk hq9 l D) gX11_nobody_X11_refuseLong rfl rfl rfl ⟨Nat.le_of_ble_eq_true rfl, Nat.le_of_ble_eq_true rfl⟩ hyX11_refuseLong (zNC (by decide)) entC_76 rfl rfl rfl (Nat.le_of_ble_eq_true rfl) ⟨Nat.le_of_ble_eq_true rfl, Nat.le_of_ble_eq_true rfl⟩ dX11_nobody_27 ?_
      obtain rfl := Option.some.inj h
      exact zr_lret hC hR ⟨rfl, rfl⟩ (Nat.le_refl _) (Nat.le_refl _) dX11_nobody_30
  · replace h := zin h c2
    refine zr_aload_n (pc := 7) hC 0 rfl rfl dX11_nobody_7 ?_
    refine zr_bipush (pc := 8) hC zkb_m2 dX11_nobody_8 ?_
    obtain ⟨q10, hq10, h⟩ := zbd h
    refine zr_cVl (pc := 10) hC hEk [.int (-2 : Int32)] [] 76 1 (fun l D => tX11_refuseLong hEk hq10 l D) gX11_nobody_X11_refuseLong rfl rfl rfl ⟨Nat.le_of_ble_eq_true rfl, Nat.le_of_ble_eq_true rfl⟩ hyX11_refuseLong (zNC (by decide)) entC_76 rfl rfl rfl (Nat.le_of_ble_eq_true rfl) ⟨Nat.le_of_ble_eq_true rfl, Nat.le_of_ble_eq_true rfl⟩ dX11_nobody_10 ?_
    obtain rfl := Option.some.inj h
    exact zr_lret hC hR ⟨rfl, rfl⟩ (Nat.le_refl _) (Nat.le_refl _) dX11_nobody_13
