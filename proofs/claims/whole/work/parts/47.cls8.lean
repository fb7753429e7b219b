/-! X11_dull -/
theorem hyX11_dull : yX11_dull.cls = RX11 ∧ yX11_dull.cls ≠ "java/lang/invoke/MethodHandle" ∧ yX11_dull.cls ≠ "java/lang/invoke/VarHandle" ∧ (parseMethodDescriptor yX11_dull.desc).map (fun d => d.parameters.length) = some 1 := by decide +kernel
theorem flX11_dull_59 : Cond.fieldLink RX11 59 "BeforeTheEnd" "tree" "LBeforeTheEnd$Tree;" ∈ wsX11_dull := by decide +kernel
theorem flX11_dull_68 : Cond.fieldLink RX11 68 "BeforeTheEnd" "race" "LBeforeTheEnd$Race;" ∈ wsX11_dull := by decide +kernel
theorem hinX11_dull_X11 : ∀ w ∈ wsX110, w ∈ wsX11_dull := fun _ h => List.mem_cons_of_mem _ (List.mem_append_left _ (List.mem_append_left _ (List.mem_append_left _ (List.mem_append_left _ (List.mem_append_left _ (List.mem_append_left _ (List.mem_append_left _ (List.mem_append_left _ (List.mem_append_right _ h)))))))))
theorem hinX11_dull_X10 : ∀ w ∈ wsX100, w ∈ wsX11_dull := fun _ h => List.mem_cons_of_mem _ (List.mem_append_left _ (List.mem_append_left _ (List.mem_append_left _ (List.mem_append_left _ (List.mem_append_left _ (List.mem_append_left _ (List.mem_append_left _ (List.mem_append_right _ h))))))))
theorem hinX11_dull_X6 : ∀ w ∈ wsX60, w ∈ wsX11_dull := fun _ h => List.mem_cons_of_mem _ (List.mem_append_left _ (List.mem_append_left _ (List.mem_append_left _ (List.mem_append_left _ (List.mem_append_left _ (List.mem_append_left _ (List.mem_append_right _ h)))))))
theorem hinX11_dull_X0 : ∀ w ∈ wsX00, w ∈ wsX11_dull := fun _ h => List.mem_cons_of_mem _ (List.mem_append_left _ (List.mem_append_left _ (List.mem_append_left _ (List.mem_append_left _ (List.mem_append_left _ (List.mem_append_right _ h))))))
theorem hinX11_dull_X1 : ∀ w ∈ wsX10, w ∈ wsX11_dull := fun _ h => List.mem_cons_of_mem _ (List.mem_append_left _ (List.mem_append_left _ (List.mem_append_left _ (List.mem_append_left _ (List.mem_append_right _ h)))))
theorem hinX11_dull_X2 : ∀ w ∈ wsX20, w ∈ wsX11_dull := fun _ h => List.mem_cons_of_mem _ (List.mem_append_left _ (List.mem_append_left _ (List.mem_append_left _ (List.mem_append_right _ h))))
theorem hinX11_dull_X4 : ∀ w ∈ wsX40, w ∈ wsX11_dull := fun _ h => List.mem_cons_of_mem _ (List.mem_append_left _ (List.mem_append_left _ (List.mem_append_right _ h)))
theorem hinX11_dull_X7 : ∀ w ∈ wsX70, w ∈ wsX11_dull := fun _ h => List.mem_cons_of_mem _ (List.mem_append_left _ (List.mem_append_right _ h))
theorem hinX11_dull_X9 : ∀ w ∈ wsX90, w ∈ wsX11_dull := fun _ h => List.mem_cons_of_mem _ (List.mem_append_right _ h)
def xX11_dull (pT : zM) (pR : zM) (pB : zM) (pP : zP) (v1 : Int32) : Option (Int64 × zM × zM) :=
  (xX11_isNoPart v1).bind fun q1 =>
  if q1 = 0 then
  ((xX10_isWhole pT).bind fun q3 =>
  if q3 = 0 then
  ((xX11_refuseLong pB (-3 : Int32)).bind fun q9 =>
  some (q9.1, pR, q9.2))
  else
  (xX6_prepare pT pR pP).bind fun q5 =>
  (xX6_dullTotal pT q5).bind fun q6 =>
  (xX10_belowOf pT (0 : Int32)).bind fun q7 =>
  (xX11_leastTerms q6 q7 v1).bind fun q8 =>
  some (q8, q5, pB))
  else
  (xX11_refuseLong pB (-2 : Int32)).bind fun q10 =>
  some (q10.1, pR, q10.2)
set_option maxHeartbeats 4000000 in
set_option maxRecDepth 100000 in
theorem tX11_dull {κ : Nat → ClassId} {tg : Nat} {S : zEn} {ad : Nat → Nat} (hEk : zEk (zE tg S)) {pT : zM} {pR : zM} {pX : zM} {pF : zM} {pB : zM} {pP : zP} {v1 : Int32} {res : (Int64 × zM × zM)} (h : xX11_dull pT pR pB pP v1 = some res) (l : Launch) (D : va_G) : zCT (zE tg S) D vwCl (zty κ) l yX11_dull wsX11_dull ({ frames := 6, cells := 0, slots := 0, locals := 141 } : Room) 0 0 [.ref (ad 76), .int v1] (zwC κ ad pT pR pX pF pB pP) (zPd (some (.long res.1)) (zwC κ ad pT res.2.1 pX pF res.2.2 pP)) := by
  refine zCT.of (cc := cX11_dull) (maxL := 2) (ret := (some .long)) (by decide) rfl (Nat.le_of_ble_eq_true rfl) ?_
  intro X hC hR
  unfold xX11_dull at h
  refine zV.sub (lv' := [(0, .ref (ad 76)), (1, .int v1)]) [0, 1] rfl ?_
  refine zr_iload_n (pc := 0) hC 1 rfl rfl dX11_dull_0 ?_
  obtain ⟨q1, hq1, h⟩ := zbd h
  refine zr_cSi (pc := 1) hC hEk [.int v1] [] 1 (fun l D => tX11_isNoPart hEk hq1 l D) gX11_dull_X11_isNoPart rfl rfl rfl ⟨Nat.le_of_ble_eq_true rfl, Nat.le_of_ble_eq_true rfl⟩ hyX11_isNoPart rfl rfl (Nat.le_of_ble_eq_true rfl) ⟨Nat.le_of_ble_eq_true rfl, Nat.le_of_ble_eq_true rfl⟩ dX11_dull_1 ?_
  refine zr_if_eq (pc := 4) (tgt := 14) hC dX11_dull_4 (by decide) (fun c2 => ?_) (fun c2 => ?_)
  · replace h := zip h c2
    refine zr_aload_n (pc := 14) hC 0 rfl rfl dX11_dull_14 ?_
    refine zcg_76_0 (pc := 15) hC hinX11_dull_X11 flX11_dull_59 dX11_dull_15 ?_
    obtain ⟨q3, hq3, h⟩ := zbd h
    refine zr_cVi (pc := 18) hC hEk [] [] 0 0 (fun l D => tX10_isWhole hEk hq3 l D) gX11_dull_X10_isWhole rfl rfl rfl ⟨Nat.le_of_ble_eq_true rfl, Nat.le_of_ble_eq_true rfl⟩ hyX10_isWhole (zNC (by decide)) entC_0 rfl rfl rfl (Nat.le_of_ble_eq_true rfl) ⟨Nat.le_of_ble_eq_true rfl, Nat.le_of_ble_eq_true rfl⟩ dX11_dull_18 ?_
    refine zr_if_ne (pc := 21) (tgt := 31) hC dX11_dull_21 (by decide) (fun c4 => ?_) (fun c4 => ?_)
    · replace h := zin h c4
      refine zr_aload_n (pc := 31) hC 0 rfl rfl dX11_dull_31 ?_
      refine zcg_76_1 (pc := 32) hC hinX11_dull_X11 flX11_dull_68 dX11_dull_32 ?_
      obtain ⟨q5, hq5, h⟩ := zbd h
      refine zr_cVv (pc := 35) hC hEk [] [] 62 0 (fun l D => tX6_prepare hEk hq5 l D) gX11_dull_X6_prepare rfl rfl rfl ⟨Nat.le_of_ble_eq_true rfl, Nat.le_of_ble_eq_true rfl⟩ hyX6_prepare (zNC (by decide)) entC_62 rfl rfl rfl (Nat.le_of_ble_eq_true rfl) ⟨Nat.le_of_ble_eq_true rfl, Nat.le_of_ble_eq_true rfl⟩ dX11_dull_35 ?_
      refine zr_aload_n (pc := 38) hC 0 rfl rfl dX11_dull_38 ?_
      refine zcg_76_1 (pc := 39) hC hinX11_dull_X11 flX11_dull_68 dX11_dull_39 ?_
      obtain ⟨q6, hq6, h⟩ := zbd h
      refine zr_cVl (pc := 42) hC hEk [] [] 62 0 (fun l D => tX6_dullTotal hEk hq6 l D) gX11_dull_X6_dullTotal rfl rfl rfl ⟨Nat.le_of_ble_eq_true rfl, Nat.le_of_ble_eq_true rfl⟩ hyX6_dullTotal (zNC (by decide)) entC_62 rfl rfl rfl (Nat.le_of_ble_eq_true rfl) ⟨Nat.le_of_ble_eq_true rfl, Nat.le_of_ble_eq_true rfl⟩ dX11_dull_42 ?_
      refine zr_aload_n (pc := 45) hC 0 rfl rfl dX11_dull_45 ?_
      refine zcg_76_0 (pc := 46) hC hinX11_dull_X11 flX11_dull_59 dX11_dull_46 ?_
      refine zr_iconst (pc := 49) hC zki_0 dX11_dull_49 ?_
      obtain ⟨q7, hq7, h⟩ := zbd h
      refine zr_cVl (pc := 50) hC hEk [.int (0 : Int32)] [.long q6] 0 1 (fun l D => tX10_belowOf hEk hq7 l D) gX11_dull_X10_belowOf rfl rfl rfl ⟨Nat.le_of_ble_eq_true rfl, Nat.le_of_ble_eq_true rfl⟩ hyX10_belowOf (zNC (by decide)) entC_0 rfl rfl rfl (Nat.le_of_ble_eq_true rfl) ⟨Nat.le_of_ble_eq_true rfl, Nat.le_of_ble_eq_true rfl⟩ dX11_dull_50 ?_
      refine zr_iload_n (pc := 53) hC 1 rfl rfl dX11_dull_53 ?_
      obtain ⟨q8, hq8, h⟩ := zbd h
      refine zr_cSl (pc := 54) hC hEk [.long q6, .long q7, .int v1] [] 3 (fun l D => tX11_leastTerms hEk hq8 l D) gX11_dull_X11_leastTerms rfl rfl rfl ⟨Nat.le_of_ble_eq_true rfl, Nat.le_of_ble_eq_true rfl⟩ hyX11_leastTerms rfl rfl (Nat.le_of_ble_eq_true rfl) ⟨Nat.le_of_ble_eq_true rfl, Nat.le_of_ble_eq_true rfl⟩ dX11_dull_54 ?_
      obtain rfl := Option.some.inj h
      exact zr_lret hC hR ⟨rfl, rfl⟩ (Nat.le_refl _) (Nat.le_refl _) dX11_dull_57
    · replace h := zip h c4
      refine zr_aload_n (pc := 24) hC 0 rfl rfl dX11_dull_24 ?_
      refine zr_bipush (pc := 25) hC zkb_m3 dX11_dull_25 ?_
      obtain ⟨q9, hq9, h⟩ := zbd h
      refine zr_cVl (pc := 27) hC hEk [.int (-3 : Int32)] [] 76 1 (fun l D => tX11_refuseLong hEk hq9 l D) gX11_dull_X11_refuseLong rfl rfl rfl ⟨Nat.le_of_ble_eq_true rfl, Nat.le_of_ble_eq_true rfl⟩ hyX11_refuseLong (zNC (by decide)) entC_76 rfl rfl rfl (Nat.le_of_ble_eq_true rfl) ⟨Nat.le_of_ble_eq_true rfl, Nat.le_of_ble_eq_true rfl⟩ dX11_dull_27 ?_
      obtain rfl := Option.some.inj h
      exact zr_lret hC hR ⟨rfl, rfl⟩ (Nat.le_refl _) (Nat.le_refl _) dX11_dull_30
  · replace h := zin h c2
    refine zr_aload_n (pc := 7) hC 0 rfl rfl dX11_dull_7 ?_
    refine zr_bipush (pc := 8) hC zkb_m2 dX11_dull_8 ?_
    obtain ⟨q10, hq10, h⟩ := zbd h
    refine zr_cVl (pc := 10) hC hEk [.int (-2 : Int32)] [] 76 1 (fun l D => tX11_refuseLong hEk hq10 l D) gX11_dull_X11_refuseLong rfl rfl rfl ⟨Nat.le_of_ble_eq_true rfl, Nat.le_of_ble_eq_true rfl⟩ hyX11_refuseLong (zNC (by decide)) entC_76 rfl rfl rfl (Nat.le_of_ble_eq_true rfl) ⟨Nat.le_of_ble_eq_true rfl, Nat.le_of_ble_eq_true rfl⟩ dX11_dull_10 ?_
    obtain rfl := Option.some.inj h
    exact zr_lret hC hR ⟨rfl, rfl⟩ (Nat.le_refl _) (Nat.le_refl _) dX11_dull_13
/-! X11_value -/
theorem hyX11_value : yX11_value.cls = RX11 ∧ yX11_value.cls ≠ "java/lang/invoke/MethodHandle" ∧ yX11_value.cls ≠ "java/lang/invoke/VarHandle" ∧ (parseMethodDescriptor yX11_value.desc).map (fun d => d.parameters.length) = some 3 := by decide +kernel
theorem flX11_value_130 : Cond.fieldLink RX11 130 "BeforeTheEnd$Player" "knows" "I" ∈ wsX11_value := by decide +kernel
theorem flX11_value_59 : Cond.fieldLink RX11 59 "BeforeTheEnd" "tree" "LBeforeTheEnd$Tree;" ∈ wsX11_value := by decide +kernel
theorem flX11_value_68 : Cond.fieldLink RX11 68 "BeforeTheEnd" "race" "LBeforeTheEnd$Race;" ∈ wsX11_value := by decide +kernel
theorem hinX11_value_X11 : ∀ w ∈ wsX110, w ∈ wsX11_value := fun _ h => List.mem_cons_of_mem _ (List.mem_append_left _ (List.mem_append_left _ (List.mem_append_left _ (List.mem_append_left _ (List.mem_append_left _ (List.mem_append_left _ (List.mem_append_left _ (List.mem_append_left _ (List.mem_append_right _ h)))))))))
theorem hinX11_value_X0 : ∀ w ∈ wsX00, w ∈ wsX11_value := fun _ h => List.mem_cons_of_mem _ (List.mem_append_left _ (List.mem_append_left _ (List.mem_append_left _ (List.mem_append_left _ (List.mem_append_left _ (List.mem_append_left _ (List.mem_append_left _ (List.mem_append_right _ h))))))))
theorem hinX11_value_X1 : ∀ w ∈ wsX10, w ∈ wsX11_value := fun _ h => List.mem_cons_of_mem _ (List.mem_append_left _ (List.mem_append_left _ (List.mem_append_left _ (List.mem_append_left _ (List.mem_append_left _ (List.mem_append_left _ (List.mem_append_right _ h)))))))
theorem hinX11_value_X2 : ∀ w ∈ wsX20, w ∈ wsX11_value := fun _ h => List.mem_cons_of_mem _ (List.mem_append_left _ (List.mem_append_left _ (List.mem_append_left _ (List.mem_append_left _ (List.mem_append_left _ (List.mem_append_right _ h))))))
theorem hinX11_value_X4 : ∀ w ∈ wsX40, w ∈ wsX11_value := fun _ h => List.mem_cons_of_mem _ (List.mem_append_left _ (List.mem_append_left _ (List.mem_append_left _ (List.mem_append_left _ (List.mem_append_right _ h)))))
theorem hinX11_value_X7 : ∀ w ∈ wsX70, w ∈ wsX11_value := fun _ h => List.mem_cons_of_mem _ (List.mem_append_left _ (List.mem_append_left _ (List.mem_append_left _ (List.mem_append_right _ h))))
theorem hinX11_value_X9 : ∀ w ∈ wsX90, w ∈ wsX11_value := fun _ h => List.mem_cons_of_mem _ (List.mem_append_left _ (List.mem_append_left _ (List.mem_append_right _ h)))
theorem hinX11_value_X6 : ∀ w ∈ wsX60, w ∈ wsX11_value := fun _ h => List.mem_cons_of_mem _ (List.mem_append_left _ (List.mem_append_right _ h))
theorem hinX11_value_X10 : ∀ w ∈ wsX100, w ∈ wsX11_value := fun _ h => List.mem_cons_of_mem _ (List.mem_append_right _ h)
def xX11_value (pT : zM) (pR : zM) (pB : zM) (pP : zP) (v1 : Int32) (v2 : Int32) (v3 : Int32) : Option (Int64 × zM × zM) :=
  (xX6_playerAt pR pP v1).bind fun q1 =>
  zon q1
  ((xX11_refuseLong pB (-1 : Int32)).bind fun q5 =>
  some (q5.1, pR, q5.2))
  (fun a2 => if pP.2.2.2 ≤ a2 then none else
  (xX10_has pT v2).bind fun q6 =>
  if q6 = 0 then
  ((xX11_refuseLong pB (-1 : Int32)).bind fun q18 =>
  some (q18.1, pR, q18.2))
  else
  (xX11_isNoPart v3).bind fun q8 =>
  if q8 = 0 then
  ((xX10_isWhole pT).bind fun q10 =>
  if q10 = 0 then
  ((xX11_refuseLong pB (-3 : Int32)).bind fun q16 =>
  some (q16.1, pR, q16.2))
  else
  (xX6_aloneSet pT pR (pP.2.2.1 a2 2)).bind fun q12 =>
  (xX6_valueOf q12.2 v2).bind fun q13 =>
  (xX10_belowOf pT v2).bind fun q14 =>
  (xX11_leastTerms q13 q14 v3).bind fun q15 =>
  some (q15, q12.2, pB))
  else
  (xX11_refuseLong pB (-2 : Int32)).bind fun q17 =>
  some (q17.1, pR, q17.2))
set_option maxHeartbeats 4000000 in
set_option maxRecDepth 100000 in
theorem tX11_value {κ : Nat → ClassId} {tg : Nat} {S : zEn} {ad : Nat → Nat} (hEk : zEk (zE tg S)) {pT : zM} {pR : zM} {pX : zM} {pF : zM} {pB : zM} {pP : zP} {v1 : Int32} {v2 : Int32} {v3 : Int32} {res : (Int64 × zM × zM)} (h : xX11_value pT pR pB pP v1 v2 v3 = some res) (l : Launch) (D : va_G) : zCT (zE tg S) D vwCl (zty κ) l yX11_value wsX11_value ({ frames := 3, cells := 0, slots := 0, locals := 75 } : Room) 0 0 [.ref (ad 76), .int v1, .int v2, .int v3] (zwC κ ad pT pR pX pF pB pP) (zPd (some (.long res.1)) (zwC κ ad pT res.2.1 pX pF res.2.2 pP)) := by
  refine zCT.of (cc := cX11_value) (maxL := 5) (ret := (some .long)) (by decide) rfl (Nat.le_of_ble_eq_true rfl) ?_
  intro X hC hR
  unfold xX11_value at h
  refine zV.sub (lv' := [(0, .ref (ad 76)), (1, .int v1), (2, .int v2), (3, .int v3)]) [0, 1, 2, 3] rfl ?_
  refine zr_aload_n (pc := 0) hC 0 rfl rfl dX11_value_0 ?_
  refine zcg_76_1 (pc := 1) hC hinX11_value_X11 flX11_value_68 dX11_value_1 ?_
  refine zr_iload_n (pc := 4) hC 1 rfl rfl dX11_value_4 ?_
  obtain ⟨q1, hq1, h⟩ := zbd h
  refine zr_cVr (pc := 5) hC hEk [.int v1] [] 62 1 (fun l D => tX6_playerAt hEk hq1 l D) gX11_value_X6_playerAt rfl rfl rfl ⟨Nat.le_of_ble_eq_true rfl, Nat.le_of_ble_eq_true rfl⟩ hyX6_playerAt (zNC (by decide)) entC_62 rfl rfl rfl (Nat.le_of_ble_eq_true rfl) ⟨Nat.le_of_ble_eq_true rfl, Nat.le_of_ble_eq_true rfl⟩ dX11_value_5 ?_
  refine zr_astoreO (pc := 8) (lv' := [(4, va_rf (q1.map (fun a => ad (81 + a)))), (0, .ref (ad 76)), (1, .int v1), (2, .int v2), (3, .int v3)]) hC (by decide) (by cases q1 <;> rfl) dX11_value_8 ?_
  refine zr_aloadO (pc := 10) hC 0 rfl dX11_value_10 ?_
  refine zr_ifnullM (pc := 12) (tgt := 26) hC dX11_value_12 (by decide) (fun e3 => ?_) (fun a2 e3 => ?_)
  · replace h := zon_n e3 h
    have h9 := h
    subst e3
    replace h := h9
    clear h9
    show zV X 0 0 (zwC κ ad pT pR pX pF pB pP) [(4, va_rf ((none : Option Nat).map (fun a => ad (81 + a)))), (0, .ref (ad 76)), (1, .int v1), (2, .int v2), (3, .int v3)] [] 26
    refine zr_aload_n (pc := 26) hC 1 rfl rfl dX11_value_26 ?_
    refine zr_iconst (pc := 27) hC zki_m1 dX11_value_27 ?_
    obtain ⟨q5, hq5, h⟩ := zbd h
    refine zr_cVl (pc := 28) hC hEk [.int (-1 : Int32)] [] 76 1 (fun l D => tX11_refuseLong hEk hq5 l D) gX11_value_X11_refuseLong rfl rfl rfl ⟨Nat.le_of_ble_eq_true rfl, Nat.le_of_ble_eq_true rfl⟩ hyX11_refuseLong (zNC (by decide)) entC_76 rfl rfl rfl (Nat.le_of_ble_eq_true rfl) ⟨Nat.le_of_ble_eq_true rfl, Nat.le_of_ble_eq_true rfl⟩ dX11_value_28 ?_
    obtain rfl := Option.some.inj h
    exact zr_lret hC hR ⟨rfl, rfl⟩ (Nat.le_refl _) (Nat.le_refl _) dX11_value_31
  · replace h := zon_s e3 h
    have h9 := h
    subst e3
    replace h := h9
    clear h9
    obtain ⟨i4, h⟩ := zgd h
    show zV X 0 0 (zwC κ ad pT pR pX pF pB pP) [(4, .ref (ad (81 + a2))), (0, .ref (ad 76)), (1, .int v1), (2, .int v2), (3, .int v3)] [] 15
    refine zr_aload_n (pc := 15) hC 1 rfl rfl dX11_value_15 ?_
    refine zcg_76_0 (pc := 16) hC hinX11_value_X11 flX11_value_59 dX11_value_16 ?_
    refine zr_iload_n (pc := 19) hC 3 rfl rfl dX11_value_19 ?_
    obtain ⟨q6, hq6, h⟩ := zbd h
    refine zr_cVi (pc := 20) hC hEk [.int v2] [] 0 1 (fun l D => tX10_has hEk hq6 l D) gX11_value_X10_has rfl rfl rfl ⟨Nat.le_of_ble_eq_true rfl, Nat.le_of_ble_eq_true rfl⟩ hyX10_has (zNC (by decide)) entC_0 rfl rfl rfl (Nat.le_of_ble_eq_true rfl) ⟨Nat.le_of_ble_eq_true rfl, Nat.le_of_ble_eq_true rfl⟩ dX11_value_20 ?_
    refine zr_if_ne (pc := 23) (tgt := 32) hC dX11_value_23 (by decide) (fun c7 => ?_) (fun c7 => ?_)
    · replace h := zin h c7
      refine zr_iload_n (pc := 32) hC 4 rfl rfl dX11_value_32 ?_
      obtain ⟨q8, hq8, h⟩ := zbd h
      refine zr_cSi (pc := 33) hC hEk [.int v3] [] 1 (fun l D => tX11_isNoPart hEk hq8 l D) gX11_value_X11_isNoPart rfl rfl rfl ⟨Nat.le_of_ble_eq_true rfl, Nat.le_of_ble_eq_true rfl⟩ hyX11_isNoPart rfl rfl (Nat.le_of_ble_eq_true rfl) ⟨Nat.le_of_ble_eq_true rfl, Nat.le_of_ble_eq_true rfl⟩ dX11_value_33 ?_
      refine zr_if_eq (pc := 36) (tgt := 46) hC dX11_value_36 (by decide) (fun c9 => ?_) (fun c9 => ?_)
      · replace h := zip h c9
        refine zr_aload_n (pc := 46) hC 1 rfl rfl dX11_value_46 ?_
        refine zcg_76_0 (pc := 47) hC hinX11_value_X11 flX11_value_59 dX11_value_47 ?_
        obtain ⟨q10, hq10, h⟩ := zbd h
        refine zr_cVi (pc := 50) hC hEk [] [] 0 0 (fun l D => tX10_isWhole hEk hq10 l D) gX11_value_X10_isWhole rfl rfl rfl ⟨Nat.le_of_ble_eq_true rfl, Nat.le_of_ble_eq_true rfl⟩ hyX10_isWhole (zNC (by decide)) entC_0 rfl rfl rfl (Nat.le_of_ble_eq_true rfl) ⟨Nat.le_of_ble_eq_true rfl, Nat.le_of_ble_eq_true rfl⟩ dX11_value_50 ?_
        refine zr_if_ne (pc := 53) (tgt := 63) hC dX11_value_53 (by decide) (fun c11 => ?_) (fun c11 => ?_)
        · replace h := zin h c11
          refine zr_aload_n (pc := 63) hC 1 rfl rfl dX11_value_63 ?_
          refine zcg_76_1 (pc := 64) hC hinX11_value_X11 flX11_value_68 dX11_value_64 ?_
          refine zr_aload (pc := 67) hC 0 rfl dX11_value_67 ?_
          refine zpg_2 (pc := 69) hC hinX11_value_X2 hinX11_value_X7 hinX11_value_X1 hinX11_value_X4 hinX11_value_X9 hinX11_value_X0 flX11_value_130 i4 dX11_value_69 ?_
          obtain ⟨q12, hq12, h⟩ := zbd h
          refine zr_cVi (pc := 72) hC hEk [.int (pP.2.2.1 a2 2)] [] 62 1 (fun l D => tX6_aloneSet hEk hq12 l D) gX11_value_X6_aloneSet rfl rfl rfl ⟨Nat.le_of_ble_eq_true rfl, Nat.le_of_ble_eq_true rfl⟩ hyX6_aloneSet (zNC (by decide)) entC_62 rfl rfl rfl (Nat.le_of_ble_eq_true rfl) ⟨Nat.le_of_ble_eq_true rfl, Nat.le_of_ble_eq_true rfl⟩ dX11_value_72 ?_
          refine zr_pop (pc := 75) hC rfl dX11_value_75 ?_
          refine zr_aload_n (pc := 76) hC 1 rfl rfl dX11_value_76 ?_
          refine zcg_76_1 (pc := 77) hC hinX11_value_X11 flX11_value_68 dX11_value_77 ?_
          refine zr_iload_n (pc := 80) hC 3 rfl rfl dX11_value_80 ?_
          obtain ⟨q13, hq13, h⟩ := zbd h
          refine zr_cVl (pc := 81) hC hEk [.int v2] [] 62 1 (fun l D => tX6_valueOf hEk hq13 l D) gX11_value_X6_valueOf rfl rfl rfl ⟨Nat.le_of_ble_eq_true rfl, Nat.le_of_ble_eq_true rfl⟩ hyX6_valueOf (zNC (by decide)) entC_62 rfl rfl rfl (Nat.le_of_ble_eq_true rfl) ⟨Nat.le_of_ble_eq_true rfl, Nat.le_of_ble_eq_true rfl⟩ dX11_value_81 ?_
          refine zr_aload_n (pc := 84) hC 1 rfl rfl dX11_value_84 ?_
          refine zcg_76_0 (pc := 85) hC hinX11_value_X11 flX11_value_59 dX11_value_85 ?_
          refine zr_iload_n (pc := 88) hC 3 rfl rfl dX11_value_88 ?_
          obtain ⟨q14, hq14, h⟩ := zbd h
          refine zr_cVl (pc := 89) hC hEk [.int v2] [.long q13] 0 1 (fun l D => tX10_belowOf hEk hq14 l D) gX11_value_X10_belowOf rfl rfl rfl ⟨Nat.le_of_ble_eq_true rfl, Nat.le_of_ble_eq_true rfl⟩ hyX10_belowOf (zNC (by decide)) entC_0 rfl rfl rfl (Nat.le_of_ble_eq_true rfl) ⟨Nat.le_of_ble_eq_true rfl, Nat.le_of_ble_eq_true rfl⟩ dX11_value_89 ?_
          refine zr_iload_n (pc := 92) hC 4 rfl rfl dX11_value_92 ?_
          obtain ⟨q15, hq15, h⟩ := zbd h
          refine zr_cSl (pc := 93) hC hEk [.long q13, .long q14, .int v3] [] 3 (fun l D => tX11_leastTerms hEk hq15 l D) gX11_value_X11_leastTerms rfl rfl rfl ⟨Nat.le_of_ble_eq_true rfl, Nat.le_of_ble_eq_true rfl⟩ hyX11_leastTerms rfl rfl (Nat.le_of_ble_eq_true rfl) ⟨Nat.le_of_ble_eq_true rfl, Nat.le_of_ble_eq_true rfl⟩ dX11_value_93 ?_
          obtain rfl := Option.some.inj h
          exact zr_lret hC hR ⟨rfl, rfl⟩ (Nat.le_refl _) (Nat.le_refl _) dX11_value_96
        · replace h := zip h c11
          refine zr_aload_n (pc := 56) hC 1 rfl rfl dX11_value_56 ?_
          refine zr_bipush (pc := 57) hC zkb_m3 dX11_value_57 ?_
          obtain ⟨q16, hq16, h⟩ := zbd h
          refine zr_cVl (pc := 59) hC hEk [.int (-3 : Int32)] [] 76 1 (fun l D => tX11_refuseLong hEk hq16 l D) gX11_value_X11_refuseLong rfl rfl rfl ⟨Nat.le_of_ble_eq_true rfl, Nat.le_of_ble_eq_true rfl⟩ hyX11_refuseLong (zNC (by decide)) entC_76 rfl rfl rfl (Nat.le_of_ble_eq_true rfl) ⟨Nat.le_of_ble_eq_true rfl, Nat.le_of_ble_eq_true rfl⟩ dX11_value_59 ?_
          obtain rfl := Option.some.inj h
          exact zr_lret hC hR ⟨rfl, rfl⟩ (Nat.le_refl _) (Nat.le_refl _) dX11_value_62
      · replace h := zin h c9
        refine zr_aload_n (pc := 39) hC 1 rfl rfl dX11_value_39 ?_
        refine zr_bipush (pc := 40) hC zkb_m2 dX11_value_40 ?_
        obtain ⟨q17, hq17, h⟩ := zbd h
        refine zr_cVl (pc := 42) hC hEk [.int (-2 : Int32)] [] 76 1 (fun l D => tX11_refuseLong hEk hq17 l D) gX11_value_X11_refuseLong rfl rfl rfl ⟨Nat.le_of_ble_eq_true rfl, Nat.le_of_ble_eq_true rfl⟩ hyX11_refuseLong (zNC (by decide)) entC_76 rfl rfl rfl (Nat.le_of_ble_eq_true rfl) ⟨Nat.le_of_ble_eq_true rfl, Nat.le_of_ble_eq_true rfl⟩ dX11_value_42 ?_
        obtain rfl := Option.some.inj h
        exact zr_lret hC hR ⟨rfl, rfl⟩ (Nat.le_refl _) (Nat.le_refl _) dX11_value_45
    · replace h := zip h c7
      refine zr_aload_n (pc := 26) hC 1 rfl rfl dX11_value_26 ?_
      refine zr_iconst (pc := 27) hC zki_m1 dX11_value_27 ?_
      obtain ⟨q18, hq18, h⟩ := zbd h
      refine zr_cVl (pc := 28) hC hEk [.int (-1 : Int32)] [] 76 1 (fun l D => tX11_refuseLong hEk hq18 l D) gX11_value_X11_refuseLong rfl rfl rfl ⟨Nat.le_of_ble_eq_true rfl, Nat.le_of_ble_eq_true rfl⟩ hyX11_refuseLong (zNC (by decide)) entC_76 rfl rfl rfl (Nat.le_of_ble_eq_true rfl) ⟨Nat.le_of_ble_eq_true rfl, Nat.le_of_ble_eq_true rfl⟩ dX11_value_28 ?_
      obtain rfl := Option.some.inj h
      exact zr_lret hC hR ⟨rfl, rfl⟩ (Nat.le_refl _) (Nat.le_refl _) dX11_value_31
/-! X11_alone -/
theorem hyX11_alone : yX11_alone.cls = RX11 ∧ yX11_alone.cls ≠ "java/lang/invoke/MethodHandle" ∧ yX11_alone.cls ≠ "java/lang/invoke/VarHandle" ∧ (parseMethodDescriptor yX11_alone.desc).map (fun d => d.parameters.length) = some 1 := by decide +kernel
theorem flX11_alone_130 : Cond.fieldLink RX11 130 "BeforeTheEnd$Player" "knows" "I" ∈ wsX11_alone := by decide +kernel
theorem flX11_alone_59 : Cond.fieldLink RX11 59 "BeforeTheEnd" "tree" "LBeforeTheEnd$Tree;" ∈ wsX11_alone := by decide +kernel
theorem flX11_alone_68 : Cond.fieldLink RX11 68 "BeforeTheEnd" "race" "LBeforeTheEnd$Race;" ∈ wsX11_alone := by decide +kernel
theorem hinX11_alone_X11 : ∀ w ∈ wsX110, w ∈ wsX11_alone := fun _ h => List.mem_cons_of_mem _ (List.mem_append_left _ (List.mem_append_left _ (List.mem_append_left _ (List.mem_append_left _ (List.mem_append_left _ (List.mem_append_left _ (List.mem_append_left _ (List.mem_append_left _ (List.mem_append_right _ h)))))))))
theorem hinX11_alone_X0 : ∀ w ∈ wsX00, w ∈ wsX11_alone := fun _ h => List.mem_cons_of_mem _ (List.mem_append_left _ (List.mem_append_left _ (List.mem_append_left _ (List.mem_append_left _ (List.mem_append_left _ (List.mem_append_left _ (List.mem_append_left _ (List.mem_append_right _ h))))))))
theorem hinX11_alone_X1 : ∀ w ∈ wsX10, w ∈ wsX11_alone := fun _ h => List.mem_cons_of_mem _ (List.mem_append_left _ (List.mem_append_left _ (List.mem_append_left _ (List.mem_append_left _ (List.mem_append_left _ (List.mem_append_left _ (List.mem_append_right _ h)))))))
theorem hinX11_alone_X2 : ∀ w ∈ wsX20, w ∈ wsX11_alone := fun _ h => List.mem_cons_of_mem _ (List.mem_append_left _ (List.mem_append_left _ (List.mem_append_left _ (List.mem_append_left _ (List.mem_append_left _ (List.mem_append_right _ h))))))
theorem hinX11_alone_X4 : ∀ w ∈ wsX40, w ∈ wsX11_alone := fun _ h => List.mem_cons_of_mem _ (List.mem_append_left _ (List.mem_append_left _ (List.mem_append_left _ (List.mem_append_left _ (List.mem_append_right _ h)))))
theorem hinX11_alone_X7 : ∀ w ∈ wsX70, w ∈ wsX11_alone := fun _ h => List.mem_cons_of_mem _ (List.mem_append_left _ (List.mem_append_left _ (List.mem_append_left _ (List.mem_append_right _ h))))
theorem hinX11_alone_X9 : ∀ w ∈ wsX90, w ∈ wsX11_alone := fun _ h => List.mem_cons_of_mem _ (List.mem_append_left _ (List.mem_append_left _ (List.mem_append_right _ h)))
theorem hinX11_alone_X6 : ∀ w ∈ wsX60, w ∈ wsX11_alone := fun _ h => List.mem_cons_of_mem _ (List.mem_append_left _ (List.mem_append_right _ h))
theorem hinX11_alone_X10 : ∀ w ∈ wsX100, w ∈ wsX11_alone := fun _ h => List.mem_cons_of_mem _ (List.mem_append_right _ h)
def xX11_alone (pT : zM) (pR : zM) (pB : zM) (pP : zP) (v1 : Int32) : Option (Int32 × zM × zM) :=
  (xX6_playerAt pR pP v1).bind fun q1 =>
  zon q1
  ((xX11_refuse pB (-1 : Int32)).bind fun q5 =>
  some (q5.1, pR, q5.2))
  (fun a2 => if pP.2.2.2 ≤ a2 then none else
  (xX10_isWhole pT).bind fun q6 =>
  if q6 = 0 then
  ((xX11_refuse pB (-3 : Int32)).bind fun q9 =>
  some (q9.1, pR, q9.2))
  else
  (xX6_aloneSet pT pR (pP.2.2.1 a2 2)).bind fun q8 =>
  some (q8.1, q8.2, pB))
set_option maxHeartbeats 4000000 in
set_option maxRecDepth 100000 in
theorem tX11_alone {κ : Nat → ClassId} {tg : Nat} {S : zEn} {ad : Nat → Nat} (hEk : zEk (zE tg S)) {pT : zM} {pR : zM} {pX : zM} {pF : zM} {pB : zM} {pP : zP} {v1 : Int32} {res : (Int32 × zM × zM)} (h : xX11_alone pT pR pB pP v1 = some res) (l : Launch) (D : va_G) : zCT (zE tg S) D vwCl (zty κ) l yX11_alone wsX11_alone ({ frames := 3, cells := 0, slots := 0, locals := 73 } : Room) 0 0 [.ref (ad 76), .int v1] (zwC κ ad pT pR pX pF pB pP) (zPd (some (.int res.1)) (zwC κ ad pT res.2.1 pX pF res.2.2 pP)) := by
  refine zCT.of (cc := cX11_alone) (maxL := 3) (ret := (some .int)) (by decide) rfl (Nat.le_of_ble_eq_true rfl) ?_
  intro X hC hR
  unfold xX11_alone at h
  refine zV.sub (lv' := [(0, .ref (ad 76)), (1, .int v1)]) [0, 1] rfl ?_
  refine zr_aload_n (pc := 0) hC 0 rfl rfl dX11_alone_0 ?_
  refine zcg_76_1 (pc := 1) hC hinX11_alone_X11 flX11_alone_68 dX11_alone_1 ?_
  refine zr_iload_n (pc := 4) hC 1 rfl rfl dX11_alone_4 ?_
  obtain ⟨q1, hq1, h⟩ := zbd h
  refine zr_cVr (pc := 5) hC hEk [.int v1] [] 62 1 (fun l D => tX6_playerAt hEk hq1 l D) gX11_alone_X6_playerAt rfl rfl rfl ⟨Nat.le_of_ble_eq_true rfl, Nat.le_of_ble_eq_true rfl⟩ hyX6_playerAt (zNC (by decide)) entC_62 rfl rfl rfl (Nat.le_of_ble_eq_true rfl) ⟨Nat.le_of_ble_eq_true rfl, Nat.le_of_ble_eq_true rfl⟩ dX11_alone_5 ?_
  refine zr_astore_nO (pc := 8) (lv' := [(2, va_rf (q1.map (fun a => ad (81 + a)))), (0, .ref (ad 76)), (1, .int v1)]) hC rfl (by decide) (by cases q1 <;> rfl) dX11_alone_8 ?_
  refine zr_aload_nO (pc := 9) hC 0 rfl rfl dX11_alone_9 ?_
  refine zr_ifnonnullM (pc := 10) (tgt := 19) hC dX11_alone_10 (by decide) (fun a2 e3 => ?_) (fun e3 => ?_)
  · replace h := zon_s e3 h
    have h9 := h
    subst e3
    replace h := h9
    clear h9
    obtain ⟨i4, h⟩ := zgd h
    show zV X 0 0 (zwC κ ad pT pR pX pF pB pP) [(2, .ref (ad (81 + a2))), (0, .ref (ad 76)), (1, .int v1)] [] 19
    refine zr_aload_n (pc := 19) hC 1 rfl rfl dX11_alone_19 ?_
    refine zcg_76_0 (pc := 20) hC hinX11_alone_X11 flX11_alone_59 dX11_alone_20 ?_
    obtain ⟨q6, hq6, h⟩ := zbd h
    refine zr_cVi (pc := 23) hC hEk [] [] 0 0 (fun l D => tX10_isWhole hEk hq6 l D) gX11_alone_X10_isWhole rfl rfl rfl ⟨Nat.le_of_ble_eq_true rfl, Nat.le_of_ble_eq_true rfl⟩ hyX10_isWhole (zNC (by decide)) entC_0 rfl rfl rfl (Nat.le_of_ble_eq_true rfl) ⟨Nat.le_of_ble_eq_true rfl, Nat.le_of_ble_eq_true rfl⟩ dX11_alone_23 ?_
    refine zr_if_ne (pc := 26) (tgt := 36) hC dX11_alone_26 (by decide) (fun c7 => ?_) (fun c7 => ?_)
    · replace h := zin h c7
      refine zr_aload_n (pc := 36) hC 1 rfl rfl dX11_alone_36 ?_
      refine zcg_76_1 (pc := 37) hC hinX11_alone_X11 flX11_alone_68 dX11_alone_37 ?_
      refine zr_aload_n (pc := 40) hC 0 rfl rfl dX11_alone_40 ?_
      refine zpg_2 (pc := 41) hC hinX11_alone_X2 hinX11_alone_X7 hinX11_alone_X1 hinX11_alone_X4 hinX11_alone_X9 hinX11_alone_X0 flX11_alone_130 i4 dX11_alone_41 ?_
      obtain ⟨q8, hq8, h⟩ := zbd h
      refine zr_cVi (pc := 44) hC hEk [.int (pP.2.2.1 a2 2)] [] 62 1 (fun l D => tX6_aloneSet hEk hq8 l D) gX11_alone_X6_aloneSet rfl rfl rfl ⟨Nat.le_of_ble_eq_true rfl, Nat.le_of_ble_eq_true rfl⟩ hyX6_aloneSet (zNC (by decide)) entC_62 rfl rfl rfl (Nat.le_of_ble_eq_true rfl) ⟨Nat.le_of_ble_eq_true rfl, Nat.le_of_ble_eq_true rfl⟩ dX11_alone_44 ?_
      obtain rfl := Option.some.inj h
      exact zr_iret hC hR ⟨rfl, rfl⟩ (Nat.le_refl _) (Nat.le_refl _) dX11_alone_47
    · replace h := zip h c7
      refine zr_aload_n (pc := 29) hC 1 rfl rfl dX11_alone_29 ?_
      refine zr_bipush (pc := 30) hC zkb_m3 dX11_alone_30 ?_
      obtain ⟨q9, hq9, h⟩ := zbd h
      refine zr_cVi (pc := 32) hC hEk [.int (-3 : Int32)] [] 76 1 (fun l D => tX11_refuse hEk hq9 l D) gX11_alone_X11_refuse rfl rfl rfl ⟨Nat.le_of_ble_eq_true rfl, Nat.le_of_ble_eq_true rfl⟩ hyX11_refuse (zNC (by decide)) entC_76 rfl rfl rfl (Nat.le_of_ble_eq_true rfl) ⟨Nat.le_of_ble_eq_true rfl, Nat.le_of_ble_eq_true rfl⟩ dX11_alone_32 ?_
      obtain rfl := Option.some.inj h
      exact zr_iret hC hR ⟨rfl, rfl⟩ (Nat.le_refl _) (Nat.le_refl _) dX11_alone_35
  · replace h := zon_n e3 h
    have h9 := h
    subst e3
    replace h := h9
    clear h9
    show zV X 0 0 (zwC κ ad pT pR pX pF pB pP) [(2, va_rf ((none : Option Nat).map (fun a => ad (81 + a)))), (0, .ref (ad 76)), (1, .int v1)] [] 13
    refine zr_aload_n (pc := 13) hC 1 rfl rfl dX11_alone_13 ?_
    refine zr_iconst (pc := 14) hC zki_m1 dX11_alone_14 ?_
    obtain ⟨q5, hq5, h⟩ := zbd h
    refine zr_cVi (pc := 15) hC hEk [.int (-1 : Int32)] [] 76 1 (fun l D => tX11_refuse hEk hq5 l D) gX11_alone_X11_refuse rfl rfl rfl ⟨Nat.le_of_ble_eq_true rfl, Nat.le_of_ble_eq_true rfl⟩ hyX11_refuse (zNC (by decide)) entC_76 rfl rfl rfl (Nat.le_of_ble_eq_true rfl) ⟨Nat.le_of_ble_eq_true rfl, Nat.le_of_ble_eq_true rfl⟩ dX11_alone_15 ?_
    obtain rfl := Option.some.inj h
    exact zr_iret hC hR ⟨rfl, rfl⟩ (Nat.le_refl _) (Nat.le_refl _) dX11_alone_18
/-! X11_reply -/
theorem hyX11_reply : yX11_reply.cls = RX11 ∧ yX11_reply.cls ≠ "java/lang/invoke/MethodHandle" ∧ yX11_reply.cls ≠ "java/lang/invoke/VarHandle" ∧ (parseMethodDescriptor yX11_reply.desc).map (fun d => d.parameters.length) = some 2 := by decide +kernel
theorem flX11_reply_59 : Cond.fieldLink RX11 59 "BeforeTheEnd" "tree" "LBeforeTheEnd$Tree;" ∈ wsX11_reply := by decide +kernel
theorem flX11_reply_68 : Cond.fieldLink RX11 68 "BeforeTheEnd" "race" "LBeforeTheEnd$Race;" ∈ wsX11_reply := by decide +kernel
theorem hinX11_reply_X11 : ∀ w ∈ wsX110, w ∈ wsX11_reply := fun _ h => List.mem_cons_of_mem _ (List.mem_append_left _ (List.mem_append_left _ (List.mem_append_left _ (List.mem_append_left _ (List.mem_append_left _ (List.mem_append_left _ (List.mem_append_left _ (List.mem_append_left _ (List.mem_append_right _ h)))))))))
theorem hinX11_reply_X6 : ∀ w ∈ wsX60, w ∈ wsX11_reply := fun _ h => List.mem_cons_of_mem _ (List.mem_append_left _ (List.mem_append_left _ (List.mem_append_left _ (List.mem_append_left _ (List.mem_append_left _ (List.mem_append_left _ (List.mem_append_left _ (List.mem_append_right _ h))))))))
theorem hinX11_reply_X10 : ∀ w ∈ wsX100, w ∈ wsX11_reply := fun _ h => List.mem_cons_of_mem _ (List.mem_append_left _ (List.mem_append_left _ (List.mem_append_left _ (List.mem_append_left _ (List.mem_append_left _ (List.mem_append_left _ (List.mem_append_right _ h)))))))
theorem hinX11_reply_X0 : ∀ w ∈ wsX00, w ∈ wsX11_reply := fun _ h => List.mem_cons_of_mem _ (List.mem_append_left _ (List.mem_append_left _ (List.mem_append_left _ (List.mem_append_left _ (List.mem_append_left _ (List.mem_append_right _ h))))))
theorem hinX11_reply_X1 : ∀ w ∈ wsX10, w ∈ wsX11_reply := fun _ h => List.mem_cons_of_mem _ (List.mem_append_left _ (List.mem_append_left _ (List.mem_append_left _ (List.mem_append_left _ (List.mem_append_right _ h)))))
theorem hinX11_reply_X2 : ∀ w ∈ wsX20, w ∈ wsX11_reply := fun _ h => List.mem_cons_of_mem _ (List.mem_append_left _ (List.mem_append_left _ (List.mem_append_left _ (List.mem_append_right _ h))))
theorem hinX11_reply_X4 : ∀ w ∈ wsX40, w ∈ wsX11_reply := fun _ h => List.mem_cons_of_mem _ (List.mem_append_left _ (List.mem_append_left _ (List.mem_append_right _ h)))
theorem hinX11_reply_X7 : ∀ w ∈ wsX70, w ∈ wsX11_reply := fun _ h => List.mem_cons_of_mem _ (List.mem_append_left _ (List.mem_append_right _ h))
theorem hinX11_reply_X9 : ∀ w ∈ wsX90, w ∈ wsX11_reply := fun _ h => List.mem_cons_of_mem _ (List.mem_append_right _ h)
def xX11_reply (pT : zM) (pR : zM) (pB : zM) (pP : zP) (v1 : Int32) (v2 : Int32) : Option (Int32 × zM × zM) :=
  (xX6_playerAt pR pP v1).bind fun q1 =>
  zon q1
  ((xX11_refuse pB (-1 : Int32)).bind fun q5 =>
  some (q5.1, pR, q5.2))
  (fun a2 => if pP.2.2.2 ≤ a2 then none else
  if 0 ≤ v2 then
  (if v2 ≤ (2 : Int32) then
  ((xX10_isWhole pT).bind fun q8 =>
  if q8 = 0 then
  ((xX11_refuse pB (-3 : Int32)).bind fun q11 =>
  some (q11.1, pR, q11.2))
  else
  (xX6_bestReply pT pR pP v1 v2).bind fun q10 =>
  some (q10.1, q10.2, pB))
  else
  (xX11_refuse pB (-6 : Int32)).bind fun q12 =>
  some (q12.1, pR, q12.2))
  else
  (xX11_refuse pB (-4 : Int32)).bind fun q13 =>
  some (q13.1, pR, q13.2))
set_option maxHeartbeats 4000000 in
set_option maxRecDepth 100000 in
theorem tX11_reply {κ : Nat → ClassId} {tg : Nat} {S : zEn} {ad : Nat → Nat} (hEk : zEk (zE tg S)) {pT : zM} {pR : zM} {pX : zM} {pF : zM} {pB : zM} {pP : zP} {v1 : Int32} {v2 : Int32} {res : (Int32 × zM × zM)} (h : xX11_reply pT pR pB pP v1 v2 = some res) (l : Launch) (D : va_G) : zCT (zE tg S) D vwCl (zty κ) l yX11_reply wsX11_reply ({ frames := 7, cells := 0, slots := 0, locals := 171 } : Room) 0 0 [.ref (ad 76), .int v1, .int v2] (zwC κ ad pT pR pX pF pB pP) (zPd (some (.int res.1)) (zwC κ ad pT res.2.1 pX pF res.2.2 pP)) := by
  refine zCT.of (cc := cX11_reply) (maxL := 3) (ret := (some .int)) (by decide) rfl (Nat.le_of_ble_eq_true rfl) ?_
  intro X hC hR
  unfold xX11_reply at h
  refine zV.sub (lv' := [(0, .ref (ad 76)), (1, .int v1), (2, .int v2)]) [0, 1, 2] rfl ?_
  refine zr_aload_n (pc := 0) hC 0 rfl rfl dX11_reply_0 ?_
  refine zcg_76_1 (pc := 1) hC hinX11_reply_X11 flX11_reply_68 dX11_reply_1 ?_
  refine zr_iload_n (pc := 4) hC 1 rfl rfl dX11_reply_4 ?_
  obtain ⟨q1, hq1, h⟩ := zbd h
  refine zr_cVr (pc := 5) hC hEk [.int v1] [] 62 1 (fun l D => tX6_playerAt hEk hq1 l D) gX11_reply_X6_playerAt rfl rfl rfl ⟨Nat.le_of_ble_eq_true rfl, Nat.le_of_ble_eq_true rfl⟩ hyX6_playerAt (zNC (by decide)) entC_62 rfl rfl rfl (Nat.le_of_ble_eq_true rfl) ⟨Nat.le_of_ble_eq_true rfl, Nat.le_of_ble_eq_true rfl⟩ dX11_reply_5 ?_
  refine zr_ifnonnullM (pc := 8) (tgt := 17) hC dX11_reply_8 (by decide) (fun a2 e3 => ?_) (fun e3 => ?_)
  · replace h := zon_s e3 h
    have h9 := h
    subst e3
    replace h := h9
    clear h9
    obtain ⟨i4, h⟩ := zgd h
    show zV X 0 0 (zwC κ ad pT pR pX pF pB pP) [(0, .ref (ad 76)), (1, .int v1), (2, .int v2)] [] 17
    refine zr_iload_n (pc := 17) hC 2 rfl rfl dX11_reply_17 ?_
    refine zr_if_ge (pc := 18) (tgt := 28) hC dX11_reply_18 (by decide) (fun c6 => ?_) (fun c6 => ?_)
    · replace h := zip h c6
      refine zr_iload_n (pc := 28) hC 2 rfl rfl dX11_reply_28 ?_
      refine zr_iconst (pc := 29) hC zki_2 dX11_reply_29 ?_
      refine zr_icmp_le (pc := 30) (tgt := 40) hC dX11_reply_30 (by decide) (fun c7 => ?_) (fun c7 => ?_)
      · replace h := zip h c7
        refine zr_aload_n (pc := 40) hC 0 rfl rfl dX11_reply_40 ?_
        refine zcg_76_0 (pc := 41) hC hinX11_reply_X11 flX11_reply_59 dX11_reply_41 ?_
        obtain ⟨q8, hq8, h⟩ := zbd h
        refine zr_cVi (pc := 44) hC hEk [] [] 0 0 (fun l D => tX10_isWhole hEk hq8 l D) gX11_reply_X10_isWhole rfl rfl rfl ⟨Nat.le_of_ble_eq_true rfl, Nat.le_of_ble_eq_true rfl⟩ hyX10_isWhole (zNC (by decide)) entC_0 rfl rfl rfl (Nat.le_of_ble_eq_true rfl) ⟨Nat.le_of_ble_eq_true rfl, Nat.le_of_ble_eq_true rfl⟩ dX11_reply_44 ?_
        refine zr_if_ne (pc := 47) (tgt := 57) hC dX11_reply_47 (by decide) (fun c9 => ?_) (fun c9 => ?_)
        · replace h := zin h c9
          refine zr_aload_n (pc := 57) hC 0 rfl rfl dX11_reply_57 ?_
          refine zcg_76_1 (pc := 58) hC hinX11_reply_X11 flX11_reply_68 dX11_reply_58 ?_
          refine zr_iload_n (pc := 61) hC 1 rfl rfl dX11_reply_61 ?_
          refine zr_iload_n (pc := 62) hC 2 rfl rfl dX11_reply_62 ?_
          obtain ⟨q10, hq10, h⟩ := zbd h
          refine zr_cVi (pc := 63) hC hEk [.int v1, .int v2] [] 62 2 (fun l D => tX6_bestReply hEk hq10 l D) gX11_reply_X6_bestReply rfl rfl rfl ⟨Nat.le_of_ble_eq_true rfl, Nat.le_of_ble_eq_true rfl⟩ hyX6_bestReply (zNC (by decide)) entC_62 rfl rfl rfl (Nat.le_of_ble_eq_true rfl) ⟨Nat.le_of_ble_eq_true rfl, Nat.le_of_ble_eq_true rfl⟩ dX11_reply_63 ?_
          obtain rfl := Option.some.inj h
          exact zr_iret hC hR ⟨rfl, rfl⟩ (Nat.le_refl _) (Nat.le_refl _) dX11_reply_66
        · replace h := zip h c9
          refine zr_aload_n (pc := 50) hC 0 rfl rfl dX11_reply_50 ?_
          refine zr_bipush (pc := 51) hC zkb_m3 dX11_reply_51 ?_
          obtain ⟨q11, hq11, h⟩ := zbd h
          refine zr_cVi (pc := 53) hC hEk [.int (-3 : Int32)] [] 76 1 (fun l D => tX11_refuse hEk hq11 l D) gX11_reply_X11_refuse rfl rfl rfl ⟨Nat.le_of_ble_eq_true rfl, Nat.le_of_ble_eq_true rfl⟩ hyX11_refuse (zNC (by decide)) entC_76 rfl rfl rfl (Nat.le_of_ble_eq_true rfl) ⟨Nat.le_of_ble_eq_true rfl, Nat.le_of_ble_eq_true rfl⟩ dX11_reply_53 ?_
          obtain rfl := Option.some.inj h
          exact zr_iret hC hR ⟨rfl, rfl⟩ (Nat.le_refl _) (Nat.le_refl _) dX11_reply_56
      · replace h := zin h c7
        refine zr_aload_n (pc := 33) hC 0 rfl rfl dX11_reply_33 ?_
        refine zr_bipush (pc := 34) hC zkb_m6 dX11_reply_34 ?_
        obtain ⟨q12, hq12, h⟩ := zbd h
        refine zr_cVi (pc := 36) hC hEk [.int (-6 : Int32)] [] 76 1 (fun l D => tX11_refuse hEk hq12 l D) gX11_reply_X11_refuse rfl rfl rfl ⟨Nat.le_of_ble_eq_true rfl, Nat.le_of_ble_eq_true rfl⟩ hyX11_refuse (zNC (by decide)) entC_76 rfl rfl rfl (Nat.le_of_ble_eq_true rfl) ⟨Nat.le_of_ble_eq_true rfl, Nat.le_of_ble_eq_true rfl⟩ dX11_reply_36 ?_
        obtain rfl := Option.some.inj h
        exact zr_iret hC hR ⟨rfl, rfl⟩ (Nat.le_refl _) (Nat.le_refl _) dX11_reply_39
    · replace h := zin h c6
      refine zr_aload_n (pc := 21) hC 0 rfl rfl dX11_reply_21 ?_
      refine zr_bipush (pc := 22) hC zkb_m4 dX11_reply_22 ?_
      obtain ⟨q13, hq13, h⟩ := zbd h
      refine zr_cVi (pc := 24) hC hEk [.int (-4 : Int32)] [] 76 1 (fun l D => tX11_refuse hEk hq13 l D) gX11_reply_X11_refuse rfl rfl rfl ⟨Nat.le_of_ble_eq_true rfl, Nat.le_of_ble_eq_true rfl⟩ hyX11_refuse (zNC (by decide)) entC_76 rfl rfl rfl (Nat.le_of_ble_eq_true rfl) ⟨Nat.le_of_ble_eq_true rfl, Nat.le_of_ble_eq_true rfl⟩ dX11_reply_24 ?_
      obtain rfl := Option.some.inj h
      exact zr_iret hC hR ⟨rfl, rfl⟩ (Nat.le_refl _) (Nat.le_refl _) dX11_reply_27
  · replace h := zon_n e3 h
    have h9 := h
    subst e3
    replace h := h9
    clear h9
    show zV X 0 0 (zwC κ ad pT pR pX pF pB pP) [(0, .ref (ad 76)), (1, .int v1), (2, .int v2)] [] 11
    refine zr_aload_n (pc := 11) hC 0 rfl rfl dX11_reply_11 ?_
    refine zr_iconst (pc := 12) hC zki_m1 dX11_reply_12 ?_
    obtain ⟨q5, hq5, h⟩ := zbd h
    refine zr_cVi (pc := 13) hC hEk [.int (-1 : Int32)] [] 76 1 (fun l D => tX11_refuse hEk hq5 l D) gX11_reply_X11_refuse rfl rfl rfl ⟨Nat.le_of_ble_eq_true rfl, Nat.le_of_ble_eq_true rfl⟩ hyX11_refuse (zNC (by decide)) entC_76 rfl rfl rfl (Nat.le_of_ble_eq_true rfl) ⟨Nat.le_of_ble_eq_true rfl, Nat.le_of_ble_eq_true rfl⟩ dX11_reply_13 ?_
    obtain rfl := Option.some.inj h
    exact zr_iret hC hR ⟨rfl, rfl⟩ (Nat.le_refl _) (Nat.le_refl _) dX11_reply_16
/-! X11_rest -/
set_option maxHeartbeats 4000000 in
theorem vrX11_rest_119 {κ : Nat → ClassId} {tg : Nat} {S : zEn} {ad : Nat → Nat} {X : zX} {cells slots nL pc a : Nat} {lv : zLv} {rm : Room} {pT pR pX pF pB : zM} {pP : zP}  {q : Int32} (hC : zC X cX11_rest RX11 wsX11_rest vwCl (zty κ) (zE tg S) nL rm) (hEk : zEk (zE tg S)) (ha : ¬ pP.2.2.2 ≤ a) (hq : xv_kind pP a  = some q) {rest : List Value} (hcat : (rest.map fun v => v.category).sum ≤ 8) (hf : 1 ≤ rm.frames) (hl : 20 ≤ rm.locals) (hfit : cells + 0 ≤ rm.cells ∧ slots + 0 ≤ rm.slots) (hd : decode cX11_rest pc = .ok (.invokevirtual 119, 3)) (kk : zV X cells slots (zwC κ ad pT pR pX pF pB pP) lv (.int q :: rest) (pc + 3)) : zV X cells slots (zwC κ ad pT pR pX pF pB pP) lv (.ref (ad (81 + a)) :: rest) pc := by
  have ha2 : a < pP.2.2.2 := by omega
  unfold xv_kind at hq
  by_cases k0 : pP.2.1 a = 0
  · replace hq := zip hq k0
    obtain ⟨q2, hq2, hq⟩ := zbd hq
    obtain rfl := Option.some.inj hq
    exact zr_cAi hC hEk [] rest (81 + a) 0 (fun l D => tX2_kind_k0 hEk k0 ha2 hq2 l D) gX11_rest_X2_kind_u119X2 zE_kind rfl rfl rfl ⟨Nat.le_trans (Nat.le_of_ble_eq_true rfl) hf, Nat.le_trans (Nat.le_of_ble_eq_true rfl) hl⟩ hxv_kind (by omega) (entC_p0 k0) rfl rfl rfl hcat hfit hd kk
  replace hq := zin hq k0
  by_cases k1 : pP.2.1 a = 1
  · replace hq := zip hq k1
    obtain ⟨q2, hq2, hq⟩ := zbd hq
    obtain rfl := Option.some.inj hq
    exact zr_cAi hC hEk [] rest (81 + a) 0 (fun l D => tX7_kind_k1 hEk k1 ha2 hq2 l D) gX11_rest_X7_kind_u119X7 zE_kind rfl rfl rfl ⟨Nat.le_trans (Nat.le_of_ble_eq_true rfl) hf, Nat.le_trans (Nat.le_of_ble_eq_true rfl) hl⟩ hxv_kind (by omega) (entC_p1 k1) rfl rfl rfl hcat hfit hd kk
  replace hq := zin hq k1
  by_cases k2 : pP.2.1 a = 2
  · replace hq := zip hq k2
    obtain ⟨q2, hq2, hq⟩ := zbd hq
    obtain rfl := Option.some.inj hq
    exact zr_cAi hC hEk [] rest (81 + a) 0 (fun l D => tX1_kind_k2 hEk k2 ha2 hq2 l D) gX11_rest_X1_kind_u119X1 zE_kind rfl rfl rfl ⟨Nat.le_trans (Nat.le_of_ble_eq_true rfl) hf, Nat.le_trans (Nat.le_of_ble_eq_true rfl) hl⟩ hxv_kind (by omega) (entC_p2 k2) rfl rfl rfl hcat hfit hd kk
  replace hq := zin hq k2
  by_cases k3 : pP.2.1 a = 3
  · replace hq := zip hq k3
    obtain ⟨q2, hq2, hq⟩ := zbd hq
    obtain rfl := Option.some.inj hq
    exact zr_cAi hC hEk [] rest (81 + a) 0 (fun l D => tX4_kind_k3 hEk k3 ha2 hq2 l D) gX11_rest_X4_kind_u119X4 zE_kind rfl rfl rfl ⟨Nat.le_trans (Nat.le_of_ble_eq_true rfl) hf, Nat.le_trans (Nat.le_of_ble_eq_true rfl) hl⟩ hxv_kind (by omega) (entC_p3 k3) rfl rfl rfl hcat hfit hd kk
  replace hq := zin hq k3
  by_cases k4 : pP.2.1 a = 4
  · replace hq := zip hq k4
    obtain ⟨q2, hq2, hq⟩ := zbd hq
    obtain rfl := Option.some.inj hq
    exact zr_cAi hC hEk [] rest (81 + a) 0 (fun l D => tX9_kind_k4 hEk k4 ha2 hq2 l D) gX11_rest_X9_kind_u119X9 zE_kind rfl rfl rfl ⟨Nat.le_trans (Nat.le_of_ble_eq_true rfl) hf, Nat.le_trans (Nat.le_of_ble_eq_true rfl) hl⟩ hxv_kind (by omega) (entC_p4 k4) rfl rfl rfl hcat hfit hd kk
  replace hq := zin hq k4
  obtain ⟨q2, hq2, hq⟩ := zbd hq
  obtain rfl := Option.some.inj hq
  exact zr_cAi hC hEk [] rest (81 + a) 0 (fun l D => tX0_kind_k5 hEk ⟨k0, k1, k2, k3, k4⟩ ha2 hq2 l D) gX11_rest_X0_kind_u119X0 zE_kind rfl rfl rfl ⟨Nat.le_trans (Nat.le_of_ble_eq_true rfl) hf, Nat.le_trans (Nat.le_of_ble_eq_true rfl) hl⟩ hxv_kind (by omega) (entC_p5 ⟨k0, k1, k2, k3, k4⟩) rfl rfl rfl hcat hfit hd kk
theorem h0X11_rest_toldSet : Cond.code ⟨"BeforeTheEnd$Player", "toldSet", "()I"⟩ cX5_toldSet 1 (some .int) ∈ wsX11_rest := by decide +kernel
set_option maxHeartbeats 4000000 in
theorem vrX11_rest_133 {κ : Nat → ClassId} {tg : Nat} {S : zEn} {ad : Nat → Nat} {X : zX} {cells slots nL pc a : Nat} {lv : zLv} {rm : Room} {pT pR pX pF pB : zM} {pP : zP}  {q : Int32} (hC : zC X cX11_rest RX11 wsX11_rest vwCl (zty κ) (zE tg S) nL rm) (hEk : zEk (zE tg S)) (ha : ¬ pP.2.2.2 ≤ a) (hq : xv_toldSet pP a  = some q) {rest : List Value} (hcat : (rest.map fun v => v.category).sum ≤ 8) (hf : 1 ≤ rm.frames) (hl : 20 ≤ rm.locals) (hfit : cells + 0 ≤ rm.cells ∧ slots + 0 ≤ rm.slots) (hd : decode cX11_rest pc = .ok (.invokevirtual 133, 3)) (kk : zV X cells slots (zwC κ ad pT pR pX pF pB pP) lv (.int q :: rest) (pc + 3)) : zV X cells slots (zwC κ ad pT pR pX pF pB pP) lv (.ref (ad (81 + a)) :: rest) pc := by
  have ha2 : a < pP.2.2.2 := by omega
  unfold xv_toldSet at hq
  by_cases k0 : pP.2.1 a = 0
  · replace hq := zip hq k0
    obtain ⟨q2, hq2, hq⟩ := zbd hq
    obtain rfl := Option.some.inj hq
    exact zr_cUi hC hEk [] rest (81 + a) 0 (fun l D => tX5_toldSet_k0 hEk k0 ha2 hq2 l D) gX11_rest_X5_toldSet_u133X2 rfl rfl rfl rfl ⟨Nat.le_trans (Nat.le_of_ble_eq_true rfl) hf, Nat.le_trans (Nat.le_of_ble_eq_true rfl) hl⟩ hxv_toldSet (by omega) (entC_p0 k0) rfl rfl rfl hcat hfit hd kk
  replace hq := zin hq k0
  by_cases k1 : pP.2.1 a = 1
  · replace hq := zip hq k1
    obtain ⟨q2, hq2, hq⟩ := zbd hq
    obtain rfl := Option.some.inj hq
    exact zr_cUi hC hEk [] rest (81 + a) 0 (fun l D => tX5_toldSet_k1 hEk k1 ha2 hq2 l D) gX11_rest_X5_toldSet_u133X7 rfl rfl rfl rfl ⟨Nat.le_trans (Nat.le_of_ble_eq_true rfl) hf, Nat.le_trans (Nat.le_of_ble_eq_true rfl) hl⟩ hxv_toldSet (by omega) (entC_p1 k1) rfl rfl rfl hcat hfit hd kk
  replace hq := zin hq k1
  by_cases k2 : pP.2.1 a = 2
  · replace hq := zip hq k2
    obtain ⟨q2, hq2, hq⟩ := zbd hq
    obtain rfl := Option.some.inj hq
    exact zr_cUi hC hEk [] rest (81 + a) 0 (fun l D => tX5_toldSet_k2 hEk k2 ha2 hq2 l D) gX11_rest_X5_toldSet_u133X1 rfl rfl rfl rfl ⟨Nat.le_trans (Nat.le_of_ble_eq_true rfl) hf, Nat.le_trans (Nat.le_of_ble_eq_true rfl) hl⟩ hxv_toldSet (by omega) (entC_p2 k2) rfl rfl rfl hcat hfit hd kk
  replace hq := zin hq k2
  by_cases k3 : pP.2.1 a = 3
  · replace hq := zip hq k3
    obtain ⟨q2, hq2, hq⟩ := zbd hq
    obtain rfl := Option.some.inj hq
    exact zr_cUi hC hEk [] rest (81 + a) 0 (fun l D => tX5_toldSet_k3 hEk k3 ha2 hq2 l D) gX11_rest_X5_toldSet_u133X4 rfl rfl rfl rfl ⟨Nat.le_trans (Nat.le_of_ble_eq_true rfl) hf, Nat.le_trans (Nat.le_of_ble_eq_true rfl) hl⟩ hxv_toldSet (by omega) (entC_p3 k3) rfl rfl rfl hcat hfit hd kk
  replace hq := zin hq k3
  by_cases k4 : pP.2.1 a = 4
  · replace hq := zip hq k4
    obtain ⟨q2, hq2, hq⟩ := zbd hq
    obtain rfl := Option.some.inj hq
    exact zr_cOi hC hEk [] rest (81 + a) 0 (fun l D => tX9_toldSet_k4 hEk k4 ha2 hq2 l D) gX11_rest_X9_toldSet_u133X9 h0X11_rest_toldSet rfl rfl rfl ⟨Nat.le_trans (Nat.le_of_ble_eq_true rfl) hf, Nat.le_trans (Nat.le_of_ble_eq_true rfl) hl⟩ hxv_toldSet (by omega) (entC_p4 k4) rfl rfl rfl hcat hfit hd kk
  replace hq := zin hq k4
  obtain ⟨q2, hq2, hq⟩ := zbd hq
  obtain rfl := Option.some.inj hq
  exact zr_cOi hC hEk [] rest (81 + a) 0 (fun l D => tX9_toldSet_k5 hEk ⟨k0, k1, k2, k3, k4⟩ ha2 hq2 l D) gX11_rest_X9_toldSet_u133X0 h0X11_rest_toldSet rfl rfl rfl ⟨Nat.le_trans (Nat.le_of_ble_eq_true rfl) hf, Nat.le_trans (Nat.le_of_ble_eq_true rfl) hl⟩ hxv_toldSet (by omega) (entC_p5 ⟨k0, k1, k2, k3, k4⟩) rfl rfl rfl hcat hfit hd kk
theorem h0X11_rest_tell : Cond.code ⟨"BeforeTheEnd$Player", "tell", "(I)V"⟩ cX5_tell 2 none ∈ wsX11_rest := by decide +kernel
set_option maxHeartbeats 4000000 in
theorem vrX11_rest_175 {κ : Nat → ClassId} {tg : Nat} {S : zEn} {ad : Nat → Nat} {X : zX} {cells slots nL pc a : Nat} {lv : zLv} {rm : Room} {pT pR pX pF pB : zM} {pP : zP} {v1 : Int32} {q : zP} (hC : zC X cX11_rest RX11 wsX11_rest vwCl (zty κ) (zE tg S) nL rm) (hEk : zEk (zE tg S)) (ha : ¬ pP.2.2.2 ≤ a) (hq : xv_tell pP a v1 = some q) {rest : List Value} (hcat : (rest.map fun v => v.category).sum ≤ 8) (hf : 1 ≤ rm.frames) (hl : 21 ≤ rm.locals) (hfit : cells + 0 ≤ rm.cells ∧ slots + 0 ≤ rm.slots) (hd : decode cX11_rest pc = .ok (.invokevirtual 175, 3)) (kk : zV X cells slots (zwC κ ad pT pR pX pF pB q) lv rest (pc + 3)) : zV X cells slots (zwC κ ad pT pR pX pF pB pP) lv (.int v1 :: .ref (ad (81 + a)) :: rest) pc := by
  have ha2 : a < pP.2.2.2 := by omega
  unfold xv_tell at hq
  by_cases k0 : pP.2.1 a = 0
  · replace hq := zip hq k0
    obtain ⟨q2, hq2, hq⟩ := zbd hq
    obtain rfl := Option.some.inj hq
    exact zr_cUv hC hEk [.int v1] rest (81 + a) 1 (fun l D => tX5_tell_k0 hEk k0 ha2 hq2 l D) gX11_rest_X5_tell_u175X2 rfl rfl rfl rfl ⟨Nat.le_trans (Nat.le_of_ble_eq_true rfl) hf, Nat.le_trans (Nat.le_of_ble_eq_true rfl) hl⟩ hxv_tell (by omega) (entC_p0 k0) rfl rfl rfl hcat hfit hd kk
  replace hq := zin hq k0
  by_cases k1 : pP.2.1 a = 1
  · replace hq := zip hq k1
    obtain ⟨q2, hq2, hq⟩ := zbd hq
    obtain rfl := Option.some.inj hq
    exact zr_cUv hC hEk [.int v1] rest (81 + a) 1 (fun l D => tX5_tell_k1 hEk k1 ha2 hq2 l D) gX11_rest_X5_tell_u175X7 rfl rfl rfl rfl ⟨Nat.le_trans (Nat.le_of_ble_eq_true rfl) hf, Nat.le_trans (Nat.le_of_ble_eq_true rfl) hl⟩ hxv_tell (by omega) (entC_p1 k1) rfl rfl rfl hcat hfit hd kk
  replace hq := zin hq k1
  by_cases k2 : pP.2.1 a = 2
  · replace hq := zip hq k2
    obtain ⟨q2, hq2, hq⟩ := zbd hq
    obtain rfl := Option.some.inj hq
    exact zr_cUv hC hEk [.int v1] rest (81 + a) 1 (fun l D => tX5_tell_k2 hEk k2 ha2 hq2 l D) gX11_rest_X5_tell_u175X1 rfl rfl rfl rfl ⟨Nat.le_trans (Nat.le_of_ble_eq_true rfl) hf, Nat.le_trans (Nat.le_of_ble_eq_true rfl) hl⟩ hxv_tell (by omega) (entC_p2 k2) rfl rfl rfl hcat hfit hd kk
  replace hq := zin hq k2
  by_cases k3 : pP.2.1 a = 3
  · replace hq := zip hq k3
    obtain ⟨q2, hq2, hq⟩ := zbd hq
    obtain rfl := Option.some.inj hq
    exact zr_cUv hC hEk [.int v1] rest (81 + a) 1 (fun l D => tX5_tell_k3 hEk k3 ha2 hq2 l D) gX11_rest_X5_tell_u175X4 rfl rfl rfl rfl ⟨Nat.le_trans (Nat.le_of_ble_eq_true rfl) hf, Nat.le_trans (Nat.le_of_ble_eq_true rfl) hl⟩ hxv_tell (by omega) (entC_p3 k3) rfl rfl rfl hcat hfit hd kk
  replace hq := zin hq k3
  by_cases k4 : pP.2.1 a = 4
  · replace hq := zip hq k4
    obtain ⟨q2, hq2, hq⟩ := zbd hq
    obtain rfl := Option.some.inj hq
    exact zr_cOv hC hEk [.int v1] rest (81 + a) 1 (fun l D => tX9_tell_k4 hEk k4 ha2 hq2 l D) gX11_rest_X9_tell_u175X9 h0X11_rest_tell rfl rfl rfl ⟨Nat.le_trans (Nat.le_of_ble_eq_true rfl) hf, Nat.le_trans (Nat.le_of_ble_eq_true rfl) hl⟩ hxv_tell (by omega) (entC_p4 k4) rfl rfl rfl hcat hfit hd kk
  replace hq := zin hq k4
  obtain ⟨q2, hq2, hq⟩ := zbd hq
  obtain rfl := Option.some.inj hq
  exact zr_cOv hC hEk [.int v1] rest (81 + a) 1 (fun l D => tX9_tell_k5 hEk ⟨k0, k1, k2, k3, k4⟩ ha2 hq2 l D) gX11_rest_X9_tell_u175X0 h0X11_rest_tell rfl rfl rfl ⟨Nat.le_trans (Nat.le_of_ble_eq_true rfl) hf, Nat.le_trans (Nat.le_of_ble_eq_true rfl) hl⟩ hxv_tell (by omega) (entC_p5 ⟨k0, k1, k2, k3, k4⟩) rfl rfl rfl hcat hfit hd kk
theorem hyX11_rest : yX11_rest.cls = RX11 ∧ yX11_rest.cls ≠ "java/lang/invoke/MethodHandle" ∧ yX11_rest.cls ≠ "java/lang/invoke/VarHandle" ∧ (parseMethodDescriptor yX11_rest.desc).map (fun d => d.parameters.length) = some 2 := by decide +kernel
theorem flX11_rest_59 : Cond.fieldLink RX11 59 "BeforeTheEnd" "tree" "LBeforeTheEnd$Tree;" ∈ wsX11_rest := by decide +kernel
theorem flX11_rest_68 : Cond.fieldLink RX11 68 "BeforeTheEnd" "race" "LBeforeTheEnd$Race;" ∈ wsX11_rest := by decide +kernel
theorem hinX11_rest_X11 : ∀ w ∈ wsX110, w ∈ wsX11_rest := fun _ h => List.mem_cons_of_mem _ (List.mem_append_left _ (List.mem_append_left _ (List.mem_append_left _ (List.mem_append_left _ (List.mem_append_left _ (List.mem_append_left _ (List.mem_append_left _ (List.mem_append_left _ (List.mem_append_right _ h)))))))))
theorem hinX11_rest_X6 : ∀ w ∈ wsX60, w ∈ wsX11_rest := fun _ h => List.mem_cons_of_mem _ (List.mem_append_left _ (List.mem_append_left _ (List.mem_append_left _ (List.mem_append_left _ (List.mem_append_left _ (List.mem_append_left _ (List.mem_append_left _ (List.mem_append_right _ h))))))))
theorem hinX11_rest_X10 : ∀ w ∈ wsX100, w ∈ wsX11_rest := fun _ h => List.mem_cons_of_mem _ (List.mem_append_left _ (List.mem_append_left _ (List.mem_append_left _ (List.mem_append_left _ (List.mem_append_left _ (List.mem_append_left _ (List.mem_append_right _ h)))))))
theorem hinX11_rest_X0 : ∀ w ∈ wsX00, w ∈ wsX11_rest := fun _ h => List.mem_cons_of_mem _ (List.mem_append_left _ (List.mem_append_left _ (List.mem_append_left _ (List.mem_append_left _ (List.mem_append_left _ (List.mem_append_right _ h))))))
theorem hinX11_rest_X9 : ∀ w ∈ wsX90, w ∈ wsX11_rest := fun _ h => List.mem_cons_of_mem _ (List.mem_append_left _ (List.mem_append_left _ (List.mem_append_left _ (List.mem_append_left _ (List.mem_append_right _ h)))))
theorem hinX11_rest_X1 : ∀ w ∈ wsX10, w ∈ wsX11_rest := fun _ h => List.mem_cons_of_mem _ (List.mem_append_left _ (List.mem_append_left _ (List.mem_append_left _ (List.mem_append_right _ h))))
theorem hinX11_rest_X2 : ∀ w ∈ wsX20, w ∈ wsX11_rest := fun _ h => List.mem_cons_of_mem _ (List.mem_append_left _ (List.mem_append_left _ (List.mem_append_right _ h)))
theorem hinX11_rest_X4 : ∀ w ∈ wsX40, w ∈ wsX11_rest := fun _ h => List.mem_cons_of_mem _ (List.mem_append_left _ (List.mem_append_right _ h))
theorem hinX11_rest_X7 : ∀ w ∈ wsX70, w ∈ wsX11_rest := fun _ h => List.mem_cons_of_mem _ (List.mem_append_right _ h)
def xX11_rest_L83 (pT : zM) (pB : zM) (v1 : Int32) (v2 : Int32) (v3 : Nat) (v4 : Nat) (w0 : zM) (w1 : zP) (w2 : Int32) : Option ((zM × zP × Int32) ⊕ ((zM × zP × Int32) ⊕ (zM × zP))) :=
  if (10 : Int32) < w2 then
  (some (.inr (.inr (w0, w1))))
  else
  if w1.2.2.2 ≤ v3 then none else
  (xv_toldSet w1 v3).bind fun q3 =>
  if w1.2.2.2 ≤ v4 then none else
  (xv_toldSet w1 v4).bind fun q5 =>
  (xX6_bestReply pT w0 w1 v1 (2 : Int32)).bind fun q6 =>
  (xv_tell w1 v3 q6.1).bind fun q7 =>
  (xX6_bestReply pT q6.2 q7 v2 (2 : Int32)).bind fun q8 =>
  if q7.2.2.2 ≤ v4 then none else
  (xv_tell q7 v4 q8.1).bind fun q10 =>
  if q10.2.2.2 ≤ v3 then none else
  (xv_toldSet q10 v3).bind fun q12 =>
  if q12 = q3 then
  (if q10.2.2.2 ≤ v4 then none else
  (xv_toldSet q10 v4).bind fun q15 =>
  if q15 = q5 then
  (some (.inr (.inl (q8.2, q10, w2))))
  else
  some (.inl (q8.2, q10, (w2 + (1 : Int32)))))
  else
  some (.inl (q8.2, q10, (w2 + (1 : Int32))))
set_option maxHeartbeats 4000000 in
set_option maxRecDepth 100000 in
theorem tX11_rest_L83 {κ : Nat → ClassId} {tg : Nat} {S : zEn} {ad : Nat → Nat} {X : zX} {pX : zM} {pF : zM} {pT : zM} {pB : zM} {v1 : Int32} {v2 : Int32} {v3 : Nat} {v4 : Nat} {w0 : zM} {w1 : zP} {w2 : Int32} {r : ((zM × zP × Int32) ⊕ ((zM × zP × Int32) ⊕ (zM × zP)))} (hC : zC X cX11_rest RX11 wsX11_rest vwCl (zty κ) (zE tg S) 8 ({ frames := 7, cells := 0, slots := 0, locals := 171 } : Room)) (hEk : zEk (zE tg S)) (hin : ∀ (x0' : zM) (x1' : zP) (x2' : Int32), r = .inl (x0', x1', x2') → zV X 0 0 (zwC κ ad pT x0' pX pF pB x1') [(0, .ref (ad 76)), (1, .int v1), (2, .int v2), (3, .ref (ad (81 + v3))), (4, .ref (ad (81 + v4))), (5, .int x2')] [] 83) (hout0 : ∀ (x0' : zM) (x1' : zP) (x2' : Int32), r = .inr (.inl (x0', x1', x2')) → zV X 0 0 (zwC κ ad pT x0' pX pF pB x1') [(5, .int x2')] [] 149) (hout1 : ∀ (x0' : zM) (x1' : zP), r = .inr (.inr (x0', x1')) → zV X 0 0 (zwC κ ad pT x0' pX pF pB x1') [] [] 158) (h : xX11_rest_L83 pT pB v1 v2 v3 v4 w0 w1 w2 = some r) : zV X 0 0 (zwC κ ad pT w0 pX pF pB w1) [(0, .ref (ad 76)), (1, .int v1), (2, .int v2), (3, .ref (ad (81 + v3))), (4, .ref (ad (81 + v4))), (5, .int w2)] [] 83 := by
  unfold xX11_rest_L83 at h
  refine zr_iload (pc := 83) hC 5 rfl dX11_rest_83 ?_
  refine zr_bipush (pc := 85) hC zkb_10 dX11_rest_85 ?_
  refine zr_icmp_gt (pc := 87) (tgt := 158) hC dX11_rest_87 (by decide) (fun c1 => ?_) (fun c1 => ?_)
  · replace h := zip h c1
    obtain rfl := Option.some.inj h
    exact zV.sub (lv' := []) [] rfl (hout1 w0 w1 rfl)
  · replace h := zin h c1
    refine zr_aload_n (pc := 90) hC 3 rfl rfl dX11_rest_90 ?_
    obtain ⟨i2, h⟩ := zgd h
    obtain ⟨q3, hq3, h⟩ := zbd h
    refine vrX11_rest_133 (pc := 91) hC hEk i2 hq3 (rest := []) (Nat.le_of_ble_eq_true rfl) (Nat.le_of_ble_eq_true rfl) (Nat.le_of_ble_eq_true rfl) ⟨Nat.le_of_ble_eq_true rfl, Nat.le_of_ble_eq_true rfl⟩ dX11_rest_91 ?_
    refine zr_istore (pc := 94) (lv' := [(6, .int q3), (0, .ref (ad 76)), (1, .int v1), (2, .int v2), (3, .ref (ad (81 + v3))), (4, .ref (ad (81 + v4))), (5, .int w2)]) hC (by decide) rfl dX11_rest_94 ?_
    refine zr_aload (pc := 96) hC 5 rfl dX11_rest_96 ?_
    obtain ⟨i4, h⟩ := zgd h
    obtain ⟨q5, hq5, h⟩ := zbd h
    refine vrX11_rest_133 (pc := 98) hC hEk i4 hq5 (rest := []) (Nat.le_of_ble_eq_true rfl) (Nat.le_of_ble_eq_true rfl) (Nat.le_of_ble_eq_true rfl) ⟨Nat.le_of_ble_eq_true rfl, Nat.le_of_ble_eq_true rfl⟩ dX11_rest_98 ?_
    refine zr_istore (pc := 101) (lv' := [(7, .int q5), (6, .int q3), (0, .ref (ad 76)), (1, .int v1), (2, .int v2), (3, .ref (ad (81 + v3))), (4, .ref (ad (81 + v4))), (5, .int w2)]) hC (by decide) rfl dX11_rest_101 ?_
    refine zr_aload_n (pc := 103) hC 5 rfl rfl dX11_rest_103 ?_
    refine zr_aload_n (pc := 104) hC 2 rfl rfl dX11_rest_104 ?_
    refine zcg_76_1 (pc := 105) hC hinX11_rest_X11 flX11_rest_68 dX11_rest_105 ?_
    refine zr_iload_n (pc := 108) hC 3 rfl rfl dX11_rest_108 ?_
    refine zr_iconst (pc := 109) hC zki_2 dX11_rest_109 ?_
    obtain ⟨q6, hq6, h⟩ := zbd h
    refine zr_cVi (pc := 110) hC hEk [.int v1, .int (2 : Int32)] [.ref (ad (81 + v3))] 62 2 (fun l D => tX6_bestReply hEk hq6 l D) gX11_rest_X6_bestReply rfl rfl rfl ⟨Nat.le_of_ble_eq_true rfl, Nat.le_of_ble_eq_true rfl⟩ hyX6_bestReply (zNC (by decide)) entC_62 rfl rfl rfl (Nat.le_of_ble_eq_true rfl) ⟨Nat.le_of_ble_eq_true rfl, Nat.le_of_ble_eq_true rfl⟩ dX11_rest_110 ?_
    obtain ⟨q7, hq7, h⟩ := zbd h
    refine vrX11_rest_175 (pc := 113) hC hEk i2 hq7 (rest := []) (Nat.le_of_ble_eq_true rfl) (Nat.le_of_ble_eq_true rfl) (Nat.le_of_ble_eq_true rfl) ⟨Nat.le_of_ble_eq_true rfl, Nat.le_of_ble_eq_true rfl⟩ dX11_rest_113 ?_
    refine zr_aload (pc := 116) hC 6 rfl dX11_rest_116 ?_
    refine zr_aload_n (pc := 118) hC 2 rfl rfl dX11_rest_118 ?_
    refine zcg_76_1 (pc := 119) hC hinX11_rest_X11 flX11_rest_68 dX11_rest_119 ?_
    refine zr_iload_n (pc := 122) hC 4 rfl rfl dX11_rest_122 ?_
    refine zr_iconst (pc := 123) hC zki_2 dX11_rest_123 ?_
    obtain ⟨q8, hq8, h⟩ := zbd h
    refine zr_cVi (pc := 124) hC hEk [.int v2, .int (2 : Int32)] [.ref (ad (81 + v4))] 62 2 (fun l D => tX6_bestReply hEk hq8 l D) gX11_rest_X6_bestReply rfl rfl rfl ⟨Nat.le_of_ble_eq_true rfl, Nat.le_of_ble_eq_true rfl⟩ hyX6_bestReply (zNC (by decide)) entC_62 rfl rfl rfl (Nat.le_of_ble_eq_true rfl) ⟨Nat.le_of_ble_eq_true rfl, Nat.le_of_ble_eq_true rfl⟩ dX11_rest_124 ?_
    obtain ⟨i9, h⟩ := zgd h
    obtain ⟨q10, hq10, h⟩ := zbd h
    refine vrX11_rest_175 (pc := 127) hC hEk i9 hq10 (rest := []) (Nat.le_of_ble_eq_true rfl) (Nat.le_of_ble_eq_true rfl) (Nat.le_of_ble_eq_true rfl) ⟨Nat.le_of_ble_eq_true rfl, Nat.le_of_ble_eq_true rfl⟩ dX11_rest_127 ?_
    refine zr_aload_n (pc := 130) hC 5 rfl rfl dX11_rest_130 ?_
    obtain ⟨i11, h⟩ := zgd h
    obtain ⟨q12, hq12, h⟩ := zbd h
    refine vrX11_rest_133 (pc := 131) hC hEk i11 hq12 (rest := []) (Nat.le_of_ble_eq_true rfl) (Nat.le_of_ble_eq_true rfl) (Nat.le_of_ble_eq_true rfl) ⟨Nat.le_of_ble_eq_true rfl, Nat.le_of_ble_eq_true rfl⟩ dX11_rest_131 ?_
    refine zr_iload (pc := 134) hC 1 rfl dX11_rest_134 ?_
    refine zr_icmp_ne (pc := 136) (tgt := 152) hC dX11_rest_136 (by decide) (fun c13 => ?_) (fun c13 => ?_)
    · replace h := zin h c13
      refine zr_iinc (pc := 152) (k := 7) (lv' := [(5, .int (w2 + (1 : Int32))), (7, .int q5), (6, .int q3), (0, .ref (ad 76)), (1, .int v1), (2, .int v2), (3, .ref (ad (81 + v3))), (4, .ref (ad (81 + v4)))]) hC zki_1 (by decide) rfl rfl dX11_rest_152 ?_
      refine zr_goto (pc := 155) (tgt := 83) hC dX11_rest_155 (by decide) ?_
      obtain rfl := Option.some.inj h
      exact zV.sub (lv' := [(0, .ref (ad 76)), (1, .int v1), (2, .int v2), (3, .ref (ad (81 + v3))), (4, .ref (ad (81 + v4))), (5, .int (w2 + (1 : Int32)))]) [3, 4, 5, 6, 7, 0] rfl (hin q8.2 q10 (w2 + (1 : Int32)) rfl)
    · replace h := zip h c13
      refine zr_aload (pc := 139) hC 6 rfl dX11_rest_139 ?_
      obtain ⟨i14, h⟩ := zgd h
      obtain ⟨q15, hq15, h⟩ := zbd h
      refine vrX11_rest_133 (pc := 141) hC hEk i14 hq15 (rest := []) (Nat.le_of_ble_eq_true rfl) (Nat.le_of_ble_eq_true rfl) (Nat.le_of_ble_eq_true rfl) ⟨Nat.le_of_ble_eq_true rfl, Nat.le_of_ble_eq_true rfl⟩ dX11_rest_141 ?_
      refine zr_iload (pc := 144) hC 0 rfl dX11_rest_144 ?_
      refine zr_icmp_ne (pc := 146) (tgt := 152) hC dX11_rest_146 (by decide) (fun c16 => ?_) (fun c16 => ?_)
      · replace h := zin h c16
        refine zr_iinc (pc := 152) (k := 7) (lv' := [(5, .int (w2 + (1 : Int32))), (7, .int q5), (6, .int q3), (0, .ref (ad 76)), (1, .int v1), (2, .int v2), (3, .ref (ad (81 + v3))), (4, .ref (ad (81 + v4)))]) hC zki_1 (by decide) rfl rfl dX11_rest_152 ?_
        refine zr_goto (pc := 155) (tgt := 83) hC dX11_rest_155 (by decide) ?_
        obtain rfl := Option.some.inj h
        exact zV.sub (lv' := [(0, .ref (ad 76)), (1, .int v1), (2, .int v2), (3, .ref (ad (81 + v3))), (4, .ref (ad (81 + v4))), (5, .int (w2 + (1 : Int32)))]) [3, 4, 5, 6, 7, 0] rfl (hin q8.2 q10 (w2 + (1 : Int32)) rfl)
      · replace h := zip h c16
        obtain rfl := Option.some.inj h
        exact zV.sub (lv' := [(5, .int w2)]) [7] rfl (hout0 q8.2 q10 w2 rfl)
def xX11_rest (pT : zM) (pR : zM) (pB : zM) (pP : zP) (v1 : Int32) (v2 : Int32) : Option (Int32 × zM × zM × zP) :=
  (xX6_playerAt pR pP v1).bind fun q1 =>
  (xX6_playerAt pR pP v2).bind fun q2 =>
  zon q1
  ((xX11_refuse pB (-1 : Int32)).bind fun q6 =>
  some (q6.1, pR, q6.2, pP))
  (fun a3 => if pP.2.2.2 ≤ a3 then none else
  zon q2
  ((xX11_refuse pB (-1 : Int32)).bind fun q10 =>
  some (q10.1, pR, q10.2, pP))
  (fun a7 => if pP.2.2.2 ≤ a7 then none else
  if v1 = v2 then
  ((xX11_refuse pB (-1 : Int32)).bind fun q24 =>
  some (q24.1, pR, q24.2, pP))
  else
  (xv_kind pP a3).bind fun q12 =>
  if q12 = (4 : Int32) then
  ((xv_kind pP a7).bind fun q15 =>
  if q15 = (4 : Int32) then
  ((xX10_isWhole pT).bind fun q17 =>
  if q17 = 0 then
  ((xX11_refuse pB (-3 : Int32)).bind fun q22 =>
  some (q22.1, pR, q22.2, pP))
  else
  (x_it (fun a9 => xX11_rest_L83 pT pB v1 v2 a3 a7 a9.1 a9.2.1 a9.2.2) zFU (pR, pP, (1 : Int32))).bind fun q19 =>
  Sum.elim (fun b20 => some (b20.2.2, b20.1, pB, b20.2.1)) (fun c21 => some ((-9 : Int32), c21.1, pB, c21.2)) q19)
  else
  (xX11_refuse pB (-2 : Int32)).bind fun q23 =>
  some (q23.1, pR, q23.2, pP))
  else
  (xX11_refuse pB (-2 : Int32)).bind fun q14 =>
  some (q14.1, pR, q14.2, pP)))
set_option maxHeartbeats 4000000 in
set_option maxRecDepth 100000 in
theorem tX11_rest {κ : Nat → ClassId} {tg : Nat} {S : zEn} {ad : Nat → Nat} (hEk : zEk (zE tg S)) {pT : zM} {pR : zM} {pX : zM} {pF : zM} {pB : zM} {pP : zP} {v1 : Int32} {v2 : Int32} {res : (Int32 × zM × zM × zP)} (h : xX11_rest pT pR pB pP v1 v2 = some res) (l : Launch) (D : va_G) : zCT (zE tg S) D vwCl (zty κ) l yX11_rest wsX11_rest ({ frames := 7, cells := 0, slots := 0, locals := 171 } : Room) 0 0 [.ref (ad 76), .int v1, .int v2] (zwC κ ad pT pR pX pF pB pP) (zPd (some (.int res.1)) (zwC κ ad pT res.2.1 pX pF res.2.2.1 res.2.2.2)) := by
  refine zCT.of (cc := cX11_rest) (maxL := 8) (ret := (some .int)) (by decide) rfl (Nat.le_of_ble_eq_true rfl) ?_
  intro X hC hR
  unfold xX11_rest at h
  refine zV.sub (lv' := [(0, .ref (ad 76)), (1, .int v1), (2, .int v2)]) [0, 1, 2] rfl ?_
  refine zr_aload_n (pc := 0) hC 0 rfl rfl dX11_rest_0 ?_
  refine zcg_76_1 (pc := 1) hC hinX11_rest_X11 flX11_rest_68 dX11_rest_1 ?_
  refine zr_iload_n (pc := 4) hC 1 rfl rfl dX11_rest_4 ?_
  obtain ⟨q1, hq1, h⟩ := zbd h
  refine zr_cVr (pc := 5) hC hEk [.int v1] [] 62 1 (fun l D => tX6_playerAt hEk hq1 l D) gX11_rest_X6_playerAt rfl rfl rfl ⟨Nat.le_of_ble_eq_true rfl, Nat.le_of_ble_eq_true rfl⟩ hyX6_playerAt (zNC (by decide)) entC_62 rfl rfl rfl (Nat.le_of_ble_eq_true rfl) ⟨Nat.le_of_ble_eq_true rfl, Nat.le_of_ble_eq_true rfl⟩ dX11_rest_5 ?_
  refine zr_astore_nO (pc := 8) (lv' := [(3, va_rf (q1.map (fun a => ad (81 + a)))), (0, .ref (ad 76)), (1, .int v1), (2, .int v2)]) hC rfl (by decide) (by cases q1 <;> rfl) dX11_rest_8 ?_
  refine zr_aload_n (pc := 9) hC 1 rfl rfl dX11_rest_9 ?_
  refine zcg_76_1 (pc := 10) hC hinX11_rest_X11 flX11_rest_68 dX11_rest_10 ?_
  refine zr_iload_n (pc := 13) hC 3 rfl rfl dX11_rest_13 ?_
  obtain ⟨q2, hq2, h⟩ := zbd h
  refine zr_cVr (pc := 14) hC hEk [.int v2] [] 62 1 (fun l D => tX6_playerAt hEk hq2 l D) gX11_rest_X6_playerAt rfl rfl rfl ⟨Nat.le_of_ble_eq_true rfl, Nat.le_of_ble_eq_true rfl⟩ hyX6_playerAt (zNC (by decide)) entC_62 rfl rfl rfl (Nat.le_of_ble_eq_true rfl) ⟨Nat.le_of_ble_eq_true rfl, Nat.le_of_ble_eq_true rfl⟩ dX11_rest_14 ?_
  refine zr_astoreO (pc := 17) (lv' := [(4, va_rf (q2.map (fun a => ad (81 + a)))), (3, va_rf (q1.map (fun a => ad (81 + a)))), (0, .ref (ad 76)), (1, .int v1), (2, .int v2)]) hC (by decide) (by cases q1 <;> cases q2 <;> rfl) dX11_rest_17 ?_
  refine zr_aload_nO (pc := 19) hC 1 rfl rfl dX11_rest_19 ?_
  refine zr_ifnullM (pc := 20) (tgt := 33) hC dX11_rest_20 (by decide) (fun e4 => ?_) (fun a3 e4 => ?_)
  · replace h := zon_n e4 h
    have h9 := h
    subst e4
    replace h := h9
    clear h9
    show zV X 0 0 (zwC κ ad pT pR pX pF pB pP) [(4, va_rf (q2.map (fun a => ad (81 + a)))), (3, va_rf ((none : Option Nat).map (fun a => ad (81 + a)))), (0, .ref (ad 76)), (1, .int v1), (2, .int v2)] [] 33
    refine zr_aload_n (pc := 33) hC 2 rfl rfl dX11_rest_33 ?_
    refine zr_iconst (pc := 34) hC zki_m1 dX11_rest_34 ?_
    obtain ⟨q6, hq6, h⟩ := zbd h
    refine zr_cVi (pc := 35) hC hEk [.int (-1 : Int32)] [] 76 1 (fun l D => tX11_refuse hEk hq6 l D) gX11_rest_X11_refuse rfl rfl rfl ⟨Nat.le_of_ble_eq_true rfl, Nat.le_of_ble_eq_true rfl⟩ hyX11_refuse (zNC (by decide)) entC_76 rfl rfl rfl (Nat.le_of_ble_eq_true rfl) ⟨Nat.le_of_ble_eq_true rfl, Nat.le_of_ble_eq_true rfl⟩ dX11_rest_35 ?_
    obtain rfl := Option.some.inj h
    exact zr_iret hC hR ⟨rfl, rfl⟩ (Nat.le_refl _) (Nat.le_refl _) dX11_rest_38
  · replace h := zon_s e4 h
    have h9 := h
    subst e4
    replace h := h9
    clear h9
    obtain ⟨i5, h⟩ := zgd h
    show zV X 0 0 (zwC κ ad pT pR pX pF pB pP) [(4, va_rf (q2.map (fun a => ad (81 + a)))), (3, .ref (ad (81 + a3))), (0, .ref (ad 76)), (1, .int v1), (2, .int v2)] [] 23
    refine zr_aloadO (pc := 23) hC 0 rfl dX11_rest_23 ?_
    refine zr_ifnullM (pc := 25) (tgt := 33) hC dX11_rest_25 (by decide) (fun e8 => ?_) (fun a7 e8 => ?_)
    · replace h := zon_n e8 h
      have h9 := h
      subst e8
      replace h := h9
      clear h9
      show zV X 0 0 (zwC κ ad pT pR pX pF pB pP) [(4, va_rf ((none : Option Nat).map (fun a => ad (81 + a)))), (3, .ref (ad (81 + a3))), (0, .ref (ad 76)), (1, .int v1), (2, .int v2)] [] 33
      refine zr_aload_n (pc := 33) hC 2 rfl rfl dX11_rest_33 ?_
      refine zr_iconst (pc := 34) hC zki_m1 dX11_rest_34 ?_
      obtain ⟨q10, hq10, h⟩ := zbd h
      refine zr_cVi (pc := 35) hC hEk [.int (-1 : Int32)] [] 76 1 (fun l D => tX11_refuse hEk hq10 l D) gX11_rest_X11_refuse rfl rfl rfl ⟨Nat.le_of_ble_eq_true rfl, Nat.le_of_ble_eq_true rfl⟩ hyX11_refuse (zNC (by decide)) entC_76 rfl rfl rfl (Nat.le_of_ble_eq_true rfl) ⟨Nat.le_of_ble_eq_true rfl, Nat.le_of_ble_eq_true rfl⟩ dX11_rest_35 ?_
      obtain rfl := Option.some.inj h
      exact zr_iret hC hR ⟨rfl, rfl⟩ (Nat.le_refl _) (Nat.le_refl _) dX11_rest_38
    · replace h := zon_s e8 h
      have h9 := h
      subst e8
      replace h := h9
      clear h9
      obtain ⟨i9, h⟩ := zgd h
      show zV X 0 0 (zwC κ ad pT pR pX pF pB pP) [(4, .ref (ad (81 + a7))), (3, .ref (ad (81 + a3))), (0, .ref (ad 76)), (1, .int v1), (2, .int v2)] [] 28
      refine zr_iload_n (pc := 28) hC 3 rfl rfl dX11_rest_28 ?_
      refine zr_iload_n (pc := 29) hC 4 rfl rfl dX11_rest_29 ?_
      refine zr_icmp_ne (pc := 30) (tgt := 39) hC dX11_rest_30 (by decide) (fun c11 => ?_) (fun c11 => ?_)
      · replace h := zin h c11
        refine zr_aload_n (pc := 39) hC 1 rfl rfl dX11_rest_39 ?_
        obtain ⟨q12, hq12, h⟩ := zbd h
        refine vrX11_rest_119 (pc := 40) hC hEk i5 hq12 (rest := []) (Nat.le_of_ble_eq_true rfl) (Nat.le_of_ble_eq_true rfl) (Nat.le_of_ble_eq_true rfl) ⟨Nat.le_of_ble_eq_true rfl, Nat.le_of_ble_eq_true rfl⟩ dX11_rest_40 ?_
        refine zr_iconst (pc := 43) hC zki_4 dX11_rest_43 ?_
        refine zr_icmp_ne (pc := 44) (tgt := 56) hC dX11_rest_44 (by decide) (fun c13 => ?_) (fun c13 => ?_)
        · replace h := zin h c13
          refine zr_aload_n (pc := 56) hC 2 rfl rfl dX11_rest_56 ?_
          refine zr_bipush (pc := 57) hC zkb_m2 dX11_rest_57 ?_
          obtain ⟨q14, hq14, h⟩ := zbd h
          refine zr_cVi (pc := 59) hC hEk [.int (-2 : Int32)] [] 76 1 (fun l D => tX11_refuse hEk hq14 l D) gX11_rest_X11_refuse rfl rfl rfl ⟨Nat.le_of_ble_eq_true rfl, Nat.le_of_ble_eq_true rfl⟩ hyX11_refuse (zNC (by decide)) entC_76 rfl rfl rfl (Nat.le_of_ble_eq_true rfl) ⟨Nat.le_of_ble_eq_true rfl, Nat.le_of_ble_eq_true rfl⟩ dX11_rest_59 ?_
          obtain rfl := Option.some.inj h
          exact zr_iret hC hR ⟨rfl, rfl⟩ (Nat.le_refl _) (Nat.le_refl _) dX11_rest_62
        · replace h := zip h c13
          refine zr_aload (pc := 47) hC 0 rfl dX11_rest_47 ?_
          obtain ⟨q15, hq15, h⟩ := zbd h
          refine vrX11_rest_119 (pc := 49) hC hEk i9 hq15 (rest := []) (Nat.le_of_ble_eq_true rfl) (Nat.le_of_ble_eq_true rfl) (Nat.le_of_ble_eq_true rfl) ⟨Nat.le_of_ble_eq_true rfl, Nat.le_of_ble_eq_true rfl⟩ dX11_rest_49 ?_
          refine zr_iconst (pc := 52) hC zki_4 dX11_rest_52 ?_
          refine zr_icmp_eq (pc := 53) (tgt := 63) hC dX11_rest_53 (by decide) (fun c16 => ?_) (fun c16 => ?_)
          · replace h := zip h c16
            refine zr_aload_n (pc := 63) hC 2 rfl rfl dX11_rest_63 ?_
            refine zcg_76_0 (pc := 64) hC hinX11_rest_X11 flX11_rest_59 dX11_rest_64 ?_
            obtain ⟨q17, hq17, h⟩ := zbd h
            refine zr_cVi (pc := 67) hC hEk [] [] 0 0 (fun l D => tX10_isWhole hEk hq17 l D) gX11_rest_X10_isWhole rfl rfl rfl ⟨Nat.le_of_ble_eq_true rfl, Nat.le_of_ble_eq_true rfl⟩ hyX10_isWhole (zNC (by decide)) entC_0 rfl rfl rfl (Nat.le_of_ble_eq_true rfl) ⟨Nat.le_of_ble_eq_true rfl, Nat.le_of_ble_eq_true rfl⟩ dX11_rest_67 ?_
            refine zr_if_ne (pc := 70) (tgt := 80) hC dX11_rest_70 (by decide) (fun c18 => ?_) (fun c18 => ?_)
            · replace h := zin h c18
              refine zr_iconst (pc := 80) hC zki_1 dX11_rest_80 ?_
              refine zr_istore (pc := 81) (lv' := [(5, .int (1 : Int32)), (4, .ref (ad (81 + a7))), (3, .ref (ad (81 + a3))), (0, .ref (ad 76)), (1, .int v1), (2, .int v2)]) hC (by decide) rfl dX11_rest_81 ?_
              obtain ⟨q19, hq19, h⟩ := zbd h
              refine zV.sub (lv' := [(0, .ref (ad 76)), (1, .int v1), (2, .int v2), (3, .ref (ad (81 + a3))), (4, .ref (ad (81 + a7))), (5, .int (1 : Int32))]) [3, 4, 5, 2, 1, 0] rfl ?_
              refine zit3 (Wp := fun (y0 : zM) (y1 : zP) (y2 : Int32) => zV X 0 0 (zwC κ ad pT y0 pX pF pB y1) [(0, .ref (ad 76)), (1, .int v1), (2, .int v2), (3, .ref (ad (81 + a3))), (4, .ref (ad (81 + a7))), (5, .int y2)] [] 83) (Ex := fun (b9 : ((zM × zP × Int32) ⊕ (zM × zP))) => Sum.elim (fun (b0 : (zM × zP × Int32)) => zV X 0 0 (zwC κ ad pT b0.1 pX pF pB b0.2.1) [(5, .int b0.2.2)] [] 149) (fun (c0 : (zM × zP)) => zV X 0 0 (zwC κ ad pT c0.1 pX pF pB c0.2) [] [] 158) b9) (fun y0 y1 y2 r9 hr hin hout => tX11_rest_L83 hC hEk hin (fun z0 z1 z2 e9 => hout (.inl (z0, z1, z2)) e9) (fun z0 z1 e9 => hout (.inr (z0, z1)) e9) hr) zFU pR pP (1 : Int32) q19 hq19 ?_
              rcases q19 with b20 | c21
              · replace h := zel h
                show zV X 0 0 (zwC κ ad pT b20.1 pX pF pB b20.2.1) [(5, .int b20.2.2)] [] 149
                refine zr_iload (pc := 149) hC 0 rfl dX11_rest_149 ?_
                obtain rfl := Option.some.inj h
                exact zr_iret hC hR ⟨rfl, rfl⟩ (Nat.le_refl _) (Nat.le_refl _) dX11_rest_151
              · replace h := zer h
                show zV X 0 0 (zwC κ ad pT c21.1 pX pF pB c21.2) [] [] 158
                refine zr_bipush (pc := 158) hC zkb_m9 dX11_rest_158 ?_
                obtain rfl := Option.some.inj h
                exact zr_iret hC hR ⟨rfl, rfl⟩ (Nat.le_refl _) (Nat.le_refl _) dX11_rest_160
            · replace h := zip h c18
              refine zr_aload_n (pc := 73) hC 2 rfl rfl dX11_rest_73 ?_
              refine zr_bipush (pc := 74) hC zkb_m3 dX11_rest_74 ?_
              obtain ⟨q22, hq22, h⟩ := zbd h
              refine zr_cVi (pc := 76) hC hEk [.int (-3 : Int32)] [] 76 1 (fun l D => tX11_refuse hEk hq22 l D) gX11_rest_X11_refuse rfl rfl rfl ⟨Nat.le_of_ble_eq_true rfl, Nat.le_of_ble_eq_true rfl⟩ hyX11_refuse (zNC (by decide)) entC_76 rfl rfl rfl (Nat.le_of_ble_eq_true rfl) ⟨Nat.le_of_ble_eq_true rfl, Nat.le_of_ble_eq_true rfl⟩ dX11_rest_76 ?_
              obtain rfl := Option.some.inj h
              exact zr_iret hC hR ⟨rfl, rfl⟩ (Nat.le_refl _) (Nat.le_refl _) dX11_rest_79
          · replace h := zin h c16
            refine zr_aload_n (pc := 56) hC 2 rfl rfl dX11_rest_56 ?_
            refine zr_bipush (pc := 57) hC zkb_m2 dX11_rest_57 ?_
            obtain ⟨q23, hq23, h⟩ := zbd h
            refine zr_cVi (pc := 59) hC hEk [.int (-2 : Int32)] [] 76 1 (fun l D => tX11_refuse hEk hq23 l D) gX11_rest_X11_refuse rfl rfl rfl ⟨Nat.le_of_ble_eq_true rfl, Nat.le_of_ble_eq_true rfl⟩ hyX11_refuse (zNC (by decide)) entC_76 rfl rfl rfl (Nat.le_of_ble_eq_true rfl) ⟨Nat.le_of_ble_eq_true rfl, Nat.le_of_ble_eq_true rfl⟩ dX11_rest_59 ?_
            obtain rfl := Option.some.inj h
            exact zr_iret hC hR ⟨rfl, rfl⟩ (Nat.le_refl _) (Nat.le_refl _) dX11_rest_62
      · replace h := zip h c11
        refine zr_aload_n (pc := 33) hC 2 rfl rfl dX11_rest_33 ?_
        refine zr_iconst (pc := 34) hC zki_m1 dX11_rest_34 ?_
        obtain ⟨q24, hq24, h⟩ := zbd h
        refine zr_cVi (pc := 35) hC hEk [.int (-1 : Int32)] [] 76 1 (fun l D => tX11_refuse hEk hq24 l D) gX11_rest_X11_refuse rfl rfl rfl ⟨Nat.le_of_ble_eq_true rfl, Nat.le_of_ble_eq_true rfl⟩ hyX11_refuse (zNC (by decide)) entC_76 rfl rfl rfl (Nat.le_of_ble_eq_true rfl) ⟨Nat.le_of_ble_eq_true rfl, Nat.le_of_ble_eq_true rfl⟩ dX11_rest_35 ?_
        obtain rfl := Option.some.inj h
        exact zr_iret hC hR ⟨rfl, rfl⟩ (Nat.le_refl _) (Nat.le_refl _) dX11_rest_38
/-! X11_law -/
theorem hyX11_law : yX11_law.cls = RX11 ∧ yX11_law.cls ≠ "java/lang/invoke/MethodHandle" ∧ yX11_law.cls ≠ "java/lang/invoke/VarHandle" ∧ (parseMethodDescriptor yX11_law.desc).map (fun d => d.parameters.length) = some 1 := by decide +kernel
theorem flX11_law_59 : Cond.fieldLink RX11 59 "BeforeTheEnd" "tree" "LBeforeTheEnd$Tree;" ∈ wsX11_law := by decide +kernel
theorem flX11_law_68 : Cond.fieldLink RX11 68 "BeforeTheEnd" "race" "LBeforeTheEnd$Race;" ∈ wsX11_law := by decide +kernel
theorem hinX11_law_X11 : ∀ w ∈ wsX110, w ∈ wsX11_law := fun _ h => List.mem_cons_of_mem _ (List.mem_append_left _ (List.mem_append_left _ (List.mem_append_left _ (List.mem_append_left _ (List.mem_append_left _ (List.mem_append_left _ (List.mem_append_left _ (List.mem_append_left _ (List.mem_append_right _ h)))))))))
theorem hinX11_law_X10 : ∀ w ∈ wsX100, w ∈ wsX11_law := fun _ h => List.mem_cons_of_mem _ (List.mem_append_left _ (List.mem_append_left _ (List.mem_append_left _ (List.mem_append_left _ (List.mem_append_left _ (List.mem_append_left _ (List.mem_append_left _ (List.mem_append_right _ h))))))))
theorem hinX11_law_X6 : ∀ w ∈ wsX60, w ∈ wsX11_law := fun _ h => List.mem_cons_of_mem _ (List.mem_append_left _ (List.mem_append_left _ (List.mem_append_left _ (List.mem_append_left _ (List.mem_append_left _ (List.mem_append_left _ (List.mem_append_right _ h)))))))
theorem hinX11_law_X0 : ∀ w ∈ wsX00, w ∈ wsX11_law := fun _ h => List.mem_cons_of_mem _ (List.mem_append_left _ (List.mem_append_left _ (List.mem_append_left _ (List.mem_append_left _ (List.mem_append_left _ (List.mem_append_right _ h))))))
theorem hinX11_law_X1 : ∀ w ∈ wsX10, w ∈ wsX11_law := fun _ h => List.mem_cons_of_mem _ (List.mem_append_left _ (List.mem_append_left _ (List.mem_append_left _ (List.mem_append_left _ (List.mem_append_right _ h)))))
theorem hinX11_law_X2 : ∀ w ∈ wsX20, w ∈ wsX11_law := fun _ h => List.mem_cons_of_mem _ (List.mem_append_left _ (List.mem_append_left _ (List.mem_append_left _ (List.mem_append_right _ h))))
theorem hinX11_law_X4 : ∀ w ∈ wsX40, w ∈ wsX11_law := fun _ h => List.mem_cons_of_mem _ (List.mem_append_left _ (List.mem_append_left _ (List.mem_append_right _ h)))
theorem hinX11_law_X7 : ∀ w ∈ wsX70, w ∈ wsX11_law := fun _ h => List.mem_cons_of_mem _ (List.mem_append_left _ (List.mem_append_right _ h))
theorem hinX11_law_X9 : ∀ w ∈ wsX90, w ∈ wsX11_law := fun _ h => List.mem_cons_of_mem _ (List.mem_append_right _ h)
def xX11_law (pT : zM) (pR : zM) (pB : zM) (pP : zP) (v1 : Int32) : Option (Int32 × zM × zM) :=
  if 0 ≤ v1 then
  (if v1 ≤ (100 : Int32) then
  ((xX10_isWhole pT).bind fun q3 =>
  if q3 = 0 then
  ((xX11_refuse pB (-3 : Int32)).bind fun q6 =>
  some (q6.1, pR, q6.2))
  else
  (xX6_leastWrong pT pR pP v1).bind fun q5 =>
  some (q5.1, q5.2, pB))
  else
  (xX11_refuse pB (-6 : Int32)).bind fun q7 =>
  some (q7.1, pR, q7.2))
  else
  (xX11_refuse pB (-4 : Int32)).bind fun q8 =>
  some (q8.1, pR, q8.2)
set_option maxHeartbeats 4000000 in
set_option maxRecDepth 100000 in
theorem tX11_law {κ : Nat → ClassId} {tg : Nat} {S : zEn} {ad : Nat → Nat} (hEk : zEk (zE tg S)) {pT : zM} {pR : zM} {pX : zM} {pF : zM} {pB : zM} {pP : zP} {v1 : Int32} {res : (Int32 × zM × zM)} (h : xX11_law pT pR pB pP v1 = some res) (l : Launch) (D : va_G) : zCT (zE tg S) D vwCl (zty κ) l yX11_law wsX11_law ({ frames := 7, cells := 0, slots := 0, locals := 165 } : Room) 0 0 [.ref (ad 76), .int v1] (zwC κ ad pT pR pX pF pB pP) (zPd (some (.int res.1)) (zwC κ ad pT res.2.1 pX pF res.2.2 pP)) := by
  refine zCT.of (cc := cX11_law) (maxL := 2) (ret := (some .int)) (by decide) rfl (Nat.le_of_ble_eq_true rfl) ?_
  intro X hC hR
  unfold xX11_law at h
  refine zV.sub (lv' := [(0, .ref (ad 76)), (1, .int v1)]) [0, 1] rfl ?_
  refine zr_iload_n (pc := 0) hC 1 rfl rfl dX11_law_0 ?_
  refine zr_if_ge (pc := 1) (tgt := 11) hC dX11_law_1 (by decide) (fun c1 => ?_) (fun c1 => ?_)
  · replace h := zip h c1
    refine zr_iload_n (pc := 11) hC 1 rfl rfl dX11_law_11 ?_
    refine zr_bipush (pc := 12) hC zkb_100 dX11_law_12 ?_
    refine zr_icmp_le (pc := 14) (tgt := 24) hC dX11_law_14 (by decide) (fun c2 => ?_) (fun c2 => ?_)
    · replace h := zip h c2
      refine zr_aload_n (pc := 24) hC 0 rfl rfl dX11_law_24 ?_
      refine zcg_76_0 (pc := 25) hC hinX11_law_X11 flX11_law_59 dX11_law_25 ?_
      obtain ⟨q3, hq3, h⟩ := zbd h
      refine zr_cVi (pc := 28) hC hEk [] [] 0 0 (fun l D => tX10_isWhole hEk hq3 l D) gX11_law_X10_isWhole rfl rfl rfl ⟨Nat.le_of_ble_eq_true rfl, Nat.le_of_ble_eq_true rfl⟩ hyX10_isWhole (zNC (by decide)) entC_0 rfl rfl rfl (Nat.le_of_ble_eq_true rfl) ⟨Nat.le_of_ble_eq_true rfl, Nat.le_of_ble_eq_true rfl⟩ dX11_law_28 ?_
      refine zr_if_ne (pc := 31) (tgt := 41) hC dX11_law_31 (by decide) (fun c4 => ?_) (fun c4 => ?_)
      · replace h := zin h c4
        refine zr_aload_n (pc := 41) hC 0 rfl rfl dX11_law_41 ?_
        refine zcg_76_1 (pc := 42) hC hinX11_law_X11 flX11_law_68 dX11_law_42 ?_
        refine zr_iload_n (pc := 45) hC 1 rfl rfl dX11_law_45 ?_
        obtain ⟨q5, hq5, h⟩ := zbd h
        refine zr_cVi (pc := 46) hC hEk [.int v1] [] 62 1 (fun l D => tX6_leastWrong hEk hq5 l D) gX11_law_X6_leastWrong rfl rfl rfl ⟨Nat.le_of_ble_eq_true rfl, Nat.le_of_ble_eq_true rfl⟩ hyX6_leastWrong (zNC (by decide)) entC_62 rfl rfl rfl (Nat.le_of_ble_eq_true rfl) ⟨Nat.le_of_ble_eq_true rfl, Nat.le_of_ble_eq_true rfl⟩ dX11_law_46 ?_
        obtain rfl := Option.some.inj h
        exact zr_iret hC hR ⟨rfl, rfl⟩ (Nat.le_refl _) (Nat.le_refl _) dX11_law_49
      · replace h := zip h c4
        refine zr_aload_n (pc := 34) hC 0 rfl rfl dX11_law_34 ?_
        refine zr_bipush (pc := 35) hC zkb_m3 dX11_law_35 ?_
        obtain ⟨q6, hq6, h⟩ := zbd h
        refine zr_cVi (pc := 37) hC hEk [.int (-3 : Int32)] [] 76 1 (fun l D => tX11_refuse hEk hq6 l D) gX11_law_X11_refuse rfl rfl rfl ⟨Nat.le_of_ble_eq_true rfl, Nat.le_of_ble_eq_true rfl⟩ hyX11_refuse (zNC (by decide)) entC_76 rfl rfl rfl (Nat.le_of_ble_eq_true rfl) ⟨Nat.le_of_ble_eq_true rfl, Nat.le_of_ble_eq_true rfl⟩ dX11_law_37 ?_
        obtain rfl := Option.some.inj h
        exact zr_iret hC hR ⟨rfl, rfl⟩ (Nat.le_refl _) (Nat.le_refl _) dX11_law_40
    · replace h := zin h c2
      refine zr_aload_n (pc := 17) hC 0 rfl rfl dX11_law_17 ?_
      refine zr_bipush (pc := 18) hC zkb_m6 dX11_law_18 ?_
      obtain ⟨q7, hq7, h⟩ := zbd h
      refine zr_cVi (pc := 20) hC hEk [.int (-6 : Int32)] [] 76 1 (fun l D => tX11_refuse hEk hq7 l D) gX11_law_X11_refuse rfl rfl rfl ⟨Nat.le_of_ble_eq_true rfl, Nat.le_of_ble_eq_true rfl⟩ hyX11_refuse (zNC (by decide)) entC_76 rfl rfl rfl (Nat.le_of_ble_eq_true rfl) ⟨Nat.le_of_ble_eq_true rfl, Nat.le_of_ble_eq_true rfl⟩ dX11_law_20 ?_
      obtain rfl := Option.some.inj h
      exact zr_iret hC hR ⟨rfl, rfl⟩ (Nat.le_refl _) (Nat.le_refl _) dX11_law_23
  · replace h := zin h c1
    refine zr_aload_n (pc := 4) hC 0 rfl rfl dX11_law_4 ?_
    refine zr_bipush (pc := 5) hC zkb_m4 dX11_law_5 ?_
    obtain ⟨q8, hq8, h⟩ := zbd h
    refine zr_cVi (pc := 7) hC hEk [.int (-4 : Int32)] [] 76 1 (fun l D => tX11_refuse hEk hq8 l D) gX11_law_X11_refuse rfl rfl rfl ⟨Nat.le_of_ble_eq_true rfl, Nat.le_of_ble_eq_true rfl⟩ hyX11_refuse (zNC (by decide)) entC_76 rfl rfl rfl (Nat.le_of_ble_eq_true rfl) ⟨Nat.le_of_ble_eq_true rfl, Nat.le_of_ble_eq_true rfl⟩ dX11_law_7 ?_
    obtain rfl := Option.some.inj h
    exact zr_iret hC hR ⟨rfl, rfl⟩ (Nat.le_refl _) (Nat.le_refl _) dX11_law_10
/-! X11_mostEarly -/
theorem hyX11_mostEarly : yX11_mostEarly.cls = RX11 ∧ yX11_mostEarly.cls ≠ "java/lang/invoke/MethodHandle" ∧ yX11_mostEarly.cls ≠ "java/lang/invoke/VarHandle" ∧ (parseMethodDescriptor yX11_mostEarly.desc).map (fun d => d.parameters.length) = some 1 := by decide +kernel
theorem flX11_mostEarly_59 : Cond.fieldLink RX11 59 "BeforeTheEnd" "tree" "LBeforeTheEnd$Tree;" ∈ wsX11_mostEarly := by decide +kernel
theorem flX11_mostEarly_68 : Cond.fieldLink RX11 68 "BeforeTheEnd" "race" "LBeforeTheEnd$Race;" ∈ wsX11_mostEarly := by decide +kernel
theorem hinX11_mostEarly_X11 : ∀ w ∈ wsX110, w ∈ wsX11_mostEarly := fun _ h => List.mem_cons_of_mem _ (List.mem_append_left _ (List.mem_append_left _ (List.mem_append_left _ (List.mem_append_left _ (List.mem_append_left _ (List.mem_append_left _ (List.mem_append_left _ (List.mem_append_left _ (List.mem_append_right _ h)))))))))
theorem hinX11_mostEarly_X6 : ∀ w ∈ wsX60, w ∈ wsX11_mostEarly := fun _ h => List.mem_cons_of_mem _ (List.mem_append_left _ (List.mem_append_left _ (List.mem_append_left _ (List.mem_append_left _ (List.mem_append_left _ (List.mem_append_left _ (List.mem_append_left _ (List.mem_append_right _ h))))))))
theorem hinX11_mostEarly_X10 : ∀ w ∈ wsX100, w ∈ wsX11_mostEarly := fun _ h => List.mem_cons_of_mem _ (List.mem_append_left _ (List.mem_append_left _ (List.mem_append_left _ (List.mem_append_left _ (List.mem_append_left _ (List.mem_append_left _ (List.mem_append_right _ h)))))))
theorem hinX11_mostEarly_X0 : ∀ w ∈ wsX00, w ∈ wsX11_mostEarly := fun _ h => List.mem_cons_of_mem _ (List.mem_append_left _ (List.mem_append_left _ (List.mem_append_left _ (List.mem_append_left _ (List.mem_append_left _ (List.mem_append_right _ h))))))
theorem hinX11_mostEarly_X1 : ∀ w ∈ wsX10, w ∈ wsX11_mostEarly := fun _ h => List.mem_cons_of_mem _ (List.mem_append_left _ (List.mem_append_left _ (List.mem_append_left _ (List.mem_append_left _ (List.mem_append_right _ h)))))
theorem hinX11_mostEarly_X2 : ∀ w ∈ wsX20, w ∈ wsX11_mostEarly := fun _ h => List.mem_cons_of_mem _ (List.mem_append_left _ (List.mem_append_left _ (List.mem_append_left _ (List.mem_append_right _ h))))
theorem hinX11_mostEarly_X4 : ∀ w ∈ wsX40, w ∈ wsX11_mostEarly := fun _ h => List.mem_cons_of_mem _ (List.mem_append_left _ (List.mem_append_left _ (List.mem_append_right _ h)))
theorem hinX11_mostEarly_X7 : ∀ w ∈ wsX70, w ∈ wsX11_mostEarly := fun _ h => List.mem_cons_of_mem _ (List.mem_append_left _ (List.mem_append_right _ h))
theorem hinX11_mostEarly_X9 : ∀ w ∈ wsX90, w ∈ wsX11_mostEarly := fun _ h => List.mem_cons_of_mem _ (List.mem_append_right _ h)
def xX11_mostEarly (pT : zM) (pR : zM) (pB : zM) (pP : zP) (v1 : Int32) : Option (Int32 × zM × zM) :=
  (xX6_playerAt pR pP v1).bind fun q1 =>
  zon q1
  ((xX11_refuse pB (-1 : Int32)).bind fun q5 =>
  some (q5.1, pR, q5.2))
  (fun a2 => if pP.2.2.2 ≤ a2 then none else
  (xX10_isWhole pT).bind fun q6 =>
  if q6 = 0 then
  ((xX11_refuse pB (-3 : Int32)).bind fun q9 =>
  some (q9.1, pR, q9.2))
  else
  (xX6_bestEarly pT pR pP v1).bind fun q8 =>
  some (q8.1, q8.2, pB))
set_option maxHeartbeats 4000000 in
set_option maxRecDepth 100000 in
theorem tX11_mostEarly {κ : Nat → ClassId} {tg : Nat} {S : zEn} {ad : Nat → Nat} (hEk : zEk (zE tg S)) {pT : zM} {pR : zM} {pX : zM} {pF : zM} {pB : zM} {pP : zP} {v1 : Int32} {res : (Int32 × zM × zM)} (h : xX11_mostEarly pT pR pB pP v1 = some res) (l : Launch) (D : va_G) : zCT (zE tg S) D vwCl (zty κ) l yX11_mostEarly wsX11_mostEarly ({ frames := 7, cells := 0, slots := 0, locals := 169 } : Room) 0 0 [.ref (ad 76), .int v1] (zwC κ ad pT pR pX pF pB pP) (zPd (some (.int res.1)) (zwC κ ad pT res.2.1 pX pF res.2.2 pP)) := by
  refine zCT.of (cc := cX11_mostEarly) (maxL := 2) (ret := (some .int)) (by decide) rfl (Nat.le_of_ble_eq_true rfl) ?_
  intro X hC hR
  unfold xX11_mostEarly at h
  refine zV.sub (lv' := [(0, .ref (ad 76)), (1, .int v1)]) [0, 1] rfl ?_
  refine zr_aload_n (pc := 0) hC 0 rfl rfl dX11_mostEarly_0 ?_
  refine zcg_76_1 (pc := 1) hC hinX11_mostEarly_X11 flX11_mostEarly_68 dX11_mostEarly_1 ?_
  refine zr_iload_n (pc := 4) hC 1 rfl rfl dX11_mostEarly_4 ?_
  obtain ⟨q1, hq1, h⟩ := zbd h
  refine zr_cVr (pc := 5) hC hEk [.int v1] [] 62 1 (fun l D => tX6_playerAt hEk hq1 l D) gX11_mostEarly_X6_playerAt rfl rfl rfl ⟨Nat.le_of_ble_eq_true rfl, Nat.le_of_ble_eq_true rfl⟩ hyX6_playerAt (zNC (by decide)) entC_62 rfl rfl rfl (Nat.le_of_ble_eq_true rfl) ⟨Nat.le_of_ble_eq_true rfl, Nat.le_of_ble_eq_true rfl⟩ dX11_mostEarly_5 ?_
  refine zr_ifnonnullM (pc := 8) (tgt := 17) hC dX11_mostEarly_8 (by decide) (fun a2 e3 => ?_) (fun e3 => ?_)
  · replace h := zon_s e3 h
    have h9 := h
    subst e3
    replace h := h9
    clear h9
    obtain ⟨i4, h⟩ := zgd h
    show zV X 0 0 (zwC κ ad pT pR pX pF pB pP) [(0, .ref (ad 76)), (1, .int v1)] [] 17
    refine zr_aload_n (pc := 17) hC 0 rfl rfl dX11_mostEarly_17 ?_
    refine zcg_76_0 (pc := 18) hC hinX11_mostEarly_X11 flX11_mostEarly_59 dX11_mostEarly_18 ?_
    obtain ⟨q6, hq6, h⟩ := zbd h
    refine zr_cVi (pc := 21) hC hEk [] [] 0 0 (fun l D => tX10_isWhole hEk hq6 l D) gX11_mostEarly_X10_isWhole rfl rfl rfl ⟨Nat.le_of_ble_eq_true rfl, Nat.le_of_ble_eq_true rfl⟩ hyX10_isWhole (zNC (by decide)) entC_0 rfl rfl rfl (Nat.le_of_ble_eq_true rfl) ⟨Nat.le_of_ble_eq_true rfl, Nat.le_of_ble_eq_true rfl⟩ dX11_mostEarly_21 ?_
    refine zr_if_ne (pc := 24) (tgt := 34) hC dX11_mostEarly_24 (by decide) (fun c7 => ?_) (fun c7 => ?_)
    · replace h := zin h c7
      refine zr_aload_n (pc := 34) hC 0 rfl rfl dX11_mostEarly_34 ?_
      refine zcg_76_1 (pc := 35) hC hinX11_mostEarly_X11 flX11_mostEarly_68 dX11_mostEarly_35 ?_
      refine zr_iload_n (pc := 38) hC 1 rfl rfl dX11_mostEarly_38 ?_
      obtain ⟨q8, hq8, h⟩ := zbd h
      refine zr_cVi (pc := 39) hC hEk [.int v1] [] 62 1 (fun l D => tX6_bestEarly hEk hq8 l D) gX11_mostEarly_X6_bestEarly rfl rfl rfl ⟨Nat.le_of_ble_eq_true rfl, Nat.le_of_ble_eq_true rfl⟩ hyX6_bestEarly (zNC (by decide)) entC_62 rfl rfl rfl (Nat.le_of_ble_eq_true rfl) ⟨Nat.le_of_ble_eq_true rfl, Nat.le_of_ble_eq_true rfl⟩ dX11_mostEarly_39 ?_
      obtain rfl := Option.some.inj h
      exact zr_iret hC hR ⟨rfl, rfl⟩ (Nat.le_refl _) (Nat.le_refl _) dX11_mostEarly_42
    · replace h := zip h c7
      refine zr_aload_n (pc := 27) hC 0 rfl rfl dX11_mostEarly_27 ?_
      refine zr_bipush (pc := 28) hC zkb_m3 dX11_mostEarly_28 ?_
      obtain ⟨q9, hq9, h⟩ := zbd h
      refine zr_cVi (pc := 30) hC hEk [.int (-3 : Int32)] [] 76 1 (fun l D => tX11_refuse hEk hq9 l D) gX11_mostEarly_X11_refuse rfl rfl rfl ⟨Nat.le_of_ble_eq_true rfl, Nat.le_of_ble_eq_true rfl⟩ hyX11_refuse (zNC (by decide)) entC_76 rfl rfl rfl (Nat.le_of_ble_eq_true rfl) ⟨Nat.le_of_ble_eq_true rfl, Nat.le_of_ble_eq_true rfl⟩ dX11_mostEarly_30 ?_
      obtain rfl := Option.some.inj h
      exact zr_iret hC hR ⟨rfl, rfl⟩ (Nat.le_refl _) (Nat.le_refl _) dX11_mostEarly_33
  · replace h := zon_n e3 h
    have h9 := h
    subst e3
    replace h := h9
    clear h9
    show zV X 0 0 (zwC κ ad pT pR pX pF pB pP) [(0, .ref (ad 76)), (1, .int v1)] [] 11
    refine zr_aload_n (pc := 11) hC 0 rfl rfl dX11_mostEarly_11 ?_
    refine zr_iconst (pc := 12) hC zki_m1 dX11_mostEarly_12 ?_
    obtain ⟨q5, hq5, h⟩ := zbd h
    refine zr_cVi (pc := 13) hC hEk [.int (-1 : Int32)] [] 76 1 (fun l D => tX11_refuse hEk hq5 l D) gX11_mostEarly_X11_refuse rfl rfl rfl ⟨Nat.le_of_ble_eq_true rfl, Nat.le_of_ble_eq_true rfl⟩ hyX11_refuse (zNC (by decide)) entC_76 rfl rfl rfl (Nat.le_of_ble_eq_true rfl) ⟨Nat.le_of_ble_eq_true rfl, Nat.le_of_ble_eq_true rfl⟩ dX11_mostEarly_13 ?_
    obtain rfl := Option.some.inj h
    exact zr_iret hC hR ⟨rfl, rfl⟩ (Nat.le_refl _) (Nat.le_refl _) dX11_mostEarly_16
/-! X11_silent -/
set_option maxHeartbeats 4000000 in
theorem vrX11_silent_119 {κ : Nat → ClassId} {tg : Nat} {S : zEn} {ad : Nat → Nat} {X : zX} {cells slots nL pc a : Nat} {lv : zLv} {rm : Room} {pT pR pX pF pB : zM} {pP : zP}  {q : Int32} (hC : zC X cX11_silent RX11 wsX11_silent vwCl (zty κ) (zE tg S) nL rm) (hEk : zEk (zE tg S)) (ha : ¬ pP.2.2.2 ≤ a) (hq : xv_kind pP a  = some q) {rest : List Value} (hcat : (rest.map fun v => v.category).sum ≤ 8) (hf : 1 ≤ rm.frames) (hl : 20 ≤ rm.locals) (hfit : cells + 0 ≤ rm.cells ∧ slots + 0 ≤ rm.slots) (hd : decode cX11_silent pc = .ok (.invokevirtual 119, 3)) (kk : zV X cells slots (zwC κ ad pT pR pX pF pB pP) lv (.int q :: rest) (pc + 3)) : zV X cells slots (zwC κ ad pT pR pX pF pB pP) lv (.ref (ad (81 + a)) :: rest) pc := by
  have ha2 : a < pP.2.2.2 := by omega
  unfold xv_kind at hq
  by_cases k0 : pP.2.1 a = 0
  · replace hq := zip hq k0
    obtain ⟨q2, hq2, hq⟩ := zbd hq
    obtain rfl := Option.some.inj hq
    exact zr_cAi hC hEk [] rest (81 + a) 0 (fun l D => tX2_kind_k0 hEk k0 ha2 hq2 l D) gX11_silent_X2_kind_u119X2 zE_kind rfl rfl rfl ⟨Nat.le_trans (Nat.le_of_ble_eq_true rfl) hf, Nat.le_trans (Nat.le_of_ble_eq_true rfl) hl⟩ hxv_kind (by omega) (entC_p0 k0) rfl rfl rfl hcat hfit hd kk
  replace hq := zin hq k0
  by_cases k1 : pP.2.1 a = 1
  · replace hq := zip hq k1
    obtain ⟨q2, hq2, hq⟩ := zbd hq
    obtain rfl := Option.some.inj hq
    exact zr_cAi hC hEk [] rest (81 + a) 0 (fun l D => tX7_kind_k1 hEk k1 ha2 hq2 l D) gX11_silent_X7_kind_u119X7 zE_kind rfl rfl rfl ⟨Nat.le_trans (Nat.le_of_ble_eq_true rfl) hf, Nat.le_trans (Nat.le_of_ble_eq_true rfl) hl⟩ hxv_kind (by omega) (entC_p1 k1) rfl rfl rfl hcat hfit hd kk
  replace hq := zin hq k1
  by_cases k2 : pP.2.1 a = 2
  · replace hq := zip hq k2
    obtain ⟨q2, hq2, hq⟩ := zbd hq
    obtain rfl := Option.some.inj hq
    exact zr_cAi hC hEk [] rest (81 + a) 0 (fun l D => tX1_kind_k2 hEk k2 ha2 hq2 l D) gX11_silent_X1_kind_u119X1 zE_kind rfl rfl rfl ⟨Nat.le_trans (Nat.le_of_ble_eq_true rfl) hf, Nat.le_trans (Nat.le_of_ble_eq_true rfl) hl⟩ hxv_kind (by omega) (entC_p2 k2) rfl rfl rfl hcat hfit hd kk
  replace hq := zin hq k2
  by_cases k3 : pP.2.1 a = 3
  · replace hq := zip hq k3
    obtain ⟨q2, hq2, hq⟩ := zbd hq
    obtain rfl := Option.some.inj hq
    exact zr_cAi hC hEk [] rest (81 + a) 0 (fun l D => tX4_kind_k3 hEk k3 ha2 hq2 l D) gX11_silent_X4_kind_u119X4 zE_kind rfl rfl rfl ⟨Nat.le_trans (Nat.le_of_ble_eq_true rfl) hf, Nat.le_trans (Nat.le_of_ble_eq_true rfl) hl⟩ hxv_kind (by omega) (entC_p3 k3) rfl rfl rfl hcat hfit hd kk
  replace hq := zin hq k3
  by_cases k4 : pP.2.1 a = 4
  · replace hq := zip hq k4
    obtain ⟨q2, hq2, hq⟩ := zbd hq
    obtain rfl := Option.some.inj hq
    exact zr_cAi hC hEk [] rest (81 + a) 0 (fun l D => tX9_kind_k4 hEk k4 ha2 hq2 l D) gX11_silent_X9_kind_u119X9 zE_kind rfl rfl rfl ⟨Nat.le_trans (Nat.le_of_ble_eq_true rfl) hf, Nat.le_trans (Nat.le_of_ble_eq_true rfl) hl⟩ hxv_kind (by omega) (entC_p4 k4) rfl rfl rfl hcat hfit hd kk
  replace hq := zin hq k4
  obtain ⟨q2, hq2, hq⟩ := zbd hq
  obtain rfl := Option.some.inj hq
  exact zr_cAi hC hEk [] rest (81 + a) 0 (fun l D => tX0_kind_k5 hEk ⟨k0, k1, k2, k3, k4⟩ ha2 hq2 l D) gX11_silent_X0_kind_u119X0 zE_kind rfl rfl rfl ⟨Nat.le_trans (Nat.le_of_ble_eq_true rfl) hf, Nat.le_trans (Nat.le_of_ble_eq_true rfl) hl⟩ hxv_kind (by omega) (entC_p5 ⟨k0, k1, k2, k3, k4⟩) rfl rfl rfl hcat hfit hd kk
theorem hyX11_silent : yX11_silent.cls = RX11 ∧ yX11_silent.cls ≠ "java/lang/invoke/MethodHandle" ∧ yX11_silent.cls ≠ "java/lang/invoke/VarHandle" ∧ (parseMethodDescriptor yX11_silent.desc).map (fun d => d.parameters.length) = some 2 := by decide +kernel
theorem flX11_silent_59 : Cond.fieldLink RX11 59 "BeforeTheEnd" "tree" "LBeforeTheEnd$Tree;" ∈ wsX11_silent := by decide +kernel
theorem flX11_silent_68 : Cond.fieldLink RX11 68 "BeforeTheEnd" "race" "LBeforeTheEnd$Race;" ∈ wsX11_silent := by decide +kernel
theorem hinX11_silent_X11 : ∀ w ∈ wsX110, w ∈ wsX11_silent := fun _ h => List.mem_cons_of_mem _ (List.mem_append_left _ (List.mem_append_left _ (List.mem_append_left _ (List.mem_append_left _ (List.mem_append_left _ (List.mem_append_left _ (List.mem_append_left _ (List.mem_append_left _ (List.mem_append_right _ h)))))))))
theorem hinX11_silent_X6 : ∀ w ∈ wsX60, w ∈ wsX11_silent := fun _ h => List.mem_cons_of_mem _ (List.mem_append_left _ (List.mem_append_left _ (List.mem_append_left _ (List.mem_append_left _ (List.mem_append_left _ (List.mem_append_left _ (List.mem_append_left _ (List.mem_append_right _ h))))))))
theorem hinX11_silent_X10 : ∀ w ∈ wsX100, w ∈ wsX11_silent := fun _ h => List.mem_cons_of_mem _ (List.mem_append_left _ (List.mem_append_left _ (List.mem_append_left _ (List.mem_append_left _ (List.mem_append_left _ (List.mem_append_left _ (List.mem_append_right _ h)))))))
theorem hinX11_silent_X0 : ∀ w ∈ wsX00, w ∈ wsX11_silent := fun _ h => List.mem_cons_of_mem _ (List.mem_append_left _ (List.mem_append_left _ (List.mem_append_left _ (List.mem_append_left _ (List.mem_append_left _ (List.mem_append_right _ h))))))
theorem hinX11_silent_X1 : ∀ w ∈ wsX10, w ∈ wsX11_silent := fun _ h => List.mem_cons_of_mem _ (List.mem_append_left _ (List.mem_append_left _ (List.mem_append_left _ (List.mem_append_left _ (List.mem_append_right _ h)))))
theorem hinX11_silent_X2 : ∀ w ∈ wsX20, w ∈ wsX11_silent := fun _ h => List.mem_cons_of_mem _ (List.mem_append_left _ (List.mem_append_left _ (List.mem_append_left _ (List.mem_append_right _ h))))
theorem hinX11_silent_X4 : ∀ w ∈ wsX40, w ∈ wsX11_silent := fun _ h => List.mem_cons_of_mem _ (List.mem_append_left _ (List.mem_append_left _ (List.mem_append_right _ h)))
theorem hinX11_silent_X7 : ∀ w ∈ wsX70, w ∈ wsX11_silent := fun _ h => List.mem_cons_of_mem _ (List.mem_append_left _ (List.mem_append_right _ h))
theorem hinX11_silent_X9 : ∀ w ∈ wsX90, w ∈ wsX11_silent := fun _ h => List.mem_cons_of_mem _ (List.mem_append_right _ h)
def xX11_silent_L76 (pT : zM) (pB : zM) (pP : zP) (v2 : Int32) (v3 : Nat) (w0 : zM) (w1 : Int32) (w2 : Int32) : Option ((zM × Int32 × Int32) ⊕ (zM × Int32)) :=
  if (10 : Int32) ≤ w2 then
  (some (.inr (w0, w1)))
  else
  (xX6_pressBits pT w0 pP (some v3) ((1 : Int32) <<< (w2 &&& 31)) (0 : Int32)).bind fun q2 =>
  (xX10_wayTo pT v2).bind fun q3 =>
  if (q2.1 &&& q3) = 0 then
  (some (.inl (q2.2, w1, (w2 + (1 : Int32)))))
  else
  zlet (w1 ||| ((1 : Int32) <<< (w2 &&& 31))) fun z5 =>
  some (.inl (q2.2, z5, (w2 + (1 : Int32))))
set_option maxHeartbeats 4000000 in
set_option maxRecDepth 100000 in
theorem tX11_silent_L76 {κ : Nat → ClassId} {tg : Nat} {S : zEn} {ad : Nat → Nat} {X : zX} {pX : zM} {pF : zM} {pT : zM} {pB : zM} {pP : zP} {v2 : Int32} {v3 : Nat} {w0 : zM} {w1 : Int32} {w2 : Int32} {r : ((zM × Int32 × Int32) ⊕ (zM × Int32))} (hC : zC X cX11_silent RX11 wsX11_silent vwCl (zty κ) (zE tg S) 7 ({ frames := 5, cells := 0, slots := 0, locals := 119 } : Room)) (hEk : zEk (zE tg S)) (hin : ∀ (x0' : zM) (x1' : Int32) (x2' : Int32), r = .inl (x0', x1', x2') → zV X 0 0 (zwC κ ad pT x0' pX pF pB pP) [(0, .ref (ad 76)), (2, .int v2), (3, .ref (ad (81 + v3))), (4, .int x1'), (5, .int x2')] [] 76) (hout0 : ∀ (x0' : zM) (x1' : Int32), r = .inr (x0', x1') → zV X 0 0 (zwC κ ad pT x0' pX pF pB pP) [(4, .int x1')] [] 127) (h : xX11_silent_L76 pT pB pP v2 v3 w0 w1 w2 = some r) : zV X 0 0 (zwC κ ad pT w0 pX pF pB pP) [(0, .ref (ad 76)), (2, .int v2), (3, .ref (ad (81 + v3))), (4, .int w1), (5, .int w2)] [] 76 := by
  unfold xX11_silent_L76 at h
  refine zr_iload (pc := 76) hC 4 rfl dX11_silent_76 ?_
  refine zr_bipush (pc := 78) hC zkb_10 dX11_silent_78 ?_
  refine zr_icmp_ge (pc := 80) (tgt := 127) hC dX11_silent_80 (by decide) (fun c1 => ?_) (fun c1 => ?_)
  · replace h := zip h c1
    obtain rfl := Option.some.inj h
    exact zV.sub (lv' := [(4, .int w1)]) [3] rfl (hout0 w0 w1 rfl)
  · replace h := zin h c1
    refine zr_aload_n (pc := 83) hC 0 rfl rfl dX11_silent_83 ?_
    refine zcg_76_1 (pc := 84) hC hinX11_silent_X11 flX11_silent_68 dX11_silent_84 ?_
    refine zr_aload_n (pc := 87) hC 2 rfl rfl dX11_silent_87 ?_
    refine zr_iconst (pc := 88) hC zki_1 dX11_silent_88 ?_
    refine zr_iload (pc := 89) hC 4 rfl dX11_silent_89 ?_
    refine zr_ishl (pc := 91) hC dX11_silent_91 ?_
    refine zr_iconst (pc := 92) hC zki_0 dX11_silent_92 ?_
    obtain ⟨q2, hq2, h⟩ := zbd h
    refine zr_cVi (pc := 93) hC hEk [.ref (ad (81 + v3)), .int ((1 : Int32) <<< (w2 &&& 31)), .int (0 : Int32)] [] 62 3 (fun l D => tX6_pressBits hEk hq2 l D) gX11_silent_X6_pressBits rfl rfl rfl ⟨Nat.le_of_ble_eq_true rfl, Nat.le_of_ble_eq_true rfl⟩ hyX6_pressBits (zNC (by decide)) entC_62 rfl rfl rfl (Nat.le_of_ble_eq_true rfl) ⟨Nat.le_of_ble_eq_true rfl, Nat.le_of_ble_eq_true rfl⟩ dX11_silent_93 ?_
    refine zr_istore (pc := 96) (lv' := [(6, .int q2.1), (0, .ref (ad 76)), (2, .int v2), (3, .ref (ad (81 + v3))), (4, .int w1), (5, .int w2)]) hC (by decide) rfl dX11_silent_96 ?_
    refine zr_iload (pc := 98) hC 0 rfl dX11_silent_98 ?_
    refine zr_aload_n (pc := 100) hC 1 rfl rfl dX11_silent_100 ?_
    refine zcg_76_0 (pc := 101) hC hinX11_silent_X11 flX11_silent_59 dX11_silent_101 ?_
    refine zr_iload_n (pc := 104) hC 2 rfl rfl dX11_silent_104 ?_
    obtain ⟨q3, hq3, h⟩ := zbd h
    refine zr_cVi (pc := 105) hC hEk [.int v2] [.int q2.1] 0 1 (fun l D => tX10_wayTo hEk hq3 l D) gX11_silent_X10_wayTo rfl rfl rfl ⟨Nat.le_of_ble_eq_true rfl, Nat.le_of_ble_eq_true rfl⟩ hyX10_wayTo (zNC (by decide)) entC_0 rfl rfl rfl (Nat.le_of_ble_eq_true rfl) ⟨Nat.le_of_ble_eq_true rfl, Nat.le_of_ble_eq_true rfl⟩ dX11_silent_105 ?_
    refine zr_iand (pc := 108) hC dX11_silent_108 ?_
    refine zr_if_eq (pc := 109) (tgt := 121) hC dX11_silent_109 (by decide) (fun c4 => ?_) (fun c4 => ?_)
    · replace h := zip h c4
      refine zr_iinc (pc := 121) (k := 5) (lv' := [(5, .int (w2 + (1 : Int32))), (6, .int q2.1), (0, .ref (ad 76)), (2, .int v2), (3, .ref (ad (81 + v3))), (4, .int w1)]) hC zki_1 (by decide) rfl rfl dX11_silent_121 ?_
      refine zr_goto (pc := 124) (tgt := 76) hC dX11_silent_124 (by decide) ?_
      obtain rfl := Option.some.inj h
      exact zV.sub (lv' := [(0, .ref (ad 76)), (2, .int v2), (3, .ref (ad (81 + v3))), (4, .int w1), (5, .int (w2 + (1 : Int32)))]) [2, 3, 4, 5, 0] rfl (hin q2.2 w1 (w2 + (1 : Int32)) rfl)
    · replace h := zin h c4
      refine zr_iload (pc := 112) hC 4 rfl dX11_silent_112 ?_
      refine zr_iconst (pc := 114) hC zki_1 dX11_silent_114 ?_
      refine zr_iload (pc := 115) hC 5 rfl dX11_silent_115 ?_
      refine zr_ishl (pc := 117) hC dX11_silent_117 ?_
      refine zr_ior (pc := 118) hC dX11_silent_118 ?_
      obtain ⟨z5, e6, h⟩ := zle h
      refine zr_topi e6 ?_
      refine zr_istore (pc := 119) (lv' := [(4, .int z5), (6, .int q2.1), (0, .ref (ad 76)), (2, .int v2), (3, .ref (ad (81 + v3))), (5, .int w2)]) hC (by decide) rfl dX11_silent_119 ?_
      refine zr_iinc (pc := 121) (k := 5) (lv' := [(5, .int (w2 + (1 : Int32))), (4, .int z5), (6, .int q2.1), (0, .ref (ad 76)), (2, .int v2), (3, .ref (ad (81 + v3)))]) hC zki_1 (by decide) rfl rfl dX11_silent_121 ?_
      refine zr_goto (pc := 124) (tgt := 76) hC dX11_silent_124 (by decide) ?_
      obtain rfl := Option.some.inj h
      exact zV.sub (lv' := [(0, .ref (ad 76)), (2, .int v2), (3, .ref (ad (81 + v3))), (4, .int z5), (5, .int (w2 + (1 : Int32)))]) [3, 4, 5, 1, 0] rfl (hin q2.2 z5 (w2 + (1 : Int32)) rfl)
def xX11_silent (pT : zM) (pR : zM) (pB : zM) (pP : zP) (v1 : Int32) (v2 : Int32) : Option (Int32 × zM × zM) :=
  (xX6_playerAt pR pP v1).bind fun q1 =>
  zon q1
  ((xX11_refuse pB (-1 : Int32)).bind fun q5 =>
  some (q5.1, pR, q5.2))
  (fun a2 => if pP.2.2.2 ≤ a2 then none else
  (xX10_has pT v2).bind fun q6 =>
  if q6 = 0 then
  ((xX11_refuse pB (-1 : Int32)).bind fun q21 =>
  some (q21.1, pR, q21.2))
  else
  (xv_kind pP a2).bind fun q8 =>
  if q8 = (1 : Int32) then
  ((xX10_isWhole pT).bind fun q10 =>
  if q10 = 0 then
  ((xX11_refuse pB (-3 : Int32)).bind fun q13 =>
  some (q13.1, pR, q13.2))
  else
  (x_it (fun a9 => xX11_silent_L76 pT pB pP v2 a2 a9.1 a9.2.1 a9.2.2) zFU (pR, (0 : Int32), (1 : Int32))).bind fun q12 =>
  some (q12.2, q12.1, pB))
  else
  (xv_kind pP a2).bind fun q14 =>
  if q14 = (2 : Int32) then
  ((xX10_isWhole pT).bind fun q16 =>
  if q16 = 0 then
  ((xX11_refuse pB (-3 : Int32)).bind fun q19 =>
  some (q19.1, pR, q19.2))
  else
  (x_it (fun a9 => xX11_silent_L76 pT pB pP v2 a2 a9.1 a9.2.1 a9.2.2) zFU (pR, (0 : Int32), (1 : Int32))).bind fun q18 =>
  some (q18.2, q18.1, pB))
  else
  (xX11_refuse pB (-2 : Int32)).bind fun q20 =>
  some (q20.1, pR, q20.2))
set_option maxHeartbeats 4000000 in
set_option maxRecDepth 100000 in
theorem tX11_silent {κ : Nat → ClassId} {tg : Nat} {S : zEn} {ad : Nat → Nat} (hEk : zEk (zE tg S)) {pT : zM} {pR : zM} {pX : zM} {pF : zM} {pB : zM} {pP : zP} {v1 : Int32} {v2 : Int32} {res : (Int32 × zM × zM)} (h : xX11_silent pT pR pB pP v1 v2 = some res) (l : Launch) (D : va_G) : zCT (zE tg S) D vwCl (zty κ) l yX11_silent wsX11_silent ({ frames := 5, cells := 0, slots := 0, locals := 119 } : Room) 0 0 [.ref (ad 76), .int v1, .int v2] (zwC κ ad pT pR pX pF pB pP) (zPd (some (.int res.1)) (zwC κ ad pT res.2.1 pX pF res.2.2 pP)) := by
  refine zCT.of (cc := cX11_silent) (maxL := 7) (ret := (some .int)) (by decide) rfl (Nat.le_of_ble_eq_true rfl) ?_
  intro X hC hR
  unfold xX11_silent at h
  refine zV.sub (lv' := [(0, .ref (ad 76)), (1, .int v1), (2, .int v2)]) [0, 1, 2] rfl ?_
  refine zr_aload_n (pc := 0) hC 0 rfl rfl dX11_silent_0 ?_
  refine zcg_76_1 (pc := 1) hC hinX11_silent_X11 flX11_silent_68 dX11_silent_1 ?_
  refine zr_iload_n (pc := 4) hC 1 rfl rfl dX11_silent_4 ?_
  obtain ⟨q1, hq1, h⟩ := zbd h
  refine zr_cVr (pc := 5) hC hEk [.int v1] [] 62 1 (fun l D => tX6_playerAt hEk hq1 l D) gX11_silent_X6_playerAt rfl rfl rfl ⟨Nat.le_of_ble_eq_true rfl, Nat.le_of_ble_eq_true rfl⟩ hyX6_playerAt (zNC (by decide)) entC_62 rfl rfl rfl (Nat.le_of_ble_eq_true rfl) ⟨Nat.le_of_ble_eq_true rfl, Nat.le_of_ble_eq_true rfl⟩ dX11_silent_5 ?_
  refine zr_astore_nO (pc := 8) (lv' := [(3, va_rf (q1.map (fun a => ad (81 + a)))), (0, .ref (ad 76)), (1, .int v1), (2, .int v2)]) hC rfl (by decide) (by cases q1 <;> rfl) dX11_silent_8 ?_
  refine zr_aload_nO (pc := 9) hC 0 rfl rfl dX11_silent_9 ?_
  refine zr_ifnullM (pc := 10) (tgt := 24) hC dX11_silent_10 (by decide) (fun e3 => ?_) (fun a2 e3 => ?_)
  · replace h := zon_n e3 h
    have h9 := h
    subst e3
    replace h := h9
    clear h9
    show zV X 0 0 (zwC κ ad pT pR pX pF pB pP) [(3, va_rf ((none : Option Nat).map (fun a => ad (81 + a)))), (0, .ref (ad 76)), (1, .int v1), (2, .int v2)] [] 24
    refine zr_aload_n (pc := 24) hC 1 rfl rfl dX11_silent_24 ?_
    refine zr_iconst (pc := 25) hC zki_m1 dX11_silent_25 ?_
    obtain ⟨q5, hq5, h⟩ := zbd h
    refine zr_cVi (pc := 26) hC hEk [.int (-1 : Int32)] [] 76 1 (fun l D => tX11_refuse hEk hq5 l D) gX11_silent_X11_refuse rfl rfl rfl ⟨Nat.le_of_ble_eq_true rfl, Nat.le_of_ble_eq_true rfl⟩ hyX11_refuse (zNC (by decide)) entC_76 rfl rfl rfl (Nat.le_of_ble_eq_true rfl) ⟨Nat.le_of_ble_eq_true rfl, Nat.le_of_ble_eq_true rfl⟩ dX11_silent_26 ?_
    obtain rfl := Option.some.inj h
    exact zr_iret hC hR ⟨rfl, rfl⟩ (Nat.le_refl _) (Nat.le_refl _) dX11_silent_29
  · replace h := zon_s e3 h
    have h9 := h
    subst e3
    replace h := h9
    clear h9
    obtain ⟨i4, h⟩ := zgd h
    show zV X 0 0 (zwC κ ad pT pR pX pF pB pP) [(3, .ref (ad (81 + a2))), (0, .ref (ad 76)), (1, .int v1), (2, .int v2)] [] 13
    refine zr_aload_n (pc := 13) hC 1 rfl rfl dX11_silent_13 ?_
    refine zcg_76_0 (pc := 14) hC hinX11_silent_X11 flX11_silent_59 dX11_silent_14 ?_
    refine zr_iload_n (pc := 17) hC 3 rfl rfl dX11_silent_17 ?_
    obtain ⟨q6, hq6, h⟩ := zbd h
    refine zr_cVi (pc := 18) hC hEk [.int v2] [] 0 1 (fun l D => tX10_has hEk hq6 l D) gX11_silent_X10_has rfl rfl rfl ⟨Nat.le_of_ble_eq_true rfl, Nat.le_of_ble_eq_true rfl⟩ hyX10_has (zNC (by decide)) entC_0 rfl rfl rfl (Nat.le_of_ble_eq_true rfl) ⟨Nat.le_of_ble_eq_true rfl, Nat.le_of_ble_eq_true rfl⟩ dX11_silent_18 ?_
    refine zr_if_ne (pc := 21) (tgt := 30) hC dX11_silent_21 (by decide) (fun c7 => ?_) (fun c7 => ?_)
    · replace h := zin h c7
      refine zr_aload_n (pc := 30) hC 0 rfl rfl dX11_silent_30 ?_
      obtain ⟨q8, hq8, h⟩ := zbd h
      refine vrX11_silent_119 (pc := 31) hC hEk i4 hq8 (rest := []) (Nat.le_of_ble_eq_true rfl) (Nat.le_of_ble_eq_true rfl) (Nat.le_of_ble_eq_true rfl) ⟨Nat.le_of_ble_eq_true rfl, Nat.le_of_ble_eq_true rfl⟩ dX11_silent_31 ?_
      refine zr_iconst (pc := 34) hC zki_1 dX11_silent_34 ?_
      refine zr_icmp_eq (pc := 35) (tgt := 53) hC dX11_silent_35 (by decide) (fun c9 => ?_) (fun c9 => ?_)
      · replace h := zip h c9
        refine zr_aload_n (pc := 53) hC 1 rfl rfl dX11_silent_53 ?_
        refine zcg_76_0 (pc := 54) hC hinX11_silent_X11 flX11_silent_59 dX11_silent_54 ?_
        obtain ⟨q10, hq10, h⟩ := zbd h
        refine zr_cVi (pc := 57) hC hEk [] [] 0 0 (fun l D => tX10_isWhole hEk hq10 l D) gX11_silent_X10_isWhole rfl rfl rfl ⟨Nat.le_of_ble_eq_true rfl, Nat.le_of_ble_eq_true rfl⟩ hyX10_isWhole (zNC (by decide)) entC_0 rfl rfl rfl (Nat.le_of_ble_eq_true rfl) ⟨Nat.le_of_ble_eq_true rfl, Nat.le_of_ble_eq_true rfl⟩ dX11_silent_57 ?_
        refine zr_if_ne (pc := 60) (tgt := 70) hC dX11_silent_60 (by decide) (fun c11 => ?_) (fun c11 => ?_)
        · replace h := zin h c11
          refine zr_iconst (pc := 70) hC zki_0 dX11_silent_70 ?_
          refine zr_istore (pc := 71) (lv' := [(4, .int (0 : Int32)), (3, .ref (ad (81 + a2))), (0, .ref (ad 76)), (1, .int v1), (2, .int v2)]) hC (by decide) rfl dX11_silent_71 ?_
          refine zr_iconst (pc := 73) hC zki_1 dX11_silent_73 ?_
          refine zr_istore (pc := 74) (lv' := [(5, .int (1 : Int32)), (4, .int (0 : Int32)), (3, .ref (ad (81 + a2))), (0, .ref (ad 76)), (1, .int v1), (2, .int v2)]) hC (by decide) rfl dX11_silent_74 ?_
          obtain ⟨q12, hq12, h⟩ := zbd h
          refine zV.sub (lv' := [(0, .ref (ad 76)), (2, .int v2), (3, .ref (ad (81 + a2))), (4, .int (0 : Int32)), (5, .int (1 : Int32))]) [3, 5, 2, 1, 0] rfl ?_
          refine zit3 (Wp := fun (y0 : zM) (y1 : Int32) (y2 : Int32) => zV X 0 0 (zwC κ ad pT y0 pX pF pB pP) [(0, .ref (ad 76)), (2, .int v2), (3, .ref (ad (81 + a2))), (4, .int y1), (5, .int y2)] [] 76) (Ex := fun (b9 : (zM × Int32)) => zV X 0 0 (zwC κ ad pT b9.1 pX pF pB pP) [(4, .int b9.2)] [] 127) (fun y0 y1 y2 r9 hr hin hout => tX11_silent_L76 hC hEk hin (fun z0 z1 e9 => hout (z0, z1) e9) hr) zFU pR (0 : Int32) (1 : Int32) q12 hq12 ?_
          show zV X 0 0 (zwC κ ad pT q12.1 pX pF pB pP) [(4, .int q12.2)] [] 127
          refine zr_iload (pc := 127) hC 0 rfl dX11_silent_127 ?_
          obtain rfl := Option.some.inj h
          exact zr_iret hC hR ⟨rfl, rfl⟩ (Nat.le_refl _) (Nat.le_refl _) dX11_silent_129
        · replace h := zip h c11
          refine zr_aload_n (pc := 63) hC 1 rfl rfl dX11_silent_63 ?_
          refine zr_bipush (pc := 64) hC zkb_m3 dX11_silent_64 ?_
          obtain ⟨q13, hq13, h⟩ := zbd h
          refine zr_cVi (pc := 66) hC hEk [.int (-3 : Int32)] [] 76 1 (fun l D => tX11_refuse hEk hq13 l D) gX11_silent_X11_refuse rfl rfl rfl ⟨Nat.le_of_ble_eq_true rfl, Nat.le_of_ble_eq_true rfl⟩ hyX11_refuse (zNC (by decide)) entC_76 rfl rfl rfl (Nat.le_of_ble_eq_true rfl) ⟨Nat.le_of_ble_eq_true rfl, Nat.le_of_ble_eq_true rfl⟩ dX11_silent_66 ?_
          obtain rfl := Option.some.inj h
          exact zr_iret hC hR ⟨rfl, rfl⟩ (Nat.le_refl _) (Nat.le_refl _) dX11_silent_69
      · replace h := zin h c9
        refine zr_aload_n (pc := 38) hC 0 rfl rfl dX11_silent_38 ?_
        obtain ⟨q14, hq14, h⟩ := zbd h
        refine vrX11_silent_119 (pc := 39) hC hEk i4 hq14 (rest := []) (Nat.le_of_ble_eq_true rfl) (Nat.le_of_ble_eq_true rfl) (Nat.le_of_ble_eq_true rfl) ⟨Nat.le_of_ble_eq_true rfl, Nat.le_of_ble_eq_true rfl⟩ dX11_silent_39 ?_
        refine zr_iconst (pc := 42) hC zki_2 dX11_silent_42 ?_
        refine zr_icmp_eq (pc := 43) (tgt := 53) hC dX11_silent_43 (by decide) (fun c15 => ?_) (fun c15 => ?_)
        · replace h := zip h c15
          refine zr_aload_n (pc := 53) hC 1 rfl rfl dX11_silent_53 ?_
          refine zcg_76_0 (pc := 54) hC hinX11_silent_X11 flX11_silent_59 dX11_silent_54 ?_
          obtain ⟨q16, hq16, h⟩ := zbd h
          refine zr_cVi (pc := 57) hC hEk [] [] 0 0 (fun l D => tX10_isWhole hEk hq16 l D) gX11_silent_X10_isWhole rfl rfl rfl ⟨Nat.le_of_ble_eq_true rfl, Nat.le_of_ble_eq_true rfl⟩ hyX10_isWhole (zNC (by decide)) entC_0 rfl rfl rfl (Nat.le_of_ble_eq_true rfl) ⟨Nat.le_of_ble_eq_true rfl, Nat.le_of_ble_eq_true rfl⟩ dX11_silent_57 ?_
          refine zr_if_ne (pc := 60) (tgt := 70) hC dX11_silent_60 (by decide) (fun c17 => ?_) (fun c17 => ?_)
          · replace h := zin h c17
            refine zr_iconst (pc := 70) hC zki_0 dX11_silent_70 ?_
            refine zr_istore (pc := 71) (lv' := [(4, .int (0 : Int32)), (3, .ref (ad (81 + a2))), (0, .ref (ad 76)), (1, .int v1), (2, .int v2)]) hC (by decide) rfl dX11_silent_71 ?_
            refine zr_iconst (pc := 73) hC zki_1 dX11_silent_73 ?_
            refine zr_istore (pc := 74) (lv' := [(5, .int (1 : Int32)), (4, .int (0 : Int32)), (3, .ref (ad (81 + a2))), (0, .ref (ad 76)), (1, .int v1), (2, .int v2)]) hC (by decide) rfl dX11_silent_74 ?_
            obtain ⟨q18, hq18, h⟩ := zbd h
            refine zV.sub (lv' := [(0, .ref (ad 76)), (2, .int v2), (3, .ref (ad (81 + a2))), (4, .int (0 : Int32)), (5, .int (1 : Int32))]) [3, 5, 2, 1, 0] rfl ?_
            refine zit3 (Wp := fun (y0 : zM) (y1 : Int32) (y2 : Int32) => zV X 0 0 (zwC κ ad pT y0 pX pF pB pP) [(0, .ref (ad 76)), (2, .int v2), (3, .ref (ad (81 + a2))), (4, .int y1), (5, .int y2)] [] 76) (Ex := fun (b9 : (zM × Int32)) => zV X 0 0 (zwC κ ad pT b9.1 pX pF pB pP) [(4, .int b9.2)] [] 127) (fun y0 y1 y2 r9 hr hin hout => tX11_silent_L76 hC hEk hin (fun z0 z1 e9 => hout (z0, z1) e9) hr) zFU pR (0 : Int32) (1 : Int32) q18 hq18 ?_
            show zV X 0 0 (zwC κ ad pT q18.1 pX pF pB pP) [(4, .int q18.2)] [] 127
            refine zr_iload (pc := 127) hC 0 rfl dX11_silent_127 ?_
            obtain rfl := Option.some.inj h
            exact zr_iret hC hR ⟨rfl, rfl⟩ (Nat.le_refl _) (Nat.le_refl _) dX11_silent_129
          · replace h := zip h c17
            refine zr_aload_n (pc := 63) hC 1 rfl rfl dX11_silent_63 ?_
            refine zr_bipush (pc := 64) hC zkb_m3 dX11_silent_64 ?_
            obtain ⟨q19, hq19, h⟩ := zbd h
            refine zr_cVi (pc := 66) hC hEk [.int (-3 : Int32)] [] 76 1 (fun l D => tX11_refuse hEk hq19 l D) gX11_silent_X11_refuse rfl rfl rfl ⟨Nat.le_of_ble_eq_true rfl, Nat.le_of_ble_eq_true rfl⟩ hyX11_refuse (zNC (by decide)) entC_76 rfl rfl rfl (Nat.le_of_ble_eq_true rfl) ⟨Nat.le_of_ble_eq_true rfl, Nat.le_of_ble_eq_true rfl⟩ dX11_silent_66 ?_
            obtain rfl := Option.some.inj h
            exact zr_iret hC hR ⟨rfl, rfl⟩ (Nat.le_refl _) (Nat.le_refl _) dX11_silent_69
        · replace h := zin h c15
          refine zr_aload_n (pc := 46) hC 1 rfl rfl dX11_silent_46 ?_
          refine zr_bipush (pc := 47) hC zkb_m2 dX11_silent_47 ?_
          obtain ⟨q20, hq20, h⟩ := zbd h
          refine zr_cVi (pc := 49) hC hEk [.int (-2 : Int32)] [] 76 1 (fun l D => tX11_refuse hEk hq20 l D) gX11_silent_X11_refuse rfl rfl rfl ⟨Nat.le_of_ble_eq_true rfl, Nat.le_of_ble_eq_true rfl⟩ hyX11_refuse (zNC (by decide)) entC_76 rfl rfl rfl (Nat.le_of_ble_eq_true rfl) ⟨Nat.le_of_ble_eq_true rfl, Nat.le_of_ble_eq_true rfl⟩ dX11_silent_49 ?_
          obtain rfl := Option.some.inj h
          exact zr_iret hC hR ⟨rfl, rfl⟩ (Nat.le_refl _) (Nat.le_refl _) dX11_silent_52
    · replace h := zip h c7
      refine zr_aload_n (pc := 24) hC 1 rfl rfl dX11_silent_24 ?_
      refine zr_iconst (pc := 25) hC zki_m1 dX11_silent_25 ?_
      obtain ⟨q21, hq21, h⟩ := zbd h
      refine zr_cVi (pc := 26) hC hEk [.int (-1 : Int32)] [] 76 1 (fun l D => tX11_refuse hEk hq21 l D) gX11_silent_X11_refuse rfl rfl rfl ⟨Nat.le_of_ble_eq_true rfl, Nat.le_of_ble_eq_true rfl⟩ hyX11_refuse (zNC (by decide)) entC_76 rfl rfl rfl (Nat.le_of_ble_eq_true rfl) ⟨Nat.le_of_ble_eq_true rfl, Nat.le_of_ble_eq_true rfl⟩ dX11_silent_26 ?_
      obtain rfl := Option.some.inj h
      exact zr_iret hC hR ⟨rfl, rfl⟩ (Nat.le_refl _) (Nat.le_refl _) dX11_silent_29
/-! X11_partners -/
theorem hyX11_partners : yX11_partners.cls = RX11 ∧ yX11_partners.cls ≠ "java/lang/invoke/MethodHandle" ∧ yX11_partners.cls ≠ "java/lang/invoke/VarHandle" ∧ (parseMethodDescriptor yX11_partners.desc).map (fun d => d.parameters.length) = some 3 := by decide +kernel
theorem flX11_partners_130 : Cond.fieldLink RX11 130 "BeforeTheEnd$Player" "knows" "I" ∈ wsX11_partners := by decide +kernel
theorem flX11_partners_59 : Cond.fieldLink RX11 59 "BeforeTheEnd" "tree" "LBeforeTheEnd$Tree;" ∈ wsX11_partners := by decide +kernel
theorem flX11_partners_68 : Cond.fieldLink RX11 68 "BeforeTheEnd" "race" "LBeforeTheEnd$Race;" ∈ wsX11_partners := by decide +kernel
theorem hinX11_partners_X11 : ∀ w ∈ wsX110, w ∈ wsX11_partners := fun _ h => List.mem_cons_of_mem _ (List.mem_append_left _ (List.mem_append_left _ (List.mem_append_left _ (List.mem_append_left _ (List.mem_append_left _ (List.mem_append_left _ (List.mem_append_left _ (List.mem_append_left _ (List.mem_append_right _ h)))))))))
theorem hinX11_partners_X0 : ∀ w ∈ wsX00, w ∈ wsX11_partners := fun _ h => List.mem_cons_of_mem _ (List.mem_append_left _ (List.mem_append_left _ (List.mem_append_left _ (List.mem_append_left _ (List.mem_append_left _ (List.mem_append_left _ (List.mem_append_left _ (List.mem_append_right _ h))))))))
theorem hinX11_partners_X1 : ∀ w ∈ wsX10, w ∈ wsX11_partners := fun _ h => List.mem_cons_of_mem _ (List.mem_append_left _ (List.mem_append_left _ (List.mem_append_left _ (List.mem_append_left _ (List.mem_append_left _ (List.mem_append_left _ (List.mem_append_right _ h)))))))
theorem hinX11_partners_X2 : ∀ w ∈ wsX20, w ∈ wsX11_partners := fun _ h => List.mem_cons_of_mem _ (List.mem_append_left _ (List.mem_append_left _ (List.mem_append_left _ (List.mem_append_left _ (List.mem_append_left _ (List.mem_append_right _ h))))))
theorem hinX11_partners_X4 : ∀ w ∈ wsX40, w ∈ wsX11_partners := fun _ h => List.mem_cons_of_mem _ (List.mem_append_left _ (List.mem_append_left _ (List.mem_append_left _ (List.mem_append_left _ (List.mem_append_right _ h)))))
theorem hinX11_partners_X7 : ∀ w ∈ wsX70, w ∈ wsX11_partners := fun _ h => List.mem_cons_of_mem _ (List.mem_append_left _ (List.mem_append_left _ (List.mem_append_left _ (List.mem_append_right _ h))))
theorem hinX11_partners_X9 : ∀ w ∈ wsX90, w ∈ wsX11_partners := fun _ h => List.mem_cons_of_mem _ (List.mem_append_left _ (List.mem_append_left _ (List.mem_append_right _ h)))
theorem hinX11_partners_X6 : ∀ w ∈ wsX60, w ∈ wsX11_partners := fun _ h => List.mem_cons_of_mem _ (List.mem_append_left _ (List.mem_append_right _ h))
theorem hinX11_partners_X10 : ∀ w ∈ wsX100, w ∈ wsX11_partners := fun _ h => List.mem_cons_of_mem _ (List.mem_append_right _ h)
def xX11_partners (pT : zM) (pR : zM) (pB : zM) (pP : zP) (v1 : Int32) (v2 : Int32) (v3 : Int32) : Option (Int32 × zM) :=
  (xX6_playerAt pR pP v1).bind fun q1 =>
  (xX6_playerAt pR pP v2).bind fun q2 =>
  zon q1
  ((xX11_refuse pB (-1 : Int32)).bind fun q6 =>
  some (q6.1, q6.2))
  (fun a3 => if pP.2.2.2 ≤ a3 then none else
  zon q2
  ((xX11_refuse pB (-1 : Int32)).bind fun q10 =>
  some (q10.1, q10.2))
  (fun a7 => if pP.2.2.2 ≤ a7 then none else
  if v1 = v2 then
  ((xX11_refuse pB (-1 : Int32)).bind fun q12 =>
  some (q12.1, q12.2))
  else
  (xX10_has pT v3).bind fun q13 =>
  if q13 = 0 then
  ((xX11_refuse pB (-1 : Int32)).bind fun q26 =>
  some (q26.1, q26.2))
  else
  (xX10_isWhole pT).bind fun q15 =>
  if q15 = 0 then
  ((xX11_refuse pB (-3 : Int32)).bind fun q25 =>
  some (q25.1, q25.2))
  else
  (xX10_guessAt pT v3 (pP.2.2.1 a3 2)).bind fun q17 =>
  (xX10_shareOf pT v3 q17).bind fun q18 =>
  (xX10_guessAt pT v3 (pP.2.2.1 a7 2)).bind fun q19 =>
  (xX10_shareOf pT v3 q19).bind fun q20 =>
  if (lg_cmp q18 (0 : Int64)) = 0 then
  (if (lg_cmp q20 (0 : Int64)) = 0 then
  (some ((-9 : Int32), pB))
  else
  if (lg_cmp q20 q18) ≤ 0 then
  (some (v1, pB))
  else
  some (v2, pB))
  else
  if (lg_cmp q20 q18) ≤ 0 then
  (some (v1, pB))
  else
  some (v2, pB)))
set_option maxHeartbeats 4000000 in
set_option maxRecDepth 100000 in
theorem tX11_partners {κ : Nat → ClassId} {tg : Nat} {S : zEn} {ad : Nat → Nat} (hEk : zEk (zE tg S)) {pT : zM} {pR : zM} {pX : zM} {pF : zM} {pB : zM} {pP : zP} {v1 : Int32} {v2 : Int32} {v3 : Int32} {res : (Int32 × zM)} (h : xX11_partners pT pR pB pP v1 v2 v3 = some res) (l : Launch) (D : va_G) : zCT (zE tg S) D vwCl (zty κ) l yX11_partners wsX11_partners ({ frames := 2, cells := 0, slots := 0, locals := 47 } : Room) 0 0 [.ref (ad 76), .int v1, .int v2, .int v3] (zwC κ ad pT pR pX pF pB pP) (zPd (some (.int res.1)) (zwC κ ad pT pR pX pF res.2 pP)) := by
  refine zCT.of (cc := cX11_partners) (maxL := 10) (ret := (some .int)) (by decide) rfl (Nat.le_of_ble_eq_true rfl) ?_
  intro X hC hR
  unfold xX11_partners at h
  refine zV.sub (lv' := [(0, .ref (ad 76)), (1, .int v1), (2, .int v2), (3, .int v3)]) [0, 1, 2, 3] rfl ?_
  refine zr_aload_n (pc := 0) hC 0 rfl rfl dX11_partners_0 ?_
  refine zcg_76_1 (pc := 1) hC hinX11_partners_X11 flX11_partners_68 dX11_partners_1 ?_
  refine zr_iload_n (pc := 4) hC 1 rfl rfl dX11_partners_4 ?_
  obtain ⟨q1, hq1, h⟩ := zbd h
  refine zr_cVr (pc := 5) hC hEk [.int v1] [] 62 1 (fun l D => tX6_playerAt hEk hq1 l D) gX11_partners_X6_playerAt rfl rfl rfl ⟨Nat.le_of_ble_eq_true rfl, Nat.le_of_ble_eq_true rfl⟩ hyX6_playerAt (zNC (by decide)) entC_62 rfl rfl rfl (Nat.le_of_ble_eq_true rfl) ⟨Nat.le_of_ble_eq_true rfl, Nat.le_of_ble_eq_true rfl⟩ dX11_partners_5 ?_
  refine zr_astoreO (pc := 8) (lv' := [(4, va_rf (q1.map (fun a => ad (81 + a)))), (0, .ref (ad 76)), (1, .int v1), (2, .int v2), (3, .int v3)]) hC (by decide) (by cases q1 <;> rfl) dX11_partners_8 ?_
  refine zr_aload_n (pc := 10) hC 1 rfl rfl dX11_partners_10 ?_
  refine zcg_76_1 (pc := 11) hC hinX11_partners_X11 flX11_partners_68 dX11_partners_11 ?_
  refine zr_iload_n (pc := 14) hC 3 rfl rfl dX11_partners_14 ?_
  obtain ⟨q2, hq2, h⟩ := zbd h
  refine zr_cVr (pc := 15) hC hEk [.int v2] [] 62 1 (fun l D => tX6_playerAt hEk hq2 l D) gX11_partners_X6_playerAt rfl rfl rfl ⟨Nat.le_of_ble_eq_true rfl, Nat.le_of_ble_eq_true rfl⟩ hyX6_playerAt (zNC (by decide)) entC_62 rfl rfl rfl (Nat.le_of_ble_eq_true rfl) ⟨Nat.le_of_ble_eq_true rfl, Nat.le_of_ble_eq_true rfl⟩ dX11_partners_15 ?_
  refine zr_astoreO (pc := 18) (lv' := [(5, va_rf (q2.map (fun a => ad (81 + a)))), (4, va_rf (q1.map (fun a => ad (81 + a)))), (0, .ref (ad 76)), (1, .int v1), (2, .int v2), (3, .int v3)]) hC (by decide) (by cases q1 <;> cases q2 <;> rfl) dX11_partners_18 ?_
  refine zr_aloadO (pc := 20) hC 1 rfl dX11_partners_20 ?_
  refine zr_ifnullM (pc := 22) (tgt := 46) hC dX11_partners_22 (by decide) (fun e4 => ?_) (fun a3 e4 => ?_)
  · replace h := zon_n e4 h
    have h9 := h
    subst e4
    replace h := h9
    clear h9
    show zV X 0 0 (zwC κ ad pT pR pX pF pB pP) [(5, va_rf (q2.map (fun a => ad (81 + a)))), (4, va_rf ((none : Option Nat).map (fun a => ad (81 + a)))), (0, .ref (ad 76)), (1, .int v1), (2, .int v2), (3, .int v3)] [] 46
    refine zr_aload_n (pc := 46) hC 2 rfl rfl dX11_partners_46 ?_
    refine zr_iconst (pc := 47) hC zki_m1 dX11_partners_47 ?_
    obtain ⟨q6, hq6, h⟩ := zbd h
    refine zr_cVi (pc := 48) hC hEk [.int (-1 : Int32)] [] 76 1 (fun l D => tX11_refuse hEk hq6 l D) gX11_partners_X11_refuse rfl rfl rfl ⟨Nat.le_of_ble_eq_true rfl, Nat.le_of_ble_eq_true rfl⟩ hyX11_refuse (zNC (by decide)) entC_76 rfl rfl rfl (Nat.le_of_ble_eq_true rfl) ⟨Nat.le_of_ble_eq_true rfl, Nat.le_of_ble_eq_true rfl⟩ dX11_partners_48 ?_
    obtain rfl := Option.some.inj h
    exact zr_iret hC hR ⟨rfl, rfl⟩ (Nat.le_refl _) (Nat.le_refl _) dX11_partners_51
  · replace h := zon_s e4 h
    have h9 := h
    subst e4
    replace h := h9
    clear h9
    obtain ⟨i5, h⟩ := zgd h
    show zV X 0 0 (zwC κ ad pT pR pX pF pB pP) [(5, va_rf (q2.map (fun a => ad (81 + a)))), (4, .ref (ad (81 + a3))), (0, .ref (ad 76)), (1, .int v1), (2, .int v2), (3, .int v3)] [] 25
    refine zr_aloadO (pc := 25) hC 0 rfl dX11_partners_25 ?_
    refine zr_ifnullM (pc := 27) (tgt := 46) hC dX11_partners_27 (by decide) (fun e8 => ?_) (fun a7 e8 => ?_)
    · replace h := zon_n e8 h
      have h9 := h
      subst e8
      replace h := h9
      clear h9
      show zV X 0 0 (zwC κ ad pT pR pX pF pB pP) [(5, va_rf ((none : Option Nat).map (fun a => ad (81 + a)))), (4, .ref (ad (81 + a3))), (0, .ref (ad 76)), (1, .int v1), (2, .int v2), (3, .int v3)] [] 46
      refine zr_aload_n (pc := 46) hC 2 rfl rfl dX11_partners_46 ?_
      refine zr_iconst (pc := 47) hC zki_m1 dX11_partners_47 ?_
      obtain ⟨q10, hq10, h⟩ := zbd h
      refine zr_cVi (pc := 48) hC hEk [.int (-1 : Int32)] [] 76 1 (fun l D => tX11_refuse hEk hq10 l D) gX11_partners_X11_refuse rfl rfl rfl ⟨Nat.le_of_ble_eq_true rfl, Nat.le_of_ble_eq_true rfl⟩ hyX11_refuse (zNC (by decide)) entC_76 rfl rfl rfl (Nat.le_of_ble_eq_true rfl) ⟨Nat.le_of_ble_eq_true rfl, Nat.le_of_ble_eq_true rfl⟩ dX11_partners_48 ?_
      obtain rfl := Option.some.inj h
      exact zr_iret hC hR ⟨rfl, rfl⟩ (Nat.le_refl _) (Nat.le_refl _) dX11_partners_51
    · replace h := zon_s e8 h
      have h9 := h
      subst e8
      replace h := h9
      clear h9
      obtain ⟨i9, h⟩ := zgd h
      show zV X 0 0 (zwC κ ad pT pR pX pF pB pP) [(5, .ref (ad (81 + a7))), (4, .ref (ad (81 + a3))), (0, .ref (ad 76)), (1, .int v1), (2, .int v2), (3, .int v3)] [] 30
      refine zr_iload_n (pc := 30) hC 3 rfl rfl dX11_partners_30 ?_
      refine zr_iload_n (pc := 31) hC 4 rfl rfl dX11_partners_31 ?_
      refine zr_icmp_eq (pc := 32) (tgt := 46) hC dX11_partners_32 (by decide) (fun c11 => ?_) (fun c11 => ?_)
      · replace h := zip h c11
        refine zr_aload_n (pc := 46) hC 2 rfl rfl dX11_partners_46 ?_
        refine zr_iconst (pc := 47) hC zki_m1 dX11_partners_47 ?_
        obtain ⟨q12, hq12, h⟩ := zbd h
        refine zr_cVi (pc := 48) hC hEk [.int (-1 : Int32)] [] 76 1 (fun l D => tX11_refuse hEk hq12 l D) gX11_partners_X11_refuse rfl rfl rfl ⟨Nat.le_of_ble_eq_true rfl, Nat.le_of_ble_eq_true rfl⟩ hyX11_refuse (zNC (by decide)) entC_76 rfl rfl rfl (Nat.le_of_ble_eq_true rfl) ⟨Nat.le_of_ble_eq_true rfl, Nat.le_of_ble_eq_true rfl⟩ dX11_partners_48 ?_
        obtain rfl := Option.some.inj h
        exact zr_iret hC hR ⟨rfl, rfl⟩ (Nat.le_refl _) (Nat.le_refl _) dX11_partners_51
      · replace h := zin h c11
        refine zr_aload_n (pc := 35) hC 2 rfl rfl dX11_partners_35 ?_
        refine zcg_76_0 (pc := 36) hC hinX11_partners_X11 flX11_partners_59 dX11_partners_36 ?_
        refine zr_iload_n (pc := 39) hC 5 rfl rfl dX11_partners_39 ?_
        obtain ⟨q13, hq13, h⟩ := zbd h
        refine zr_cVi (pc := 40) hC hEk [.int v3] [] 0 1 (fun l D => tX10_has hEk hq13 l D) gX11_partners_X10_has rfl rfl rfl ⟨Nat.le_of_ble_eq_true rfl, Nat.le_of_ble_eq_true rfl⟩ hyX10_has (zNC (by decide)) entC_0 rfl rfl rfl (Nat.le_of_ble_eq_true rfl) ⟨Nat.le_of_ble_eq_true rfl, Nat.le_of_ble_eq_true rfl⟩ dX11_partners_40 ?_
        refine zr_if_ne (pc := 43) (tgt := 52) hC dX11_partners_43 (by decide) (fun c14 => ?_) (fun c14 => ?_)
        · replace h := zin h c14
          refine zr_aload_n (pc := 52) hC 2 rfl rfl dX11_partners_52 ?_
          refine zcg_76_0 (pc := 53) hC hinX11_partners_X11 flX11_partners_59 dX11_partners_53 ?_
          obtain ⟨q15, hq15, h⟩ := zbd h
          refine zr_cVi (pc := 56) hC hEk [] [] 0 0 (fun l D => tX10_isWhole hEk hq15 l D) gX11_partners_X10_isWhole rfl rfl rfl ⟨Nat.le_of_ble_eq_true rfl, Nat.le_of_ble_eq_true rfl⟩ hyX10_isWhole (zNC (by decide)) entC_0 rfl rfl rfl (Nat.le_of_ble_eq_true rfl) ⟨Nat.le_of_ble_eq_true rfl, Nat.le_of_ble_eq_true rfl⟩ dX11_partners_56 ?_
          refine zr_if_ne (pc := 59) (tgt := 69) hC dX11_partners_59 (by decide) (fun c16 => ?_) (fun c16 => ?_)
          · replace h := zin h c16
            refine zr_aload_n (pc := 69) hC 2 rfl rfl dX11_partners_69 ?_
            refine zcg_76_0 (pc := 70) hC hinX11_partners_X11 flX11_partners_59 dX11_partners_70 ?_
            refine zr_iload_n (pc := 73) hC 5 rfl rfl dX11_partners_73 ?_
            refine zr_aload_n (pc := 74) hC 2 rfl rfl dX11_partners_74 ?_
            refine zcg_76_0 (pc := 75) hC hinX11_partners_X11 flX11_partners_59 dX11_partners_75 ?_
            refine zr_iload_n (pc := 78) hC 5 rfl rfl dX11_partners_78 ?_
            refine zr_aload (pc := 79) hC 1 rfl dX11_partners_79 ?_
            refine zpg_2 (pc := 81) hC hinX11_partners_X2 hinX11_partners_X7 hinX11_partners_X1 hinX11_partners_X4 hinX11_partners_X9 hinX11_partners_X0 flX11_partners_130 i5 dX11_partners_81 ?_
            obtain ⟨q17, hq17, h⟩ := zbd h
            refine zr_cVi (pc := 84) hC hEk [.int v3, .int (pP.2.2.1 a3 2)] [.int v3, .ref (ad 0)] 0 2 (fun l D => tX10_guessAt hEk hq17 l D) gX11_partners_X10_guessAt rfl rfl rfl ⟨Nat.le_of_ble_eq_true rfl, Nat.le_of_ble_eq_true rfl⟩ hyX10_guessAt (zNC (by decide)) entC_0 rfl rfl rfl (Nat.le_of_ble_eq_true rfl) ⟨Nat.le_of_ble_eq_true rfl, Nat.le_of_ble_eq_true rfl⟩ dX11_partners_84 ?_
            obtain ⟨q18, hq18, h⟩ := zbd h
            refine zr_cVl (pc := 87) hC hEk [.int v3, .int q17] [] 0 2 (fun l D => tX10_shareOf hEk hq18 l D) gX11_partners_X10_shareOf rfl rfl rfl ⟨Nat.le_of_ble_eq_true rfl, Nat.le_of_ble_eq_true rfl⟩ hyX10_shareOf (zNC (by decide)) entC_0 rfl rfl rfl (Nat.le_of_ble_eq_true rfl) ⟨Nat.le_of_ble_eq_true rfl, Nat.le_of_ble_eq_true rfl⟩ dX11_partners_87 ?_
            refine zr_lstore (pc := 90) (lv' := [(6, .long q18), (5, .ref (ad (81 + a7))), (4, .ref (ad (81 + a3))), (0, .ref (ad 76)), (1, .int v1), (2, .int v2), (3, .int v3)]) hC (by decide) rfl dX11_partners_90 ?_
            refine zr_aload_n (pc := 92) hC 3 rfl rfl dX11_partners_92 ?_
            refine zcg_76_0 (pc := 93) hC hinX11_partners_X11 flX11_partners_59 dX11_partners_93 ?_
            refine zr_iload_n (pc := 96) hC 6 rfl rfl dX11_partners_96 ?_
            refine zr_aload_n (pc := 97) hC 3 rfl rfl dX11_partners_97 ?_
            refine zcg_76_0 (pc := 98) hC hinX11_partners_X11 flX11_partners_59 dX11_partners_98 ?_
            refine zr_iload_n (pc := 101) hC 6 rfl rfl dX11_partners_101 ?_
            refine zr_aload (pc := 102) hC 1 rfl dX11_partners_102 ?_
            refine zpg_2 (pc := 104) hC hinX11_partners_X2 hinX11_partners_X7 hinX11_partners_X1 hinX11_partners_X4 hinX11_partners_X9 hinX11_partners_X0 flX11_partners_130 i9 dX11_partners_104 ?_
            obtain ⟨q19, hq19, h⟩ := zbd h
            refine zr_cVi (pc := 107) hC hEk [.int v3, .int (pP.2.2.1 a7 2)] [.int v3, .ref (ad 0)] 0 2 (fun l D => tX10_guessAt hEk hq19 l D) gX11_partners_X10_guessAt rfl rfl rfl ⟨Nat.le_of_ble_eq_true rfl, Nat.le_of_ble_eq_true rfl⟩ hyX10_guessAt (zNC (by decide)) entC_0 rfl rfl rfl (Nat.le_of_ble_eq_true rfl) ⟨Nat.le_of_ble_eq_true rfl, Nat.le_of_ble_eq_true rfl⟩ dX11_partners_107 ?_
            obtain ⟨q20, hq20, h⟩ := zbd h
            refine zr_cVl (pc := 110) hC hEk [.int v3, .int q19] [] 0 2 (fun l D => tX10_shareOf hEk hq20 l D) gX11_partners_X10_shareOf rfl rfl rfl ⟨Nat.le_of_ble_eq_true rfl, Nat.le_of_ble_eq_true rfl⟩ hyX10_shareOf (zNC (by decide)) entC_0 rfl rfl rfl (Nat.le_of_ble_eq_true rfl) ⟨Nat.le_of_ble_eq_true rfl, Nat.le_of_ble_eq_true rfl⟩ dX11_partners_110 ?_
            refine zr_lstore (pc := 113) (lv' := [(8, .long q20), (6, .long q18), (5, .ref (ad (81 + a7))), (4, .ref (ad (81 + a3))), (0, .ref (ad 76)), (1, .int v1), (2, .int v2), (3, .int v3)]) hC (by decide) rfl dX11_partners_113 ?_
            refine zr_lload (pc := 115) hC 1 rfl dX11_partners_115 ?_
            refine zr_lconst (pc := 117) hC zkl_0 dX11_partners_117 ?_
            refine zr_lcmp (pc := 118) hC dX11_partners_118 ?_
            refine zr_if_ne (pc := 119) (tgt := 132) hC dX11_partners_119 (by decide) (fun c21 => ?_) (fun c21 => ?_)
            · replace h := zin h c21
              refine zr_lload (pc := 132) hC 0 rfl dX11_partners_132 ?_
              refine zr_lload (pc := 134) hC 1 rfl dX11_partners_134 ?_
              refine zr_lcmp (pc := 136) hC dX11_partners_136 ?_
              refine zr_if_le (pc := 137) (tgt := 144) hC dX11_partners_137 (by decide) (fun c22 => ?_) (fun c22 => ?_)
              · replace h := zip h c22
                refine zr_iload_n (pc := 144) hC 5 rfl rfl dX11_partners_144 ?_
                obtain rfl := Option.some.inj h
                exact zr_iret hC hR ⟨rfl, rfl⟩ (Nat.le_refl _) (Nat.le_refl _) dX11_partners_145
              · replace h := zin h c22
                refine zr_iload_n (pc := 140) hC 6 rfl rfl dX11_partners_140 ?_
                refine zr_goto (pc := 141) (tgt := 145) hC dX11_partners_141 (by decide) ?_
                obtain rfl := Option.some.inj h
                exact zr_iret hC hR ⟨rfl, rfl⟩ (Nat.le_refl _) (Nat.le_refl _) dX11_partners_145
            · replace h := zip h c21
              refine zr_lload (pc := 122) hC 0 rfl dX11_partners_122 ?_
              refine zr_lconst (pc := 124) hC zkl_0 dX11_partners_124 ?_
              refine zr_lcmp (pc := 125) hC dX11_partners_125 ?_
              refine zr_if_ne (pc := 126) (tgt := 132) hC dX11_partners_126 (by decide) (fun c23 => ?_) (fun c23 => ?_)
              · replace h := zin h c23
                refine zr_lload (pc := 132) hC 0 rfl dX11_partners_132 ?_
                refine zr_lload (pc := 134) hC 1 rfl dX11_partners_134 ?_
                refine zr_lcmp (pc := 136) hC dX11_partners_136 ?_
                refine zr_if_le (pc := 137) (tgt := 144) hC dX11_partners_137 (by decide) (fun c24 => ?_) (fun c24 => ?_)
                · replace h := zip h c24
                  refine zr_iload_n (pc := 144) hC 5 rfl rfl dX11_partners_144 ?_
                  obtain rfl := Option.some.inj h
                  exact zr_iret hC hR ⟨rfl, rfl⟩ (Nat.le_refl _) (Nat.le_refl _) dX11_partners_145
                · replace h := zin h c24
                  refine zr_iload_n (pc := 140) hC 6 rfl rfl dX11_partners_140 ?_
                  refine zr_goto (pc := 141) (tgt := 145) hC dX11_partners_141 (by decide) ?_
                  obtain rfl := Option.some.inj h
                  exact zr_iret hC hR ⟨rfl, rfl⟩ (Nat.le_refl _) (Nat.le_refl _) dX11_partners_145
              · replace h := zip h c23
                refine zr_bipush (pc := 129) hC zkb_m9 dX11_partners_129 ?_
                obtain rfl := Option.some.inj h
                exact zr_iret hC hR ⟨rfl, rfl⟩ (Nat.le_refl _) (Nat.le_refl _) dX11_partners_131
          · replace h := zip h c16
            refine zr_aload_n (pc := 62) hC 2 rfl rfl dX11_partners_62 ?_
            refine zr_bipush (pc := 63) hC zkb_m3 dX11_partners_63 ?_
            obtain ⟨q25, hq25, h⟩ := zbd h
            refine zr_cVi (pc := 65) hC hEk [.int (-3 : Int32)] [] 76 1 (fun l D => tX11_refuse hEk hq25 l D) gX11_partners_X11_refuse rfl rfl rfl ⟨Nat.le_of_ble_eq_true rfl, Nat.le_of_ble_eq_true rfl⟩ hyX11_refuse (zNC (by decide)) entC_76 rfl rfl rfl (Nat.le_of_ble_eq_true rfl) ⟨Nat.le_of_ble_eq_true rfl, Nat.le_of_ble_eq_true rfl⟩ dX11_partners_65 ?_
            obtain rfl := Option.some.inj h
            exact zr_iret hC hR ⟨rfl, rfl⟩ (Nat.le_refl _) (Nat.le_refl _) dX11_partners_68
        · replace h := zip h c14
          refine zr_aload_n (pc := 46) hC 2 rfl rfl dX11_partners_46 ?_
          refine zr_iconst (pc := 47) hC zki_m1 dX11_partners_47 ?_
          obtain ⟨q26, hq26, h⟩ := zbd h
          refine zr_cVi (pc := 48) hC hEk [.int (-1 : Int32)] [] 76 1 (fun l D => tX11_refuse hEk hq26 l D) gX11_partners_X11_refuse rfl rfl rfl ⟨Nat.le_of_ble_eq_true rfl, Nat.le_of_ble_eq_true rfl⟩ hyX11_refuse (zNC (by decide)) entC_76 rfl rfl rfl (Nat.le_of_ble_eq_true rfl) ⟨Nat.le_of_ble_eq_true rfl, Nat.le_of_ble_eq_true rfl⟩ dX11_partners_48 ?_
          obtain rfl := Option.some.inj h
          exact zr_iret hC hR ⟨rfl, rfl⟩ (Nat.le_refl _) (Nat.le_refl _) dX11_partners_51
/-! X11_fact -/
theorem hyX11_fact : yX11_fact.cls = RX11 ∧ yX11_fact.cls ≠ "java/lang/invoke/MethodHandle" ∧ yX11_fact.cls ≠ "java/lang/invoke/VarHandle" ∧ (parseMethodDescriptor yX11_fact.desc).map (fun d => d.parameters.length) = some 1 := by decide +kernel
theorem flX11_fact_19 : Cond.fieldLink RX11 19 "BeforeTheEnd" "facts" "LBeforeTheEnd$Facts;" ∈ wsX11_fact := by decide +kernel
theorem hinX11_fact_X11 : ∀ w ∈ wsX110, w ∈ wsX11_fact := fun _ h => List.mem_cons_of_mem _ (List.mem_append_left _ (List.mem_append_right _ h))
theorem hinX11_fact_X3 : ∀ w ∈ wsX30, w ∈ wsX11_fact := fun _ h => List.mem_cons_of_mem _ (List.mem_append_right _ h)
def xX11_fact (pF : zM) (pB : zM) (v1 : Int32) : Option (Int32 × zM × zM) :=
  if v1 < 0 then
  ((xX11_refuse pB (-1 : Int32)).bind fun q2 =>
  some (q2.1, pF, q2.2))
  else
  if (v1 &&& (-1023 : Int32)) = 0 then
  ((xX3_size pF).bind fun q4 =>
  if q4 < (5 : Int32) then
  ((xX3_append pF v1).bind fun q6 =>
  some (q6.1, q6.2, pB))
  else
  (xX11_refuse pB (-6 : Int32)).bind fun q7 =>
  some (q7.1, pF, q7.2))
  else
  (xX11_refuse pB (-1 : Int32)).bind fun q8 =>
  some (q8.1, pF, q8.2)
set_option maxHeartbeats 4000000 in
set_option maxRecDepth 100000 in
theorem tX11_fact {κ : Nat → ClassId} {tg : Nat} {S : zEn} {ad : Nat → Nat} (hEk : zEk (zE tg S)) {pT : zM} {pR : zM} {pX : zM} {pF : zM} {pB : zM} {pP : zP} {v1 : Int32} {res : (Int32 × zM × zM)} (h : xX11_fact pF pB v1 = some res) (l : Launch) (D : va_G) : zCT (zE tg S) D vwCl (zty κ) l yX11_fact wsX11_fact ({ frames := 1, cells := 0, slots := 0, locals := 22 } : Room) 0 0 [.ref (ad 76), .int v1] (zwC κ ad pT pR pX pF pB pP) (zPd (some (.int res.1)) (zwC κ ad pT pR pX res.2.1 res.2.2 pP)) := by
  refine zCT.of (cc := cX11_fact) (maxL := 2) (ret := (some .int)) (by decide) rfl (Nat.le_of_ble_eq_true rfl) ?_
  intro X hC hR
  unfold xX11_fact at h
  refine zV.sub (lv' := [(0, .ref (ad 76)), (1, .int v1)]) [0, 1] rfl ?_
  refine zr_iload_n (pc := 0) hC 1 rfl rfl dX11_fact_0 ?_
  refine zr_if_lt (pc := 1) (tgt := 12) hC dX11_fact_1 (by decide) (fun c1 => ?_) (fun c1 => ?_)
  · replace h := zip h c1
    refine zr_aload_n (pc := 12) hC 0 rfl rfl dX11_fact_12 ?_
    refine zr_iconst (pc := 13) hC zki_m1 dX11_fact_13 ?_
    obtain ⟨q2, hq2, h⟩ := zbd h
    refine zr_cVi (pc := 14) hC hEk [.int (-1 : Int32)] [] 76 1 (fun l D => tX11_refuse hEk hq2 l D) gX11_fact_X11_refuse rfl rfl rfl ⟨Nat.le_of_ble_eq_true rfl, Nat.le_of_ble_eq_true rfl⟩ hyX11_refuse (zNC (by decide)) entC_76 rfl rfl rfl (Nat.le_of_ble_eq_true rfl) ⟨Nat.le_of_ble_eq_true rfl, Nat.le_of_ble_eq_true rfl⟩ dX11_fact_14 ?_
    obtain rfl := Option.some.inj h
    exact zr_iret hC hR ⟨rfl, rfl⟩ (Nat.le_refl _) (Nat.le_refl _) dX11_fact_17
  · replace h := zin h c1
    refine zr_iload_n (pc := 4) hC 1 rfl rfl dX11_fact_4 ?_
    refine zr_sipush (pc := 5) hC zks_m1023 dX11_fact_5 ?_
    refine zr_iand (pc := 8) hC dX11_fact_8 ?_
    refine zr_if_eq (pc := 9) (tgt := 18) hC dX11_fact_9 (by decide) (fun c3 => ?_) (fun c3 => ?_)
    · replace h := zip h c3
      refine zr_aload_n (pc := 18) hC 0 rfl rfl dX11_fact_18 ?_
      refine zcg_76_3 (pc := 19) hC hinX11_fact_X11 flX11_fact_19 dX11_fact_19 ?_
      obtain ⟨q4, hq4, h⟩ := zbd h
      refine zr_cVi (pc := 22) hC hEk [] [] 72 0 (fun l D => tX3_size hEk hq4 l D) gX11_fact_X3_size rfl rfl rfl ⟨Nat.le_of_ble_eq_true rfl, Nat.le_of_ble_eq_true rfl⟩ hyX3_size (zNC (by decide)) entC_72 rfl rfl rfl (Nat.le_of_ble_eq_true rfl) ⟨Nat.le_of_ble_eq_true rfl, Nat.le_of_ble_eq_true rfl⟩ dX11_fact_22 ?_
      refine zr_iconst (pc := 25) hC zki_5 dX11_fact_25 ?_
      refine zr_icmp_lt (pc := 26) (tgt := 36) hC dX11_fact_26 (by decide) (fun c5 => ?_) (fun c5 => ?_)
      · replace h := zip h c5
        refine zr_aload_n (pc := 36) hC 0 rfl rfl dX11_fact_36 ?_
        refine zcg_76_3 (pc := 37) hC hinX11_fact_X11 flX11_fact_19 dX11_fact_37 ?_
        refine zr_iload_n (pc := 40) hC 1 rfl rfl dX11_fact_40 ?_
        obtain ⟨q6, hq6, h⟩ := zbd h
        refine zr_cVi (pc := 41) hC hEk [.int v1] [] 72 1 (fun l D => tX3_append hEk hq6 l D) gX11_fact_X3_append rfl rfl rfl ⟨Nat.le_of_ble_eq_true rfl, Nat.le_of_ble_eq_true rfl⟩ hyX3_append (zNC (by decide)) entC_72 rfl rfl rfl (Nat.le_of_ble_eq_true rfl) ⟨Nat.le_of_ble_eq_true rfl, Nat.le_of_ble_eq_true rfl⟩ dX11_fact_41 ?_
        obtain rfl := Option.some.inj h
        exact zr_iret hC hR ⟨rfl, rfl⟩ (Nat.le_refl _) (Nat.le_refl _) dX11_fact_44
      · replace h := zin h c5
        refine zr_aload_n (pc := 29) hC 0 rfl rfl dX11_fact_29 ?_
        refine zr_bipush (pc := 30) hC zkb_m6 dX11_fact_30 ?_
        obtain ⟨q7, hq7, h⟩ := zbd h
        refine zr_cVi (pc := 32) hC hEk [.int (-6 : Int32)] [] 76 1 (fun l D => tX11_refuse hEk hq7 l D) gX11_fact_X11_refuse rfl rfl rfl ⟨Nat.le_of_ble_eq_true rfl, Nat.le_of_ble_eq_true rfl⟩ hyX11_refuse (zNC (by decide)) entC_76 rfl rfl rfl (Nat.le_of_ble_eq_true rfl) ⟨Nat.le_of_ble_eq_true rfl, Nat.le_of_ble_eq_true rfl⟩ dX11_fact_32 ?_
        obtain rfl := Option.some.inj h
        exact zr_iret hC hR ⟨rfl, rfl⟩ (Nat.le_refl _) (Nat.le_refl _) dX11_fact_35
    · replace h := zin h c3
      refine zr_aload_n (pc := 12) hC 0 rfl rfl dX11_fact_12 ?_
      refine zr_iconst (pc := 13) hC zki_m1 dX11_fact_13 ?_
      obtain ⟨q8, hq8, h⟩ := zbd h
      refine zr_cVi (pc := 14) hC hEk [.int (-1 : Int32)] [] 76 1 (fun l D => tX11_refuse hEk hq8 l D) gX11_fact_X11_refuse rfl rfl rfl ⟨Nat.le_of_ble_eq_true rfl, Nat.le_of_ble_eq_true rfl⟩ hyX11_refuse (zNC (by decide)) entC_76 rfl rfl rfl (Nat.le_of_ble_eq_true rfl) ⟨Nat.le_of_ble_eq_true rfl, Nat.le_of_ble_eq_true rfl⟩ dX11_fact_14 ?_
      obtain rfl := Option.some.inj h
      exact zr_iret hC hR ⟨rfl, rfl⟩ (Nat.le_refl _) (Nat.le_refl _) dX11_fact_17
/-! X11_had -/
theorem hyX11_had : yX11_had.cls = RX11 ∧ yX11_had.cls ≠ "java/lang/invoke/MethodHandle" ∧ yX11_had.cls ≠ "java/lang/invoke/VarHandle" ∧ (parseMethodDescriptor yX11_had.desc).map (fun d => d.parameters.length) = some 2 := by decide +kernel
theorem flX11_had_19 : Cond.fieldLink RX11 19 "BeforeTheEnd" "facts" "LBeforeTheEnd$Facts;" ∈ wsX11_had := by decide +kernel
theorem hinX11_had_X11 : ∀ w ∈ wsX110, w ∈ wsX11_had := fun _ h => List.mem_cons_of_mem _ (List.mem_append_left _ (List.mem_append_right _ h))
theorem hinX11_had_X3 : ∀ w ∈ wsX30, w ∈ wsX11_had := fun _ h => List.mem_cons_of_mem _ (List.mem_append_right _ h)
def xX11_had (pF : zM) (pB : zM) (v1 : Int32) (v2 : Int32) : Option (Int32 × zM × zM) :=
  if 0 ≤ v1 then
  (if v1 ≤ (5 : Int32) then
  (if v2 < 0 then
  ((xX11_refuse pB (-1 : Int32)).bind fun q4 =>
  some (q4.1, pF, q4.2))
  else
  (xX3_takeOrder pF v1 v2).bind fun q5 =>
  if q5.1 = 0 then
  ((xX11_refuse pB (-1 : Int32)).bind fun q8 =>
  some (q8.1, q5.2, q8.2))
  else
  (xX3_hadBehind q5.2 v1).bind fun q7 =>
  some (q7, q5.2, pB))
  else
  (xX11_refuse pB (-6 : Int32)).bind fun q9 =>
  some (q9.1, pF, q9.2))
  else
  (xX11_refuse pB (-4 : Int32)).bind fun q10 =>
  some (q10.1, pF, q10.2)
set_option maxHeartbeats 4000000 in
set_option maxRecDepth 100000 in
theorem tX11_had {κ : Nat → ClassId} {tg : Nat} {S : zEn} {ad : Nat → Nat} (hEk : zEk (zE tg S)) {pT : zM} {pR : zM} {pX : zM} {pF : zM} {pB : zM} {pP : zP} {v1 : Int32} {v2 : Int32} {res : (Int32 × zM × zM)} (h : xX11_had pF pB v1 v2 = some res) (l : Launch) (D : va_G) : zCT (zE tg S) D vwCl (zty κ) l yX11_had wsX11_had ({ frames := 2, cells := 0, slots := 0, locals := 44 } : Room) 0 0 [.ref (ad 76), .int v1, .int v2] (zwC κ ad pT pR pX pF pB pP) (zPd (some (.int res.1)) (zwC κ ad pT pR pX res.2.1 res.2.2 pP)) := by
  refine zCT.of (cc := cX11_had) (maxL := 3) (ret := (some .int)) (by decide) rfl (Nat.le_of_ble_eq_true rfl) ?_
  intro X hC hR
  unfold xX11_had at h
  refine zV.sub (lv' := [(0, .ref (ad 76)), (1, .int v1), (2, .int v2)]) [0, 1, 2] rfl ?_
  refine zr_iload_n (pc := 0) hC 1 rfl rfl dX11_had_0 ?_
  refine zr_if_ge (pc := 1) (tgt := 11) hC dX11_had_1 (by decide) (fun c1 => ?_) (fun c1 => ?_)
  · replace h := zip h c1
    refine zr_iload_n (pc := 11) hC 1 rfl rfl dX11_had_11 ?_
    refine zr_iconst (pc := 12) hC zki_5 dX11_had_12 ?_
    refine zr_icmp_le (pc := 13) (tgt := 23) hC dX11_had_13 (by decide) (fun c2 => ?_) (fun c2 => ?_)
    · replace h := zip h c2
      refine zr_iload_n (pc := 23) hC 2 rfl rfl dX11_had_23 ?_
      refine zr_if_lt (pc := 24) (tgt := 39) hC dX11_had_24 (by decide) (fun c3 => ?_) (fun c3 => ?_)
      · replace h := zip h c3
        refine zr_aload_n (pc := 39) hC 0 rfl rfl dX11_had_39 ?_
        refine zr_iconst (pc := 40) hC zki_m1 dX11_had_40 ?_
        obtain ⟨q4, hq4, h⟩ := zbd h
        refine zr_cVi (pc := 41) hC hEk [.int (-1 : Int32)] [] 76 1 (fun l D => tX11_refuse hEk hq4 l D) gX11_had_X11_refuse rfl rfl rfl ⟨Nat.le_of_ble_eq_true rfl, Nat.le_of_ble_eq_true rfl⟩ hyX11_refuse (zNC (by decide)) entC_76 rfl rfl rfl (Nat.le_of_ble_eq_true rfl) ⟨Nat.le_of_ble_eq_true rfl, Nat.le_of_ble_eq_true rfl⟩ dX11_had_41 ?_
        obtain rfl := Option.some.inj h
        exact zr_iret hC hR ⟨rfl, rfl⟩ (Nat.le_refl _) (Nat.le_refl _) dX11_had_44
      · replace h := zin h c3
        refine zr_aload_n (pc := 27) hC 0 rfl rfl dX11_had_27 ?_
        refine zcg_76_3 (pc := 28) hC hinX11_had_X11 flX11_had_19 dX11_had_28 ?_
        refine zr_iload_n (pc := 31) hC 1 rfl rfl dX11_had_31 ?_
        refine zr_iload_n (pc := 32) hC 2 rfl rfl dX11_had_32 ?_
        obtain ⟨q5, hq5, h⟩ := zbd h
        refine zr_cVi (pc := 33) hC hEk [.int v1, .int v2] [] 72 2 (fun l D => tX3_takeOrder hEk hq5 l D) gX11_had_X3_takeOrder rfl rfl rfl ⟨Nat.le_of_ble_eq_true rfl, Nat.le_of_ble_eq_true rfl⟩ hyX3_takeOrder (zNC (by decide)) entC_72 rfl rfl rfl (Nat.le_of_ble_eq_true rfl) ⟨Nat.le_of_ble_eq_true rfl, Nat.le_of_ble_eq_true rfl⟩ dX11_had_33 ?_
        refine zr_if_ne (pc := 36) (tgt := 45) hC dX11_had_36 (by decide) (fun c6 => ?_) (fun c6 => ?_)
        · replace h := zin h c6
          refine zr_aload_n (pc := 45) hC 0 rfl rfl dX11_had_45 ?_
          refine zcg_76_3 (pc := 46) hC hinX11_had_X11 flX11_had_19 dX11_had_46 ?_
          refine zr_iload_n (pc := 49) hC 1 rfl rfl dX11_had_49 ?_
          obtain ⟨q7, hq7, h⟩ := zbd h
          refine zr_cVi (pc := 50) hC hEk [.int v1] [] 72 1 (fun l D => tX3_hadBehind hEk hq7 l D) gX11_had_X3_hadBehind rfl rfl rfl ⟨Nat.le_of_ble_eq_true rfl, Nat.le_of_ble_eq_true rfl⟩ hyX3_hadBehind (zNC (by decide)) entC_72 rfl rfl rfl (Nat.le_of_ble_eq_true rfl) ⟨Nat.le_of_ble_eq_true rfl, Nat.le_of_ble_eq_true rfl⟩ dX11_had_50 ?_
          obtain rfl := Option.some.inj h
          exact zr_iret hC hR ⟨rfl, rfl⟩ (Nat.le_refl _) (Nat.le_refl _) dX11_had_53
        · replace h := zip h c6
          refine zr_aload_n (pc := 39) hC 0 rfl rfl dX11_had_39 ?_
          refine zr_iconst (pc := 40) hC zki_m1 dX11_had_40 ?_
          obtain ⟨q8, hq8, h⟩ := zbd h
          refine zr_cVi (pc := 41) hC hEk [.int (-1 : Int32)] [] 76 1 (fun l D => tX11_refuse hEk hq8 l D) gX11_had_X11_refuse rfl rfl rfl ⟨Nat.le_of_ble_eq_true rfl, Nat.le_of_ble_eq_true rfl⟩ hyX11_refuse (zNC (by decide)) entC_76 rfl rfl rfl (Nat.le_of_ble_eq_true rfl) ⟨Nat.le_of_ble_eq_true rfl, Nat.le_of_ble_eq_true rfl⟩ dX11_had_41 ?_
          obtain rfl := Option.some.inj h
          exact zr_iret hC hR ⟨rfl, rfl⟩ (Nat.le_refl _) (Nat.le_refl _) dX11_had_44
    · replace h := zin h c2
      refine zr_aload_n (pc := 16) hC 0 rfl rfl dX11_had_16 ?_
      refine zr_bipush (pc := 17) hC zkb_m6 dX11_had_17 ?_
      obtain ⟨q9, hq9, h⟩ := zbd h
      refine zr_cVi (pc := 19) hC hEk [.int (-6 : Int32)] [] 76 1 (fun l D => tX11_refuse hEk hq9 l D) gX11_had_X11_refuse rfl rfl rfl ⟨Nat.le_of_ble_eq_true rfl, Nat.le_of_ble_eq_true rfl⟩ hyX11_refuse (zNC (by decide)) entC_76 rfl rfl rfl (Nat.le_of_ble_eq_true rfl) ⟨Nat.le_of_ble_eq_true rfl, Nat.le_of_ble_eq_true rfl⟩ dX11_had_19 ?_
      obtain rfl := Option.some.inj h
      exact zr_iret hC hR ⟨rfl, rfl⟩ (Nat.le_refl _) (Nat.le_refl _) dX11_had_22
  · replace h := zin h c1
    refine zr_aload_n (pc := 4) hC 0 rfl rfl dX11_had_4 ?_
    refine zr_bipush (pc := 5) hC zkb_m4 dX11_had_5 ?_
    obtain ⟨q10, hq10, h⟩ := zbd h
    refine zr_cVi (pc := 7) hC hEk [.int (-4 : Int32)] [] 76 1 (fun l D => tX11_refuse hEk hq10 l D) gX11_had_X11_refuse rfl rfl rfl ⟨Nat.le_of_ble_eq_true rfl, Nat.le_of_ble_eq_true rfl⟩ hyX11_refuse (zNC (by decide)) entC_76 rfl rfl rfl (Nat.le_of_ble_eq_true rfl) ⟨Nat.le_of_ble_eq_true rfl, Nat.le_of_ble_eq_true rfl⟩ dX11_had_7 ?_
    obtain rfl := Option.some.inj h
    exact zr_iret hC hR ⟨rfl, rfl⟩ (Nat.le_refl _) (Nat.le_refl _) dX11_had_10
/-! X11_late -/
theorem hyX11_late : yX11_late.cls = RX11 ∧ yX11_late.cls ≠ "java/lang/invoke/MethodHandle" ∧ yX11_late.cls ≠ "java/lang/invoke/VarHandle" ∧ (parseMethodDescriptor yX11_late.desc).map (fun d => d.parameters.length) = some 1 := by decide +kernel
theorem flX11_late_19 : Cond.fieldLink RX11 19 "BeforeTheEnd" "facts" "LBeforeTheEnd$Facts;" ∈ wsX11_late := by decide +kernel
theorem hinX11_late_X11 : ∀ w ∈ wsX110, w ∈ wsX11_late := fun _ h => List.mem_cons_of_mem _ (List.mem_append_left _ (List.mem_append_right _ h))
theorem hinX11_late_X3 : ∀ w ∈ wsX30, w ∈ wsX11_late := fun _ h => List.mem_cons_of_mem _ (List.mem_append_right _ h)
def xX11_late (pF : zM) (pB : zM) (v1 : Int32) : Option (Int32 × zM × zM) :=
  if (-1 : Int32) ≤ v1 then
  ((xX3_findExtreme pF (1 : Int32)).bind fun q2 =>
  (xX3_told q2 v1).bind fun q3 =>
  some (q3, q2, pB))
  else
  (xX11_refuse pB (-4 : Int32)).bind fun q4 =>
  some (q4.1, pF, q4.2)
set_option maxHeartbeats 4000000 in
set_option maxRecDepth 100000 in
theorem tX11_late {κ : Nat → ClassId} {tg : Nat} {S : zEn} {ad : Nat → Nat} (hEk : zEk (zE tg S)) {pT : zM} {pR : zM} {pX : zM} {pF : zM} {pB : zM} {pP : zP} {v1 : Int32} {res : (Int32 × zM × zM)} (h : xX11_late pF pB v1 = some res) (l : Launch) (D : va_G) : zCT (zE tg S) D vwCl (zty κ) l yX11_late wsX11_late ({ frames := 3, cells := 0, slots := 0, locals := 72 } : Room) 0 0 [.ref (ad 76), .int v1] (zwC κ ad pT pR pX pF pB pP) (zPd (some (.int res.1)) (zwC κ ad pT pR pX res.2.1 res.2.2 pP)) := by
  refine zCT.of (cc := cX11_late) (maxL := 2) (ret := (some .int)) (by decide) rfl (Nat.le_of_ble_eq_true rfl) ?_
  intro X hC hR
  unfold xX11_late at h
  refine zV.sub (lv' := [(0, .ref (ad 76)), (1, .int v1)]) [0, 1] rfl ?_
  refine zr_iload_n (pc := 0) hC 1 rfl rfl dX11_late_0 ?_
  refine zr_iconst (pc := 1) hC zki_m1 dX11_late_1 ?_
  refine zr_icmp_ge (pc := 2) (tgt := 12) hC dX11_late_2 (by decide) (fun c1 => ?_) (fun c1 => ?_)
  · replace h := zip h c1
    refine zr_aload_n (pc := 12) hC 0 rfl rfl dX11_late_12 ?_
    refine zcg_76_3 (pc := 13) hC hinX11_late_X11 flX11_late_19 dX11_late_13 ?_
    refine zr_iconst (pc := 16) hC zki_1 dX11_late_16 ?_
    obtain ⟨q2, hq2, h⟩ := zbd h
    refine zr_cVv (pc := 17) hC hEk [.int (1 : Int32)] [] 72 1 (fun l D => tX3_findExtreme hEk hq2 l D) gX11_late_X3_findExtreme rfl rfl rfl ⟨Nat.le_of_ble_eq_true rfl, Nat.le_of_ble_eq_true rfl⟩ hyX3_findExtreme (zNC (by decide)) entC_72 rfl rfl rfl (Nat.le_of_ble_eq_true rfl) ⟨Nat.le_of_ble_eq_true rfl, Nat.le_of_ble_eq_true rfl⟩ dX11_late_17 ?_
    refine zr_aload_n (pc := 20) hC 0 rfl rfl dX11_late_20 ?_
    refine zcg_76_3 (pc := 21) hC hinX11_late_X11 flX11_late_19 dX11_late_21 ?_
    refine zr_iload_n (pc := 24) hC 1 rfl rfl dX11_late_24 ?_
    obtain ⟨q3, hq3, h⟩ := zbd h
    refine zr_cVi (pc := 25) hC hEk [.int v1] [] 72 1 (fun l D => tX3_told hEk hq3 l D) gX11_late_X3_told rfl rfl rfl ⟨Nat.le_of_ble_eq_true rfl, Nat.le_of_ble_eq_true rfl⟩ hyX3_told (zNC (by decide)) entC_72 rfl rfl rfl (Nat.le_of_ble_eq_true rfl) ⟨Nat.le_of_ble_eq_true rfl, Nat.le_of_ble_eq_true rfl⟩ dX11_late_25 ?_
    obtain rfl := Option.some.inj h
    exact zr_iret hC hR ⟨rfl, rfl⟩ (Nat.le_refl _) (Nat.le_refl _) dX11_late_28
  · replace h := zin h c1
    refine zr_aload_n (pc := 5) hC 0 rfl rfl dX11_late_5 ?_
    refine zr_bipush (pc := 6) hC zkb_m4 dX11_late_6 ?_
    obtain ⟨q4, hq4, h⟩ := zbd h
    refine zr_cVi (pc := 8) hC hEk [.int (-4 : Int32)] [] 76 1 (fun l D => tX11_refuse hEk hq4 l D) gX11_late_X11_refuse rfl rfl rfl ⟨Nat.le_of_ble_eq_true rfl, Nat.le_of_ble_eq_true rfl⟩ hyX11_refuse (zNC (by decide)) entC_76 rfl rfl rfl (Nat.le_of_ble_eq_true rfl) ⟨Nat.le_of_ble_eq_true rfl, Nat.le_of_ble_eq_true rfl⟩ dX11_late_8 ?_
    obtain rfl := Option.some.inj h
    exact zr_iret hC hR ⟨rfl, rfl⟩ (Nat.le_refl _) (Nat.le_refl _) dX11_late_11
/-! X11_soon -/
theorem hyX11_soon : yX11_soon.cls = RX11 ∧ yX11_soon.cls ≠ "java/lang/invoke/MethodHandle" ∧ yX11_soon.cls ≠ "java/lang/invoke/VarHandle" ∧ (parseMethodDescriptor yX11_soon.desc).map (fun d => d.parameters.length) = some 1 := by decide +kernel
theorem flX11_soon_19 : Cond.fieldLink RX11 19 "BeforeTheEnd" "facts" "LBeforeTheEnd$Facts;" ∈ wsX11_soon := by decide +kernel
theorem hinX11_soon_X11 : ∀ w ∈ wsX110, w ∈ wsX11_soon := fun _ h => List.mem_cons_of_mem _ (List.mem_append_left _ (List.mem_append_right _ h))
theorem hinX11_soon_X3 : ∀ w ∈ wsX30, w ∈ wsX11_soon := fun _ h => List.mem_cons_of_mem _ (List.mem_append_right _ h)
def xX11_soon (pF : zM) (pB : zM) (v1 : Int32) : Option (Int32 × zM × zM) :=
  if (-1 : Int32) ≤ v1 then
  ((xX3_findExtreme pF (0 : Int32)).bind fun q2 =>
  (xX3_told q2 v1).bind fun q3 =>
  some (q3, q2, pB))
  else
  (xX11_refuse pB (-4 : Int32)).bind fun q4 =>
  some (q4.1, pF, q4.2)
set_option maxHeartbeats 4000000 in
set_option maxRecDepth 100000 in
theorem tX11_soon {κ : Nat → ClassId} {tg : Nat} {S : zEn} {ad : Nat → Nat} (hEk : zEk (zE tg S)) {pT : zM} {pR : zM} {pX : zM} {pF : zM} {pB : zM} {pP : zP} {v1 : Int32} {res : (Int32 × zM × zM)} (h : xX11_soon pF pB v1 = some res) (l : Launch) (D : va_G) : zCT (zE tg S) D vwCl (zty κ) l yX11_soon wsX11_soon ({ frames := 3, cells := 0, slots := 0, locals := 72 } : Room) 0 0 [.ref (ad 76), .int v1] (zwC κ ad pT pR pX pF pB pP) (zPd (some (.int res.1)) (zwC κ ad pT pR pX res.2.1 res.2.2 pP)) := by
  refine zCT.of (cc := cX11_soon) (maxL := 2) (ret := (some .int)) (by decide) rfl (Nat.le_of_ble_eq_true rfl) ?_
  intro X hC hR
  unfold xX11_soon at h
  refine zV.sub (lv' := [(0, .ref (ad 76)), (1, .int v1)]) [0, 1] rfl ?_
  refine zr_iload_n (pc := 0) hC 1 rfl rfl dX11_soon_0 ?_
  refine zr_iconst (pc := 1) hC zki_m1 dX11_soon_1 ?_
  refine zr_icmp_ge (pc := 2) (tgt := 12) hC dX11_soon_2 (by decide) (fun c1 => ?_) (fun c1 => ?_)
  · replace h := zip h c1
    refine zr_aload_n (pc := 12) hC 0 rfl rfl dX11_soon_12 ?_
    refine zcg_76_3 (pc := 13) hC hinX11_soon_X11 flX11_soon_19 dX11_soon_13 ?_
    refine zr_iconst (pc := 16) hC zki_0 dX11_soon_16 ?_
    obtain ⟨q2, hq2, h⟩ := zbd h
    refine zr_cVv (pc := 17) hC hEk [.int (0 : Int32)] [] 72 1 (fun l D => tX3_findExtreme hEk hq2 l D) gX11_soon_X3_findExtreme rfl rfl rfl ⟨Nat.le_of_ble_eq_true rfl, Nat.le_of_ble_eq_true rfl⟩ hyX3_findExtreme (zNC (by decide)) entC_72 rfl rfl rfl (Nat.le_of_ble_eq_true rfl) ⟨Nat.le_of_ble_eq_true rfl, Nat.le_of_ble_eq_true rfl⟩ dX11_soon_17 ?_
    refine zr_aload_n (pc := 20) hC 0 rfl rfl dX11_soon_20 ?_
    refine zcg_76_3 (pc := 21) hC hinX11_soon_X11 flX11_soon_19 dX11_soon_21 ?_
    refine zr_iload_n (pc := 24) hC 1 rfl rfl dX11_soon_24 ?_
    obtain ⟨q3, hq3, h⟩ := zbd h
    refine zr_cVi (pc := 25) hC hEk [.int v1] [] 72 1 (fun l D => tX3_told hEk hq3 l D) gX11_soon_X3_told rfl rfl rfl ⟨Nat.le_of_ble_eq_true rfl, Nat.le_of_ble_eq_true rfl⟩ hyX3_told (zNC (by decide)) entC_72 rfl rfl rfl (Nat.le_of_ble_eq_true rfl) ⟨Nat.le_of_ble_eq_true rfl, Nat.le_of_ble_eq_true rfl⟩ dX11_soon_25 ?_
    obtain rfl := Option.some.inj h
    exact zr_iret hC hR ⟨rfl, rfl⟩ (Nat.le_refl _) (Nat.le_refl _) dX11_soon_28
  · replace h := zin h c1
    refine zr_aload_n (pc := 5) hC 0 rfl rfl dX11_soon_5 ?_
    refine zr_bipush (pc := 6) hC zkb_m4 dX11_soon_6 ?_
    obtain ⟨q4, hq4, h⟩ := zbd h
    refine zr_cVi (pc := 8) hC hEk [.int (-4 : Int32)] [] 76 1 (fun l D => tX11_refuse hEk hq4 l D) gX11_soon_X11_refuse rfl rfl rfl ⟨Nat.le_of_ble_eq_true rfl, Nat.le_of_ble_eq_true rfl⟩ hyX11_refuse (zNC (by decide)) entC_76 rfl rfl rfl (Nat.le_of_ble_eq_true rfl) ⟨Nat.le_of_ble_eq_true rfl, Nat.le_of_ble_eq_true rfl⟩ dX11_soon_8 ?_
    obtain rfl := Option.some.inj h
    exact zr_iret hC hR ⟨rfl, rfl⟩ (Nat.le_refl _) (Nat.le_refl _) dX11_soon_11
/-! X11_evening -/
theorem hyX11_evening : yX11_evening.cls = RX11 ∧ yX11_evening.cls ≠ "java/lang/invoke/MethodHandle" ∧ yX11_evening.cls ≠ "java/lang/invoke/VarHandle" ∧ (parseMethodDescriptor yX11_evening.desc).map (fun d => d.parameters.length) = some 3 := by decide +kernel
theorem flX11_evening_254 : Jvm.Cond.constant RX11 254 (1000000000) ∈ wsX11_evening := by decide +kernel
theorem flX11_evening_255 : Cond.fieldLink RX11 255 "BeforeTheEnd$Race" "seed" "I" ∈ wsX11_evening := by decide +kernel
theorem flX11_evening_59 : Cond.fieldLink RX11 59 "BeforeTheEnd" "tree" "LBeforeTheEnd$Tree;" ∈ wsX11_evening := by decide +kernel
theorem flX11_evening_68 : Cond.fieldLink RX11 68 "BeforeTheEnd" "race" "LBeforeTheEnd$Race;" ∈ wsX11_evening := by decide +kernel
theorem hinX11_evening_X11 : ∀ w ∈ wsX110, w ∈ wsX11_evening := fun _ h => List.mem_cons_of_mem _ (List.mem_append_left _ (List.mem_append_left _ (List.mem_append_left _ (List.mem_append_left _ (List.mem_append_left _ (List.mem_append_left _ (List.mem_append_left _ (List.mem_append_left _ (List.mem_append_right _ h)))))))))
theorem hinX11_evening_X6 : ∀ w ∈ wsX60, w ∈ wsX11_evening := fun _ h => List.mem_cons_of_mem _ (List.mem_append_left _ (List.mem_append_left _ (List.mem_append_left _ (List.mem_append_left _ (List.mem_append_left _ (List.mem_append_left _ (List.mem_append_left _ (List.mem_append_right _ h))))))))
theorem hinX11_evening_X10 : ∀ w ∈ wsX100, w ∈ wsX11_evening := fun _ h => List.mem_cons_of_mem _ (List.mem_append_left _ (List.mem_append_left _ (List.mem_append_left _ (List.mem_append_left _ (List.mem_append_left _ (List.mem_append_left _ (List.mem_append_right _ h)))))))
theorem hinX11_evening_X0 : ∀ w ∈ wsX00, w ∈ wsX11_evening := fun _ h => List.mem_cons_of_mem _ (List.mem_append_left _ (List.mem_append_left _ (List.mem_append_left _ (List.mem_append_left _ (List.mem_append_left _ (List.mem_append_right _ h))))))
theorem hinX11_evening_X1 : ∀ w ∈ wsX10, w ∈ wsX11_evening := fun _ h => List.mem_cons_of_mem _ (List.mem_append_left _ (List.mem_append_left _ (List.mem_append_left _ (List.mem_append_left _ (List.mem_append_right _ h)))))
theorem hinX11_evening_X2 : ∀ w ∈ wsX20, w ∈ wsX11_evening := fun _ h => List.mem_cons_of_mem _ (List.mem_append_left _ (List.mem_append_left _ (List.mem_append_left _ (List.mem_append_right _ h))))
theorem hinX11_evening_X4 : ∀ w ∈ wsX40, w ∈ wsX11_evening := fun _ h => List.mem_cons_of_mem _ (List.mem_append_left _ (List.mem_append_left _ (List.mem_append_right _ h)))
theorem hinX11_evening_X7 : ∀ w ∈ wsX70, w ∈ wsX11_evening := fun _ h => List.mem_cons_of_mem _ (List.mem_append_left _ (List.mem_append_right _ h))
theorem hinX11_evening_X9 : ∀ w ∈ wsX90, w ∈ wsX11_evening := fun _ h => List.mem_cons_of_mem _ (List.mem_append_right _ h)
def xX11_evening_L92 (pT : zM) (pB : zM) (pP : zP) (v1 : Int32) (v3 : Int32) (w0 : zM) (w1 : Int32) (w2 : Int32) : Option ((zM × Int32 × Int32) ⊕ (zM × Int32)) :=
  if v1 ≤ w2 then
  (some (.inr (w0, w1)))
  else
  (xX6_drawEnd pT w0).bind fun q2 =>
  (xX6_runTo pT q2.2 pP q2.1).bind fun q3 =>
  (xX6_gainOf q3 v3).bind fun q4 =>
  zlet (w1 + q4) fun z5 =>
  some (.inl (q3, z5, (w2 + (1 : Int32))))
set_option maxHeartbeats 4000000 in
set_option maxRecDepth 100000 in
theorem tX11_evening_L92 {κ : Nat → ClassId} {tg : Nat} {S : zEn} {ad : Nat → Nat} {X : zX} {pX : zM} {pF : zM} {pT : zM} {pB : zM} {pP : zP} {v1 : Int32} {v3 : Int32} {w0 : zM} {w1 : Int32} {w2 : Int32} {r : ((zM × Int32 × Int32) ⊕ (zM × Int32))} (hC : zC X cX11_evening RX11 wsX11_evening vwCl (zty κ) (zE tg S) 6 ({ frames := 6, cells := 0, slots := 0, locals := 141 } : Room)) (hEk : zEk (zE tg S)) (hin : ∀ (x0' : zM) (x1' : Int32) (x2' : Int32), r = .inl (x0', x1', x2') → zV X 0 0 (zwC κ ad pT x0' pX pF pB pP) [(0, .ref (ad 76)), (1, .int v1), (3, .int v3), (4, .int x1'), (5, .int x2')] [] 92) (hout0 : ∀ (x0' : zM) (x1' : Int32), r = .inr (x0', x1') → zV X 0 0 (zwC κ ad pT x0' pX pF pB pP) [(4, .int x1')] [] 131) (h : xX11_evening_L92 pT pB pP v1 v3 w0 w1 w2 = some r) : zV X 0 0 (zwC κ ad pT w0 pX pF pB pP) [(0, .ref (ad 76)), (1, .int v1), (3, .int v3), (4, .int w1), (5, .int w2)] [] 92 := by
  unfold xX11_evening_L92 at h
  refine zr_iload (pc := 92) hC 4 rfl dX11_evening_92 ?_
  refine zr_iload_n (pc := 94) hC 1 rfl rfl dX11_evening_94 ?_
  refine zr_icmp_ge (pc := 95) (tgt := 131) hC dX11_evening_95 (by decide) (fun c1 => ?_) (fun c1 => ?_)
  · replace h := zip h c1
    obtain rfl := Option.some.inj h
    exact zV.sub (lv' := [(4, .int w1)]) [3] rfl (hout0 w0 w1 rfl)
  · replace h := zin h c1
    refine zr_aload_n (pc := 98) hC 0 rfl rfl dX11_evening_98 ?_
    refine zcg_76_1 (pc := 99) hC hinX11_evening_X11 flX11_evening_68 dX11_evening_99 ?_
    refine zr_aload_n (pc := 102) hC 0 rfl rfl dX11_evening_102 ?_
    refine zcg_76_1 (pc := 103) hC hinX11_evening_X11 flX11_evening_68 dX11_evening_103 ?_
    obtain ⟨q2, hq2, h⟩ := zbd h
    refine zr_cVi (pc := 106) hC hEk [] [.ref (ad 62)] 62 0 (fun l D => tX6_drawEnd hEk hq2 l D) gX11_evening_X6_drawEnd rfl rfl rfl ⟨Nat.le_of_ble_eq_true rfl, Nat.le_of_ble_eq_true rfl⟩ hyX6_drawEnd (zNC (by decide)) entC_62 rfl rfl rfl (Nat.le_of_ble_eq_true rfl) ⟨Nat.le_of_ble_eq_true rfl, Nat.le_of_ble_eq_true rfl⟩ dX11_evening_106 ?_
    obtain ⟨q3, hq3, h⟩ := zbd h
    refine zr_cVv (pc := 109) hC hEk [.int q2.1] [] 62 1 (fun l D => tX6_runTo hEk hq3 l D) gX11_evening_X6_runTo rfl rfl rfl ⟨Nat.le_of_ble_eq_true rfl, Nat.le_of_ble_eq_true rfl⟩ hyX6_runTo (zNC (by decide)) entC_62 rfl rfl rfl (Nat.le_of_ble_eq_true rfl) ⟨Nat.le_of_ble_eq_true rfl, Nat.le_of_ble_eq_true rfl⟩ dX11_evening_109 ?_
    refine zr_iload (pc := 112) hC 3 rfl dX11_evening_112 ?_
    refine zr_aload_n (pc := 114) hC 0 rfl rfl dX11_evening_114 ?_
    refine zcg_76_1 (pc := 115) hC hinX11_evening_X11 flX11_evening_68 dX11_evening_115 ?_
    refine zr_iload_n (pc := 118) hC 2 rfl rfl dX11_evening_118 ?_
    obtain ⟨q4, hq4, h⟩ := zbd h
    refine zr_cVi (pc := 119) hC hEk [.int v3] [.int w1] 62 1 (fun l D => tX6_gainOf hEk hq4 l D) gX11_evening_X6_gainOf rfl rfl rfl ⟨Nat.le_of_ble_eq_true rfl, Nat.le_of_ble_eq_true rfl⟩ hyX6_gainOf (zNC (by decide)) entC_62 rfl rfl rfl (Nat.le_of_ble_eq_true rfl) ⟨Nat.le_of_ble_eq_true rfl, Nat.le_of_ble_eq_true rfl⟩ dX11_evening_119 ?_
    refine zr_iadd (pc := 122) hC dX11_evening_122 ?_
    obtain ⟨z5, e6, h⟩ := zle h
    refine zr_topi e6 ?_
    refine zr_istore (pc := 123) (lv' := [(4, .int z5), (0, .ref (ad 76)), (1, .int v1), (3, .int v3), (5, .int w2)]) hC (by decide) rfl dX11_evening_123 ?_
    refine zr_iinc (pc := 125) (k := 4) (lv' := [(5, .int (w2 + (1 : Int32))), (4, .int z5), (0, .ref (ad 76)), (1, .int v1), (3, .int v3)]) hC zki_1 (by decide) rfl rfl dX11_evening_125 ?_
    refine zr_goto (pc := 128) (tgt := 92) hC dX11_evening_128 (by decide) ?_
    obtain rfl := Option.some.inj h
    exact zV.sub (lv' := [(0, .ref (ad 76)), (1, .int v1), (3, .int v3), (4, .int z5), (5, .int (w2 + (1 : Int32)))]) [2, 3, 4, 1, 0] rfl (hin q3 z5 (w2 + (1 : Int32)) rfl)
def xX11_evening (pT : zM) (pR : zM) (pB : zM) (pP : zP) (v1 : Int32) (v2 : Int32) (v3 : Int32) : Option (Int32 × zM × zM) :=
  (xX6_playerAt pR pP v3).bind fun q1 =>
  zon q1
  ((xX11_refuse pB (-1 : Int32)).bind fun q5 =>
  some (((1000000000 : Int32) - q5.1), pR, q5.2))
  (fun a2 => if pP.2.2.2 ≤ a2 then none else
  if (1 : Int32) ≤ v1 then
  (if v1 ≤ (20 : Int32) then
  ((xX10_isWhole pT).bind fun q8 =>
  if q8 = 0 then
  ((xX11_refuse pB (-3 : Int32)).bind fun q14 =>
  some (((1000000000 : Int32) - q14.1), pR, q14.2))
  else
  (xX6_prepare pT pR pP).bind fun q10 =>
  zlet (zsi q10 62 16 v2) fun M11 =>
  (x_it (fun a9 => xX11_evening_L92 pT pB pP v1 v3 a9.1 a9.2.1 a9.2.2) zFU (M11, (0 : Int32), (0 : Int32))).bind fun q13 =>
  some (q13.2, q13.1, pB))
  else
  (xX11_refuse pB (-6 : Int32)).bind fun q15 =>
  some (((1000000000 : Int32) - q15.1), pR, q15.2))
  else
  (xX11_refuse pB (-4 : Int32)).bind fun q16 =>
  some (((1000000000 : Int32) - q16.1), pR, q16.2))
set_option maxHeartbeats 4000000 in
set_option maxRecDepth 100000 in
theorem tX11_evening {κ : Nat → ClassId} {tg : Nat} {S : zEn} {ad : Nat → Nat} (hEk : zEk (zE tg S)) {pT : zM} {pR : zM} {pX : zM} {pF : zM} {pB : zM} {pP : zP} {v1 : Int32} {v2 : Int32} {v3 : Int32} {res : (Int32 × zM × zM)} (h : xX11_evening pT pR pB pP v1 v2 v3 = some res) (l : Launch) (D : va_G) : zCT (zE tg S) D vwCl (zty κ) l yX11_evening wsX11_evening ({ frames := 6, cells := 0, slots := 0, locals := 141 } : Room) 0 0 [.ref (ad 76), .int v1, .int v2, .int v3] (zwC κ ad pT pR pX pF pB pP) (zPd (some (.int res.1)) (zwC κ ad pT res.2.1 pX pF res.2.2 pP)) := by
  refine zCT.of (cc := cX11_evening) (maxL := 6) (ret := (some .int)) (by decide) rfl (Nat.le_of_ble_eq_true rfl) ?_
  intro X hC hR
  unfold xX11_evening at h
  refine zV.sub (lv' := [(0, .ref (ad 76)), (1, .int v1), (2, .int v2), (3, .int v3)]) [0, 1, 2, 3] rfl ?_
  refine zr_aload_n (pc := 0) hC 0 rfl rfl dX11_evening_0 ?_
  refine zcg_76_1 (pc := 1) hC hinX11_evening_X11 flX11_evening_68 dX11_evening_1 ?_
  refine zr_iload_n (pc := 4) hC 3 rfl rfl dX11_evening_4 ?_
  obtain ⟨q1, hq1, h⟩ := zbd h
  refine zr_cVr (pc := 5) hC hEk [.int v3] [] 62 1 (fun l D => tX6_playerAt hEk hq1 l D) gX11_evening_X6_playerAt rfl rfl rfl ⟨Nat.le_of_ble_eq_true rfl, Nat.le_of_ble_eq_true rfl⟩ hyX6_playerAt (zNC (by decide)) entC_62 rfl rfl rfl (Nat.le_of_ble_eq_true rfl) ⟨Nat.le_of_ble_eq_true rfl, Nat.le_of_ble_eq_true rfl⟩ dX11_evening_5 ?_
  refine zr_ifnonnullM (pc := 8) (tgt := 20) hC dX11_evening_8 (by decide) (fun a2 e3 => ?_) (fun e3 => ?_)
  · replace h := zon_s e3 h
    have h9 := h
    subst e3
    replace h := h9
    clear h9
    obtain ⟨i4, h⟩ := zgd h
    show zV X 0 0 (zwC κ ad pT pR pX pF pB pP) [(0, .ref (ad 76)), (1, .int v1), (2, .int v2), (3, .int v3)] [] 20
    refine zr_iload_n (pc := 20) hC 1 rfl rfl dX11_evening_20 ?_
    refine zr_iconst (pc := 21) hC zki_1 dX11_evening_21 ?_
    refine zr_icmp_ge (pc := 22) (tgt := 35) hC dX11_evening_22 (by decide) (fun c6 => ?_) (fun c6 => ?_)
    · replace h := zip h c6
      refine zr_iload_n (pc := 35) hC 1 rfl rfl dX11_evening_35 ?_
      refine zr_bipush (pc := 36) hC zkb_20 dX11_evening_36 ?_
      refine zr_icmp_le (pc := 38) (tgt := 51) hC dX11_evening_38 (by decide) (fun c7 => ?_) (fun c7 => ?_)
      · replace h := zip h c7
        refine zr_aload_n (pc := 51) hC 0 rfl rfl dX11_evening_51 ?_
        refine zcg_76_0 (pc := 52) hC hinX11_evening_X11 flX11_evening_59 dX11_evening_52 ?_
        obtain ⟨q8, hq8, h⟩ := zbd h
        refine zr_cVi (pc := 55) hC hEk [] [] 0 0 (fun l D => tX10_isWhole hEk hq8 l D) gX11_evening_X10_isWhole rfl rfl rfl ⟨Nat.le_of_ble_eq_true rfl, Nat.le_of_ble_eq_true rfl⟩ hyX10_isWhole (zNC (by decide)) entC_0 rfl rfl rfl (Nat.le_of_ble_eq_true rfl) ⟨Nat.le_of_ble_eq_true rfl, Nat.le_of_ble_eq_true rfl⟩ dX11_evening_55 ?_
        refine zr_if_ne (pc := 58) (tgt := 71) hC dX11_evening_58 (by decide) (fun c9 => ?_) (fun c9 => ?_)
        · replace h := zin h c9
          refine zr_aload_n (pc := 71) hC 0 rfl rfl dX11_evening_71 ?_
          refine zcg_76_1 (pc := 72) hC hinX11_evening_X11 flX11_evening_68 dX11_evening_72 ?_
          obtain ⟨q10, hq10, h⟩ := zbd h
          refine zr_cVv (pc := 75) hC hEk [] [] 62 0 (fun l D => tX6_prepare hEk hq10 l D) gX11_evening_X6_prepare rfl rfl rfl ⟨Nat.le_of_ble_eq_true rfl, Nat.le_of_ble_eq_true rfl⟩ hyX6_prepare (zNC (by decide)) entC_62 rfl rfl rfl (Nat.le_of_ble_eq_true rfl) ⟨Nat.le_of_ble_eq_true rfl, Nat.le_of_ble_eq_true rfl⟩ dX11_evening_75 ?_
          refine zr_aload_n (pc := 78) hC 0 rfl rfl dX11_evening_78 ?_
          refine zcg_76_1 (pc := 79) hC hinX11_evening_X11 flX11_evening_68 dX11_evening_79 ?_
          refine zr_iload_n (pc := 82) hC 2 rfl rfl dX11_evening_82 ?_
          obtain ⟨M11, e12, h⟩ := zle h
          refine zcp_62_16 (pc := 83) hC hinX11_evening_X6 flX11_evening_255 e12 dX11_evening_83 ?_
          refine zr_iconst (pc := 86) hC zki_0 dX11_evening_86 ?_
          refine zr_istore (pc := 87) (lv' := [(4, .int (0 : Int32)), (0, .ref (ad 76)), (1, .int v1), (2, .int v2), (3, .int v3)]) hC (by decide) rfl dX11_evening_87 ?_
          refine zr_iconst (pc := 89) hC zki_0 dX11_evening_89 ?_
          refine zr_istore (pc := 90) (lv' := [(5, .int (0 : Int32)), (4, .int (0 : Int32)), (0, .ref (ad 76)), (1, .int v1), (2, .int v2), (3, .int v3)]) hC (by decide) rfl dX11_evening_90 ?_
          obtain ⟨q13, hq13, h⟩ := zbd h
          refine zV.sub (lv' := [(0, .ref (ad 76)), (1, .int v1), (3, .int v3), (4, .int (0 : Int32)), (5, .int (0 : Int32))]) [2, 3, 5, 1, 0] rfl ?_
          refine zit3 (Wp := fun (y0 : zM) (y1 : Int32) (y2 : Int32) => zV X 0 0 (zwC κ ad pT y0 pX pF pB pP) [(0, .ref (ad 76)), (1, .int v1), (3, .int v3), (4, .int y1), (5, .int y2)] [] 92) (Ex := fun (b9 : (zM × Int32)) => zV X 0 0 (zwC κ ad pT b9.1 pX pF pB pP) [(4, .int b9.2)] [] 131) (fun y0 y1 y2 r9 hr hin hout => tX11_evening_L92 hC hEk hin (fun z0 z1 e9 => hout (z0, z1) e9) hr) zFU M11 (0 : Int32) (0 : Int32) q13 hq13 ?_
          show zV X 0 0 (zwC κ ad pT q13.1 pX pF pB pP) [(4, .int q13.2)] [] 131
          refine zr_iload (pc := 131) hC 0 rfl dX11_evening_131 ?_
          obtain rfl := Option.some.inj h
          exact zr_iret hC hR ⟨rfl, rfl⟩ (Nat.le_refl _) (Nat.le_refl _) dX11_evening_133
        · replace h := zip h c9
          refine zr_ldc (pc := 61) hC flX11_evening_254 dX11_evening_61 ?_
          refine zr_aload_n (pc := 63) hC 0 rfl rfl dX11_evening_63 ?_
          refine zr_bipush (pc := 64) hC zkb_m3 dX11_evening_64 ?_
          obtain ⟨q14, hq14, h⟩ := zbd h
          refine zr_cVi (pc := 66) hC hEk [.int (-3 : Int32)] [.int (1000000000 : Int32)] 76 1 (fun l D => tX11_refuse hEk hq14 l D) gX11_evening_X11_refuse rfl rfl rfl ⟨Nat.le_of_ble_eq_true rfl, Nat.le_of_ble_eq_true rfl⟩ hyX11_refuse (zNC (by decide)) entC_76 rfl rfl rfl (Nat.le_of_ble_eq_true rfl) ⟨Nat.le_of_ble_eq_true rfl, Nat.le_of_ble_eq_true rfl⟩ dX11_evening_66 ?_
          refine zr_isub (pc := 69) hC dX11_evening_69 ?_
          obtain rfl := Option.some.inj h
          exact zr_iret hC hR ⟨rfl, rfl⟩ (Nat.le_refl _) (Nat.le_refl _) dX11_evening_70
      · replace h := zin h c7
        refine zr_ldc (pc := 41) hC flX11_evening_254 dX11_evening_41 ?_
        refine zr_aload_n (pc := 43) hC 0 rfl rfl dX11_evening_43 ?_
        refine zr_bipush (pc := 44) hC zkb_m6 dX11_evening_44 ?_
        obtain ⟨q15, hq15, h⟩ := zbd h
        refine zr_cVi (pc := 46) hC hEk [.int (-6 : Int32)] [.int (1000000000 : Int32)] 76 1 (fun l D => tX11_refuse hEk hq15 l D) gX11_evening_X11_refuse rfl rfl rfl ⟨Nat.le_of_ble_eq_true rfl, Nat.le_of_ble_eq_true rfl⟩ hyX11_refuse (zNC (by decide)) entC_76 rfl rfl rfl (Nat.le_of_ble_eq_true rfl) ⟨Nat.le_of_ble_eq_true rfl, Nat.le_of_ble_eq_true rfl⟩ dX11_evening_46 ?_
        refine zr_isub (pc := 49) hC dX11_evening_49 ?_
        obtain rfl := Option.some.inj h
        exact zr_iret hC hR ⟨rfl, rfl⟩ (Nat.le_refl _) (Nat.le_refl _) dX11_evening_50
    · replace h := zin h c6
      refine zr_ldc (pc := 25) hC flX11_evening_254 dX11_evening_25 ?_
      refine zr_aload_n (pc := 27) hC 0 rfl rfl dX11_evening_27 ?_
      refine zr_bipush (pc := 28) hC zkb_m4 dX11_evening_28 ?_
      obtain ⟨q16, hq16, h⟩ := zbd h
      refine zr_cVi (pc := 30) hC hEk [.int (-4 : Int32)] [.int (1000000000 : Int32)] 76 1 (fun l D => tX11_refuse hEk hq16 l D) gX11_evening_X11_refuse rfl rfl rfl ⟨Nat.le_of_ble_eq_true rfl, Nat.le_of_ble_eq_true rfl⟩ hyX11_refuse (zNC (by decide)) entC_76 rfl rfl rfl (Nat.le_of_ble_eq_true rfl) ⟨Nat.le_of_ble_eq_true rfl, Nat.le_of_ble_eq_true rfl⟩ dX11_evening_30 ?_
      refine zr_isub (pc := 33) hC dX11_evening_33 ?_
      obtain rfl := Option.some.inj h
      exact zr_iret hC hR ⟨rfl, rfl⟩ (Nat.le_refl _) (Nat.le_refl _) dX11_evening_34
  · replace h := zon_n e3 h
    have h9 := h
    subst e3
    replace h := h9
    clear h9
    show zV X 0 0 (zwC κ ad pT pR pX pF pB pP) [(0, .ref (ad 76)), (1, .int v1), (2, .int v2), (3, .int v3)] [] 11
    refine zr_ldc (pc := 11) hC flX11_evening_254 dX11_evening_11 ?_
    refine zr_aload_n (pc := 13) hC 0 rfl rfl dX11_evening_13 ?_
    refine zr_iconst (pc := 14) hC zki_m1 dX11_evening_14 ?_
    obtain ⟨q5, hq5, h⟩ := zbd h
    refine zr_cVi (pc := 15) hC hEk [.int (-1 : Int32)] [.int (1000000000 : Int32)] 76 1 (fun l D => tX11_refuse hEk hq5 l D) gX11_evening_X11_refuse rfl rfl rfl ⟨Nat.le_of_ble_eq_true rfl, Nat.le_of_ble_eq_true rfl⟩ hyX11_refuse (zNC (by decide)) entC_76 rfl rfl rfl (Nat.le_of_ble_eq_true rfl) ⟨Nat.le_of_ble_eq_true rfl, Nat.le_of_ble_eq_true rfl⟩ dX11_evening_15 ?_
    refine zr_isub (pc := 18) hC dX11_evening_18 ?_
    obtain rfl := Option.some.inj h
    exact zr_iret hC hR ⟨rfl, rfl⟩ (Nat.le_refl _) (Nat.le_refl _) dX11_evening_19
/-! X11_row -/
theorem hyX11_row : yX11_row.cls = RX11 ∧ yX11_row.cls ≠ "java/lang/invoke/MethodHandle" ∧ yX11_row.cls ≠ "java/lang/invoke/VarHandle" ∧ (parseMethodDescriptor yX11_row.desc).map (fun d => d.parameters.length) = some 1 := by decide +kernel
theorem flX11_row_23 : Cond.fieldLink RX11 23 "BeforeTheEnd" "firsts" "[I" ∈ wsX11_row := by decide +kernel
theorem flX11_row_27 : Cond.fieldLink RX11 27 "BeforeTheEnd" "firstsCount" "I" ∈ wsX11_row := by decide +kernel
theorem hinX11_row_X11 : ∀ w ∈ wsX110, w ∈ wsX11_row := fun _ h => List.mem_cons_of_mem _ (List.mem_append_right _ h)
def xX11_row (pB : zM) (v1 : Int32) : Option (Int32 × zM) :=
  if 0 ≤ v1 then
  (if (9 : Int32) < v1 then
  ((xX11_refuse pB (-6 : Int32)).bind fun q3 =>
  some (q3.1, q3.2))
  else
  if (pB.1 76 5) < 0 then
  ((xX11_refuse pB (-6 : Int32)).bind fun q5 =>
  some (q5.1, q5.2))
  else
  if (pB.1 76 5) < (20 : Int32) then
  (if ((pB.1 76 5) < 0 ∨ 20 ≤ (pB.1 76 5).toNatClampNeg) then none else
  zlet (zsi pB 77 (pB.1 76 5).toNatClampNeg v1) fun M8 =>
  zlet (zsi M8 76 5 ((M8.1 76 5) + (1 : Int32))) fun M10 =>
  some ((M10.1 76 5), M10))
  else
  (xX11_refuse pB (-6 : Int32)).bind fun q12 =>
  some (q12.1, q12.2))
  else
  (xX11_refuse pB (-4 : Int32)).bind fun q13 =>
  some (q13.1, q13.2)
set_option maxHeartbeats 4000000 in
set_option maxRecDepth 100000 in
theorem tX11_row {κ : Nat → ClassId} {tg : Nat} {S : zEn} {ad : Nat → Nat} (hEk : zEk (zE tg S)) {pT : zM} {pR : zM} {pX : zM} {pF : zM} {pB : zM} {pP : zP} {v1 : Int32} {res : (Int32 × zM)} (h : xX11_row pB v1 = some res) (l : Launch) (D : va_G) : zCT (zE tg S) D vwCl (zty κ) l yX11_row wsX11_row ({ frames := 1, cells := 0, slots := 0, locals := 22 } : Room) 0 0 [.ref (ad 76), .int v1] (zwC κ ad pT pR pX pF pB pP) (zPd (some (.int res.1)) (zwC κ ad pT pR pX pF res.2 pP)) := by
  refine zCT.of (cc := cX11_row) (maxL := 2) (ret := (some .int)) (by decide) rfl (Nat.le_of_ble_eq_true rfl) ?_
  intro X hC hR
  unfold xX11_row at h
  refine zV.sub (lv' := [(0, .ref (ad 76)), (1, .int v1)]) [0, 1] rfl ?_
  refine zr_iload_n (pc := 0) hC 1 rfl rfl dX11_row_0 ?_
  refine zr_if_ge (pc := 1) (tgt := 11) hC dX11_row_1 (by decide) (fun c1 => ?_) (fun c1 => ?_)
  · replace h := zip h c1
    refine zr_iload_n (pc := 11) hC 1 rfl rfl dX11_row_11 ?_
    refine zr_bipush (pc := 12) hC zkb_9 dX11_row_12 ?_
    refine zr_icmp_gt (pc := 14) (tgt := 33) hC dX11_row_14 (by decide) (fun c2 => ?_) (fun c2 => ?_)
    · replace h := zip h c2
      refine zr_aload_n (pc := 33) hC 0 rfl rfl dX11_row_33 ?_
      refine zr_bipush (pc := 34) hC zkb_m6 dX11_row_34 ?_
      obtain ⟨q3, hq3, h⟩ := zbd h
      refine zr_cVi (pc := 36) hC hEk [.int (-6 : Int32)] [] 76 1 (fun l D => tX11_refuse hEk hq3 l D) gX11_row_X11_refuse rfl rfl rfl ⟨Nat.le_of_ble_eq_true rfl, Nat.le_of_ble_eq_true rfl⟩ hyX11_refuse (zNC (by decide)) entC_76 rfl rfl rfl (Nat.le_of_ble_eq_true rfl) ⟨Nat.le_of_ble_eq_true rfl, Nat.le_of_ble_eq_true rfl⟩ dX11_row_36 ?_
      obtain rfl := Option.some.inj h
      exact zr_iret hC hR ⟨rfl, rfl⟩ (Nat.le_refl _) (Nat.le_refl _) dX11_row_39
    · replace h := zin h c2
      refine zr_aload_n (pc := 17) hC 0 rfl rfl dX11_row_17 ?_
      refine zcg_76_5 (pc := 18) hC hinX11_row_X11 flX11_row_27 dX11_row_18 ?_
      refine zr_if_lt (pc := 21) (tgt := 33) hC dX11_row_21 (by decide) (fun c4 => ?_) (fun c4 => ?_)
      · replace h := zip h c4
        refine zr_aload_n (pc := 33) hC 0 rfl rfl dX11_row_33 ?_
        refine zr_bipush (pc := 34) hC zkb_m6 dX11_row_34 ?_
        obtain ⟨q5, hq5, h⟩ := zbd h
        refine zr_cVi (pc := 36) hC hEk [.int (-6 : Int32)] [] 76 1 (fun l D => tX11_refuse hEk hq5 l D) gX11_row_X11_refuse rfl rfl rfl ⟨Nat.le_of_ble_eq_true rfl, Nat.le_of_ble_eq_true rfl⟩ hyX11_refuse (zNC (by decide)) entC_76 rfl rfl rfl (Nat.le_of_ble_eq_true rfl) ⟨Nat.le_of_ble_eq_true rfl, Nat.le_of_ble_eq_true rfl⟩ dX11_row_36 ?_
        obtain rfl := Option.some.inj h
        exact zr_iret hC hR ⟨rfl, rfl⟩ (Nat.le_refl _) (Nat.le_refl _) dX11_row_39
      · replace h := zin h c4
        refine zr_aload_n (pc := 24) hC 0 rfl rfl dX11_row_24 ?_
        refine zcg_76_5 (pc := 25) hC hinX11_row_X11 flX11_row_27 dX11_row_25 ?_
        refine zr_bipush (pc := 28) hC zkb_20 dX11_row_28 ?_
        refine zr_icmp_lt (pc := 30) (tgt := 40) hC dX11_row_30 (by decide) (fun c6 => ?_) (fun c6 => ?_)
        · replace h := zip h c6
          refine zr_aload_n (pc := 40) hC 0 rfl rfl dX11_row_40 ?_
          refine zcg_76_4 (pc := 41) hC hinX11_row_X11 flX11_row_23 dX11_row_41 ?_
          refine zr_aload_n (pc := 44) hC 0 rfl rfl dX11_row_44 ?_
          refine zcg_76_5 (pc := 45) hC hinX11_row_X11 flX11_row_27 dX11_row_45 ?_
          refine zr_iload_n (pc := 48) hC 1 rfl rfl dX11_row_48 ?_
          obtain ⟨i7, h⟩ := zgd h
          obtain ⟨M8, e9, h⟩ := zle h
          refine zcs_77 (pc := 49) hC i7 e9 dX11_row_49 ?_
          refine zr_aload_n (pc := 50) hC 0 rfl rfl dX11_row_50 ?_
          refine zr_dup (pc := 51) hC rfl dX11_row_51 ?_
          refine zcg_76_5 (pc := 52) hC hinX11_row_X11 flX11_row_27 dX11_row_52 ?_
          refine zr_iconst (pc := 55) hC zki_1 dX11_row_55 ?_
          refine zr_iadd (pc := 56) hC dX11_row_56 ?_
          obtain ⟨M10, e11, h⟩ := zle h
          refine zcp_76_5 (pc := 57) hC hinX11_row_X11 flX11_row_27 e11 dX11_row_57 ?_
          refine zr_aload_n (pc := 60) hC 0 rfl rfl dX11_row_60 ?_
          refine zcg_76_5 (pc := 61) hC hinX11_row_X11 flX11_row_27 dX11_row_61 ?_
          obtain rfl := Option.some.inj h
          exact zr_iret hC hR ⟨rfl, rfl⟩ (Nat.le_refl _) (Nat.le_refl _) dX11_row_64
        · replace h := zin h c6
          refine zr_aload_n (pc := 33) hC 0 rfl rfl dX11_row_33 ?_
          refine zr_bipush (pc := 34) hC zkb_m6 dX11_row_34 ?_
          obtain ⟨q12, hq12, h⟩ := zbd h
          refine zr_cVi (pc := 36) hC hEk [.int (-6 : Int32)] [] 76 1 (fun l D => tX11_refuse hEk hq12 l D) gX11_row_X11_refuse rfl rfl rfl ⟨Nat.le_of_ble_eq_true rfl, Nat.le_of_ble_eq_true rfl⟩ hyX11_refuse (zNC (by decide)) entC_76 rfl rfl rfl (Nat.le_of_ble_eq_true rfl) ⟨Nat.le_of_ble_eq_true rfl, Nat.le_of_ble_eq_true rfl⟩ dX11_row_36 ?_
          obtain rfl := Option.some.inj h
          exact zr_iret hC hR ⟨rfl, rfl⟩ (Nat.le_refl _) (Nat.le_refl _) dX11_row_39
  · replace h := zin h c1
    refine zr_aload_n (pc := 4) hC 0 rfl rfl dX11_row_4 ?_
    refine zr_bipush (pc := 5) hC zkb_m4 dX11_row_5 ?_
    obtain ⟨q13, hq13, h⟩ := zbd h
    refine zr_cVi (pc := 7) hC hEk [.int (-4 : Int32)] [] 76 1 (fun l D => tX11_refuse hEk hq13 l D) gX11_row_X11_refuse rfl rfl rfl ⟨Nat.le_of_ble_eq_true rfl, Nat.le_of_ble_eq_true rfl⟩ hyX11_refuse (zNC (by decide)) entC_76 rfl rfl rfl (Nat.le_of_ble_eq_true rfl) ⟨Nat.le_of_ble_eq_true rfl, Nat.le_of_ble_eq_true rfl⟩ dX11_row_7 ?_
    obtain rfl := Option.some.inj h
    exact zr_iret hC hR ⟨rfl, rfl⟩ (Nat.le_refl _) (Nat.le_refl _) dX11_row_10
/-! X11_judge -/
theorem hyX11_judge : yX11_judge.cls = RX11 ∧ yX11_judge.cls ≠ "java/lang/invoke/MethodHandle" ∧ yX11_judge.cls ≠ "java/lang/invoke/VarHandle" ∧ (parseMethodDescriptor yX11_judge.desc).map (fun d => d.parameters.length) = some 1 := by decide +kernel
theorem flX11_judge_23 : Cond.fieldLink RX11 23 "BeforeTheEnd" "firsts" "[I" ∈ wsX11_judge := by decide +kernel
theorem flX11_judge_255 : Cond.fieldLink RX11 255 "BeforeTheEnd$Race" "seed" "I" ∈ wsX11_judge := by decide +kernel
theorem flX11_judge_264 : Cond.fieldLink RX11 264 "BeforeTheEnd$Race" "firstPlayer" "I" ∈ wsX11_judge := by decide +kernel
theorem flX11_judge_27 : Cond.fieldLink RX11 27 "BeforeTheEnd" "firstsCount" "I" ∈ wsX11_judge := by decide +kernel
theorem flX11_judge_59 : Cond.fieldLink RX11 59 "BeforeTheEnd" "tree" "LBeforeTheEnd$Tree;" ∈ wsX11_judge := by decide +kernel
theorem flX11_judge_68 : Cond.fieldLink RX11 68 "BeforeTheEnd" "race" "LBeforeTheEnd$Race;" ∈ wsX11_judge := by decide +kernel
theorem hinX11_judge_X11 : ∀ w ∈ wsX110, w ∈ wsX11_judge := fun _ h => List.mem_cons_of_mem _ (List.mem_append_left _ (List.mem_append_left _ (List.mem_append_left _ (List.mem_append_left _ (List.mem_append_left _ (List.mem_append_left _ (List.mem_append_left _ (List.mem_append_left _ (List.mem_append_right _ h)))))))))
theorem hinX11_judge_X6 : ∀ w ∈ wsX60, w ∈ wsX11_judge := fun _ h => List.mem_cons_of_mem _ (List.mem_append_left _ (List.mem_append_left _ (List.mem_append_left _ (List.mem_append_left _ (List.mem_append_left _ (List.mem_append_left _ (List.mem_append_left _ (List.mem_append_right _ h))))))))
theorem hinX11_judge_X10 : ∀ w ∈ wsX100, w ∈ wsX11_judge := fun _ h => List.mem_cons_of_mem _ (List.mem_append_left _ (List.mem_append_left _ (List.mem_append_left _ (List.mem_append_left _ (List.mem_append_left _ (List.mem_append_left _ (List.mem_append_right _ h)))))))
theorem hinX11_judge_X0 : ∀ w ∈ wsX00, w ∈ wsX11_judge := fun _ h => List.mem_cons_of_mem _ (List.mem_append_left _ (List.mem_append_left _ (List.mem_append_left _ (List.mem_append_left _ (List.mem_append_left _ (List.mem_append_right _ h))))))
theorem hinX11_judge_X1 : ∀ w ∈ wsX10, w ∈ wsX11_judge := fun _ h => List.mem_cons_of_mem _ (List.mem_append_left _ (List.mem_append_left _ (List.mem_append_left _ (List.mem_append_left _ (List.mem_append_right _ h)))))
theorem hinX11_judge_X2 : ∀ w ∈ wsX20, w ∈ wsX11_judge := fun _ h => List.mem_cons_of_mem _ (List.mem_append_left _ (List.mem_append_left _ (List.mem_append_left _ (List.mem_append_right _ h))))
theorem hinX11_judge_X4 : ∀ w ∈ wsX40, w ∈ wsX11_judge := fun _ h => List.mem_cons_of_mem _ (List.mem_append_left _ (List.mem_append_left _ (List.mem_append_right _ h)))
theorem hinX11_judge_X7 : ∀ w ∈ wsX70, w ∈ wsX11_judge := fun _ h => List.mem_cons_of_mem _ (List.mem_append_left _ (List.mem_append_right _ h))
theorem hinX11_judge_X9 : ∀ w ∈ wsX90, w ∈ wsX11_judge := fun _ h => List.mem_cons_of_mem _ (List.mem_append_right _ h)
def xX11_judge_L37 (pT : zM) (pB : zM) (pP : zP) (w0 : zM) (w1 : Int32) (w2 : Int32) : Option ((zM × Int32 × Int32) ⊕ (zM × Int32)) :=
  if (20 : Int32) ≤ w2 then
  (some (.inr (w0, w1)))
  else
  if (pB.1 76 5) ≤ w2 then
  (some (.inr (w0, w1)))
  else
  if w1 = (-9 : Int32) then
  ((xX6_drawEnd pT w0).bind fun q4 =>
  (xX6_runTo pT q4.2 pP q4.1).bind fun q5 =>
  if (q5.1 62 10) = (-9 : Int32) then
  (if (w2 < 0 ∨ 20 ≤ w2.toNatClampNeg) then none else
  if (9 : Int32) = (pB.1 77 w2.toNatClampNeg) then
  (some (.inl (q5, w1, (w2 + (1 : Int32)))))
  else
  some (.inl (q5, w2, (w2 + (1 : Int32)))))
  else
  zlet (q5.1 62 10) fun z7 =>
  if (w2 < 0 ∨ 20 ≤ w2.toNatClampNeg) then none else
  if z7 = (pB.1 77 w2.toNatClampNeg) then
  (some (.inl (q5, w1, (w2 + (1 : Int32)))))
  else
  some (.inl (q5, w2, (w2 + (1 : Int32)))))
  else
  some (.inr (w0, w1))
set_option maxHeartbeats 4000000 in
set_option maxRecDepth 100000 in
theorem tX11_judge_L37 {κ : Nat → ClassId} {tg : Nat} {S : zEn} {ad : Nat → Nat} {X : zX} {pX : zM} {pF : zM} {pT : zM} {pB : zM} {pP : zP} {w0 : zM} {w1 : Int32} {w2 : Int32} {r : ((zM × Int32 × Int32) ⊕ (zM × Int32))} (hC : zC X cX11_judge RX11 wsX11_judge vwCl (zty κ) (zE tg S) 5 ({ frames := 6, cells := 0, slots := 0, locals := 141 } : Room)) (hEk : zEk (zE tg S)) (hin : ∀ (x0' : zM) (x1' : Int32) (x2' : Int32), r = .inl (x0', x1', x2') → zV X 0 0 (zwC κ ad pT x0' pX pF pB pP) [(0, .ref (ad 76)), (2, .int x1'), (3, .int x2')] [] 37) (hout0 : ∀ (x0' : zM) (x1' : Int32), r = .inr (x0', x1') → zV X 0 0 (zwC κ ad pT x0' pX pF pB pP) [(0, .ref (ad 76)), (2, .int x1')] [] 116) (h : xX11_judge_L37 pT pB pP  w0 w1 w2 = some r) : zV X 0 0 (zwC κ ad pT w0 pX pF pB pP) [(0, .ref (ad 76)), (2, .int w1), (3, .int w2)] [] 37 := by
  unfold xX11_judge_L37 at h
  refine zr_iload_n (pc := 37) hC 2 rfl rfl dX11_judge_37 ?_
  refine zr_bipush (pc := 38) hC zkb_20 dX11_judge_38 ?_
  refine zr_icmp_ge (pc := 40) (tgt := 116) hC dX11_judge_40 (by decide) (fun c1 => ?_) (fun c1 => ?_)
  · replace h := zip h c1
    obtain rfl := Option.some.inj h
    exact zV.sub (lv' := [(0, .ref (ad 76)), (2, .int w1)]) [0, 1] rfl (hout0 w0 w1 rfl)
  · replace h := zin h c1
    refine zr_iload_n (pc := 43) hC 2 rfl rfl dX11_judge_43 ?_
    refine zr_aload_n (pc := 44) hC 0 rfl rfl dX11_judge_44 ?_
    refine zcg_76_5 (pc := 45) hC hinX11_judge_X11 flX11_judge_27 dX11_judge_45 ?_
    refine zr_icmp_ge (pc := 48) (tgt := 116) hC dX11_judge_48 (by decide) (fun c2 => ?_) (fun c2 => ?_)
    · replace h := zip h c2
      obtain rfl := Option.some.inj h
      exact zV.sub (lv' := [(0, .ref (ad 76)), (2, .int w1)]) [0, 1] rfl (hout0 w0 w1 rfl)
    · replace h := zin h c2
      refine zr_iload_n (pc := 51) hC 1 rfl rfl dX11_judge_51 ?_
      refine zr_bipush (pc := 52) hC zkb_m9 dX11_judge_52 ?_
      refine zr_icmp_ne (pc := 54) (tgt := 116) hC dX11_judge_54 (by decide) (fun c3 => ?_) (fun c3 => ?_)
      · replace h := zin h c3
        obtain rfl := Option.some.inj h
        exact zV.sub (lv' := [(0, .ref (ad 76)), (2, .int w1)]) [0, 1] rfl (hout0 w0 w1 rfl)
      · replace h := zip h c3
        refine zr_aload_n (pc := 57) hC 0 rfl rfl dX11_judge_57 ?_
        refine zcg_76_1 (pc := 58) hC hinX11_judge_X11 flX11_judge_68 dX11_judge_58 ?_
        refine zr_aload_n (pc := 61) hC 0 rfl rfl dX11_judge_61 ?_
        refine zcg_76_1 (pc := 62) hC hinX11_judge_X11 flX11_judge_68 dX11_judge_62 ?_
        obtain ⟨q4, hq4, h⟩ := zbd h
        refine zr_cVi (pc := 65) hC hEk [] [.ref (ad 62)] 62 0 (fun l D => tX6_drawEnd hEk hq4 l D) gX11_judge_X6_drawEnd rfl rfl rfl ⟨Nat.le_of_ble_eq_true rfl, Nat.le_of_ble_eq_true rfl⟩ hyX6_drawEnd (zNC (by decide)) entC_62 rfl rfl rfl (Nat.le_of_ble_eq_true rfl) ⟨Nat.le_of_ble_eq_true rfl, Nat.le_of_ble_eq_true rfl⟩ dX11_judge_65 ?_
        obtain ⟨q5, hq5, h⟩ := zbd h
        refine zr_cVv (pc := 68) hC hEk [.int q4.1] [] 62 1 (fun l D => tX6_runTo hEk hq5 l D) gX11_judge_X6_runTo rfl rfl rfl ⟨Nat.le_of_ble_eq_true rfl, Nat.le_of_ble_eq_true rfl⟩ hyX6_runTo (zNC (by decide)) entC_62 rfl rfl rfl (Nat.le_of_ble_eq_true rfl) ⟨Nat.le_of_ble_eq_true rfl, Nat.le_of_ble_eq_true rfl⟩ dX11_judge_68 ?_
        refine zr_aload_n (pc := 71) hC 0 rfl rfl dX11_judge_71 ?_
        refine zcg_76_1 (pc := 72) hC hinX11_judge_X11 flX11_judge_68 dX11_judge_72 ?_
        refine zcg_62_10 (pc := 75) hC hinX11_judge_X6 flX11_judge_264 dX11_judge_75 ?_
        refine zr_bipush (pc := 78) hC zkb_m9 dX11_judge_78 ?_
        refine zr_icmp_ne (pc := 80) (tgt := 88) hC dX11_judge_80 (by decide) (fun c6 => ?_) (fun c6 => ?_)
        · replace h := zin h c6
          refine zr_aload_n (pc := 88) hC 0 rfl rfl dX11_judge_88 ?_
          refine zcg_76_1 (pc := 89) hC hinX11_judge_X11 flX11_judge_68 dX11_judge_89 ?_
          refine zcg_62_10 (pc := 92) hC hinX11_judge_X6 flX11_judge_264 dX11_judge_92 ?_
          obtain ⟨z7, e8, h⟩ := zle h
          refine zr_topi e8 ?_
          refine zr_istore (pc := 95) (lv' := [(4, .int z7), (0, .ref (ad 76)), (2, .int w1), (3, .int w2)]) hC (by decide) rfl dX11_judge_95 ?_
          refine zr_iload (pc := 97) hC 0 rfl dX11_judge_97 ?_
          refine zr_aload_n (pc := 99) hC 1 rfl rfl dX11_judge_99 ?_
          refine zcg_76_4 (pc := 100) hC hinX11_judge_X11 flX11_judge_23 dX11_judge_100 ?_
          refine zr_iload_n (pc := 103) hC 3 rfl rfl dX11_judge_103 ?_
          obtain ⟨i9, h⟩ := zgd h
          refine zcl_77 (pc := 104) hC i9 dX11_judge_104 ?_
          refine zr_icmp_eq (pc := 105) (tgt := 110) hC dX11_judge_105 (by decide) (fun c10 => ?_) (fun c10 => ?_)
          · replace h := zip h c10
            refine zr_iinc (pc := 110) (k := 3) (lv' := [(3, .int (w2 + (1 : Int32))), (4, .int z7), (0, .ref (ad 76)), (2, .int w1)]) hC zki_1 (by decide) rfl rfl dX11_judge_110 ?_
            refine zr_goto (pc := 113) (tgt := 37) hC dX11_judge_113 (by decide) ?_
            obtain rfl := Option.some.inj h
            exact zV.sub (lv' := [(0, .ref (ad 76)), (2, .int w1), (3, .int (w2 + (1 : Int32)))]) [2, 3, 0] rfl (hin q5 w1 (w2 + (1 : Int32)) rfl)
          · replace h := zin h c10
            refine zr_iload_n (pc := 108) hC 3 rfl rfl dX11_judge_108 ?_
            refine zr_istore_n (pc := 109) (lv' := [(2, .int w2), (4, .int z7), (0, .ref (ad 76)), (3, .int w2)]) hC rfl (by decide) rfl dX11_judge_109 ?_
            refine zr_iinc (pc := 110) (k := 3) (lv' := [(3, .int (w2 + (1 : Int32))), (2, .int w2), (4, .int z7), (0, .ref (ad 76))]) hC zki_1 (by decide) rfl rfl dX11_judge_110 ?_
            refine zr_goto (pc := 113) (tgt := 37) hC dX11_judge_113 (by decide) ?_
            obtain rfl := Option.some.inj h
            exact zV.sub (lv' := [(0, .ref (ad 76)), (2, .int w2), (3, .int (w2 + (1 : Int32)))]) [3, 1, 0] rfl (hin q5 w2 (w2 + (1 : Int32)) rfl)
        · replace h := zip h c6
          refine zr_bipush (pc := 83) hC zkb_9 dX11_judge_83 ?_
          refine zr_goto (pc := 85) (tgt := 95) hC dX11_judge_85 (by decide) ?_
          refine zr_istore (pc := 95) (lv' := [(4, .int (9 : Int32)), (0, .ref (ad 76)), (2, .int w1), (3, .int w2)]) hC (by decide) rfl dX11_judge_95 ?_
          refine zr_iload (pc := 97) hC 0 rfl dX11_judge_97 ?_
          refine zr_aload_n (pc := 99) hC 1 rfl rfl dX11_judge_99 ?_
          refine zcg_76_4 (pc := 100) hC hinX11_judge_X11 flX11_judge_23 dX11_judge_100 ?_
          refine zr_iload_n (pc := 103) hC 3 rfl rfl dX11_judge_103 ?_
          obtain ⟨i11, h⟩ := zgd h
          refine zcl_77 (pc := 104) hC i11 dX11_judge_104 ?_
          refine zr_icmp_eq (pc := 105) (tgt := 110) hC dX11_judge_105 (by decide) (fun c12 => ?_) (fun c12 => ?_)
          · replace h := zip h c12
            refine zr_iinc (pc := 110) (k := 3) (lv' := [(3, .int (w2 + (1 : Int32))), (4, .int (9 : Int32)), (0, .ref (ad 76)), (2, .int w1)]) hC zki_1 (by decide) rfl rfl dX11_judge_110 ?_
            refine zr_goto (pc := 113) (tgt := 37) hC dX11_judge_113 (by decide) ?_
            obtain rfl := Option.some.inj h
            exact zV.sub (lv' := [(0, .ref (ad 76)), (2, .int w1), (3, .int (w2 + (1 : Int32)))]) [2, 3, 0] rfl (hin q5 w1 (w2 + (1 : Int32)) rfl)
          · replace h := zin h c12
            refine zr_iload_n (pc := 108) hC 3 rfl rfl dX11_judge_108 ?_
            refine zr_istore_n (pc := 109) (lv' := [(2, .int w2), (4, .int (9 : Int32)), (0, .ref (ad 76)), (3, .int w2)]) hC rfl (by decide) rfl dX11_judge_109 ?_
            refine zr_iinc (pc := 110) (k := 3) (lv' := [(3, .int (w2 + (1 : Int32))), (2, .int w2), (4, .int (9 : Int32)), (0, .ref (ad 76))]) hC zki_1 (by decide) rfl rfl dX11_judge_110 ?_
            refine zr_goto (pc := 113) (tgt := 37) hC dX11_judge_113 (by decide) ?_
            obtain rfl := Option.some.inj h
            exact zV.sub (lv' := [(0, .ref (ad 76)), (2, .int w2), (3, .int (w2 + (1 : Int32)))]) [3, 1, 0] rfl (hin q5 w2 (w2 + (1 : Int32)) rfl)
def xX11_judge (pT : zM) (pR : zM) (pB : zM) (pP : zP) (v1 : Int32) : Option (Int32 × zM × zM) :=
  (xX10_isWhole pT).bind fun q1 =>
  if q1 = 0 then
  ((xX11_refuse pB (-3 : Int32)).bind fun q9 =>
  some (q9.1, pR, q9.2))
  else
  (xX6_prepare pT pR pP).bind fun q3 =>
  zlet (zsi q3 62 16 v1) fun M4 =>
  (x_it (fun a9 => xX11_judge_L37 pT pB pP a9.1 a9.2.1 a9.2.2) zFU (M4, (-9 : Int32), (0 : Int32))).bind fun q6 =>
  zlet (zsi pB 76 5 (0 : Int32)) fun M7 =>
  some (q6.2, q6.1, M7)
set_option maxHeartbeats 4000000 in
set_option maxRecDepth 100000 in
theorem tX11_judge {κ : Nat → ClassId} {tg : Nat} {S : zEn} {ad : Nat → Nat} (hEk : zEk (zE tg S)) {pT : zM} {pR : zM} {pX : zM} {pF : zM} {pB : zM} {pP : zP} {v1 : Int32} {res : (Int32 × zM × zM)} (h : xX11_judge pT pR pB pP v1 = some res) (l : Launch) (D : va_G) : zCT (zE tg S) D vwCl (zty κ) l yX11_judge wsX11_judge ({ frames := 6, cells := 0, slots := 0, locals := 141 } : Room) 0 0 [.ref (ad 76), .int v1] (zwC κ ad pT pR pX pF pB pP) (zPd (some (.int res.1)) (zwC κ ad pT res.2.1 pX pF res.2.2 pP)) := by
  refine zCT.of (cc := cX11_judge) (maxL := 5) (ret := (some .int)) (by decide) rfl (Nat.le_of_ble_eq_true rfl) ?_
  intro X hC hR
  unfold xX11_judge at h
  refine zV.sub (lv' := [(0, .ref (ad 76)), (1, .int v1)]) [0, 1] rfl ?_
  refine zr_aload_n (pc := 0) hC 0 rfl rfl dX11_judge_0 ?_
  refine zcg_76_0 (pc := 1) hC hinX11_judge_X11 flX11_judge_59 dX11_judge_1 ?_
  obtain ⟨q1, hq1, h⟩ := zbd h
  refine zr_cVi (pc := 4) hC hEk [] [] 0 0 (fun l D => tX10_isWhole hEk hq1 l D) gX11_judge_X10_isWhole rfl rfl rfl ⟨Nat.le_of_ble_eq_true rfl, Nat.le_of_ble_eq_true rfl⟩ hyX10_isWhole (zNC (by decide)) entC_0 rfl rfl rfl (Nat.le_of_ble_eq_true rfl) ⟨Nat.le_of_ble_eq_true rfl, Nat.le_of_ble_eq_true rfl⟩ dX11_judge_4 ?_
  refine zr_if_ne (pc := 7) (tgt := 17) hC dX11_judge_7 (by decide) (fun c2 => ?_) (fun c2 => ?_)
  · replace h := zin h c2
    refine zr_aload_n (pc := 17) hC 0 rfl rfl dX11_judge_17 ?_
    refine zcg_76_1 (pc := 18) hC hinX11_judge_X11 flX11_judge_68 dX11_judge_18 ?_
    obtain ⟨q3, hq3, h⟩ := zbd h
    refine zr_cVv (pc := 21) hC hEk [] [] 62 0 (fun l D => tX6_prepare hEk hq3 l D) gX11_judge_X6_prepare rfl rfl rfl ⟨Nat.le_of_ble_eq_true rfl, Nat.le_of_ble_eq_true rfl⟩ hyX6_prepare (zNC (by decide)) entC_62 rfl rfl rfl (Nat.le_of_ble_eq_true rfl) ⟨Nat.le_of_ble_eq_true rfl, Nat.le_of_ble_eq_true rfl⟩ dX11_judge_21 ?_
    refine zr_aload_n (pc := 24) hC 0 rfl rfl dX11_judge_24 ?_
    refine zcg_76_1 (pc := 25) hC hinX11_judge_X11 flX11_judge_68 dX11_judge_25 ?_
    refine zr_iload_n (pc := 28) hC 1 rfl rfl dX11_judge_28 ?_
    obtain ⟨M4, e5, h⟩ := zle h
    refine zcp_62_16 (pc := 29) hC hinX11_judge_X6 flX11_judge_255 e5 dX11_judge_29 ?_
    refine zr_bipush (pc := 32) hC zkb_m9 dX11_judge_32 ?_
    refine zr_istore_n (pc := 34) (lv' := [(2, .int (-9 : Int32)), (0, .ref (ad 76)), (1, .int v1)]) hC rfl (by decide) rfl dX11_judge_34 ?_
    refine zr_iconst (pc := 35) hC zki_0 dX11_judge_35 ?_
    refine zr_istore_n (pc := 36) (lv' := [(3, .int (0 : Int32)), (2, .int (-9 : Int32)), (0, .ref (ad 76)), (1, .int v1)]) hC rfl (by decide) rfl dX11_judge_36 ?_
    obtain ⟨q6, hq6, h⟩ := zbd h
    refine zV.sub (lv' := [(0, .ref (ad 76)), (2, .int (-9 : Int32)), (3, .int (0 : Int32))]) [2, 1, 0] rfl ?_
    refine zit3 (Wp := fun (y0 : zM) (y1 : Int32) (y2 : Int32) => zV X 0 0 (zwC κ ad pT y0 pX pF pB pP) [(0, .ref (ad 76)), (2, .int y1), (3, .int y2)] [] 37) (Ex := fun (b9 : (zM × Int32)) => zV X 0 0 (zwC κ ad pT b9.1 pX pF pB pP) [(0, .ref (ad 76)), (2, .int b9.2)] [] 116) (fun y0 y1 y2 r9 hr hin hout => tX11_judge_L37 hC hEk hin (fun z0 z1 e9 => hout (z0, z1) e9) hr) zFU M4 (-9 : Int32) (0 : Int32) q6 hq6 ?_
    show zV X 0 0 (zwC κ ad pT q6.1 pX pF pB pP) [(0, .ref (ad 76)), (2, .int q6.2)] [] 116
    refine zr_aload_n (pc := 116) hC 0 rfl rfl dX11_judge_116 ?_
    refine zr_iconst (pc := 117) hC zki_0 dX11_judge_117 ?_
    obtain ⟨M7, e8, h⟩ := zle h
    refine zcp_76_5 (pc := 118) hC hinX11_judge_X11 flX11_judge_27 e8 dX11_judge_118 ?_
    refine zr_iload_n (pc := 121) hC 1 rfl rfl dX11_judge_121 ?_
    obtain rfl := Option.some.inj h
    exact zr_iret hC hR ⟨rfl, rfl⟩ (Nat.le_refl _) (Nat.le_refl _) dX11_judge_122
  · replace h := zip h c2
    refine zr_aload_n (pc := 10) hC 0 rfl rfl dX11_judge_10 ?_
    refine zr_bipush (pc := 11) hC zkb_m3 dX11_judge_11 ?_
    obtain ⟨q9, hq9, h⟩ := zbd h
    refine zr_cVi (pc := 13) hC hEk [.int (-3 : Int32)] [] 76 1 (fun l D => tX11_refuse hEk hq9 l D) gX11_judge_X11_refuse rfl rfl rfl ⟨Nat.le_of_ble_eq_true rfl, Nat.le_of_ble_eq_true rfl⟩ hyX11_refuse (zNC (by decide)) entC_76 rfl rfl rfl (Nat.le_of_ble_eq_true rfl) ⟨Nat.le_of_ble_eq_true rfl, Nat.le_of_ble_eq_true rfl⟩ dX11_judge_13 ?_
    obtain rfl := Option.some.inj h
    exact zr_iret hC hR ⟨rfl, rfl⟩ (Nat.le_refl _) (Nat.le_refl _) dX11_judge_16
/-! X11_image -/
theorem h0X11_image_toldSet : Cond.code ⟨"BeforeTheEnd$Player", "toldSet", "()I"⟩ cX5_toldSet 1 (some .int) ∈ wsX11_image := by decide +kernel
set_option maxHeartbeats 4000000 in
theorem vrX11_image_133 {κ : Nat → ClassId} {tg : Nat} {S : zEn} {ad : Nat → Nat} {X : zX} {cells slots nL pc a : Nat} {lv : zLv} {rm : Room} {pT pR pX pF pB : zM} {pP : zP}  {q : Int32} (hC : zC X cX11_image RX11 wsX11_image vwCl (zty κ) (zE tg S) nL rm) (hEk : zEk (zE tg S)) (ha : ¬ pP.2.2.2 ≤ a) (hq : xv_toldSet pP a  = some q) {rest : List Value} (hcat : (rest.map fun v => v.category).sum ≤ 8) (hf : 1 ≤ rm.frames) (hl : 20 ≤ rm.locals) (hfit : cells + 0 ≤ rm.cells ∧ slots + 0 ≤ rm.slots) (hd : decode cX11_image pc = .ok (.invokevirtual 133, 3)) (kk : zV X cells slots (zwC κ ad pT pR pX pF pB pP) lv (.int q :: rest) (pc + 3)) : zV X cells slots (zwC κ ad pT pR pX pF pB pP) lv (.ref (ad (81 + a)) :: rest) pc := by
  have ha2 : a < pP.2.2.2 := by omega
  unfold xv_toldSet at hq
  by_cases k0 : pP.2.1 a = 0
  · replace hq := zip hq k0
    obtain ⟨q2, hq2, hq⟩ := zbd hq
    obtain rfl := Option.some.inj hq
    exact zr_cUi hC hEk [] rest (81 + a) 0 (fun l D => tX5_toldSet_k0 hEk k0 ha2 hq2 l D) gX11_image_X5_toldSet_u133X2 rfl rfl rfl rfl ⟨Nat.le_trans (Nat.le_of_ble_eq_true rfl) hf, Nat.le_trans (Nat.le_of_ble_eq_true rfl) hl⟩ hxv_toldSet (by omega) (entC_p0 k0) rfl rfl rfl hcat hfit hd kk
  replace hq := zin hq k0
  by_cases k1 : pP.2.1 a = 1
  · replace hq := zip hq k1
    obtain ⟨q2, hq2, hq⟩ := zbd hq
    obtain rfl := Option.some.inj hq
    exact zr_cUi hC hEk [] rest (81 + a) 0 (fun l D => tX5_toldSet_k1 hEk k1 ha2 hq2 l D) gX11_image_X5_toldSet_u133X7 rfl rfl rfl rfl ⟨Nat.le_trans (Nat.le_of_ble_eq_true rfl) hf, Nat.le_trans (Nat.le_of_ble_eq_true rfl) hl⟩ hxv_toldSet (by omega) (entC_p1 k1) rfl rfl rfl hcat hfit hd kk
  replace hq := zin hq k1
  by_cases k2 : pP.2.1 a = 2
  · replace hq := zip hq k2
    obtain ⟨q2, hq2, hq⟩ := zbd hq
    obtain rfl := Option.some.inj hq
    exact zr_cUi hC hEk [] rest (81 + a) 0 (fun l D => tX5_toldSet_k2 hEk k2 ha2 hq2 l D) gX11_image_X5_toldSet_u133X1 rfl rfl rfl rfl ⟨Nat.le_trans (Nat.le_of_ble_eq_true rfl) hf, Nat.le_trans (Nat.le_of_ble_eq_true rfl) hl⟩ hxv_toldSet (by omega) (entC_p2 k2) rfl rfl rfl hcat hfit hd kk
  replace hq := zin hq k2
  by_cases k3 : pP.2.1 a = 3
  · replace hq := zip hq k3
    obtain ⟨q2, hq2, hq⟩ := zbd hq
    obtain rfl := Option.some.inj hq
    exact zr_cUi hC hEk [] rest (81 + a) 0 (fun l D => tX5_toldSet_k3 hEk k3 ha2 hq2 l D) gX11_image_X5_toldSet_u133X4 rfl rfl rfl rfl ⟨Nat.le_trans (Nat.le_of_ble_eq_true rfl) hf, Nat.le_trans (Nat.le_of_ble_eq_true rfl) hl⟩ hxv_toldSet (by omega) (entC_p3 k3) rfl rfl rfl hcat hfit hd kk
  replace hq := zin hq k3
  by_cases k4 : pP.2.1 a = 4
  · replace hq := zip hq k4
    obtain ⟨q2, hq2, hq⟩ := zbd hq
    obtain rfl := Option.some.inj hq
    exact zr_cOi hC hEk [] rest (81 + a) 0 (fun l D => tX9_toldSet_k4 hEk k4 ha2 hq2 l D) gX11_image_X9_toldSet_u133X9 h0X11_image_toldSet rfl rfl rfl ⟨Nat.le_trans (Nat.le_of_ble_eq_true rfl) hf, Nat.le_trans (Nat.le_of_ble_eq_true rfl) hl⟩ hxv_toldSet (by omega) (entC_p4 k4) rfl rfl rfl hcat hfit hd kk
  replace hq := zin hq k4
  obtain ⟨q2, hq2, hq⟩ := zbd hq
  obtain rfl := Option.some.inj hq
  exact zr_cOi hC hEk [] rest (81 + a) 0 (fun l D => tX9_toldSet_k5 hEk ⟨k0, k1, k2, k3, k4⟩ ha2 hq2 l D) gX11_image_X9_toldSet_u133X0 h0X11_image_toldSet rfl rfl rfl ⟨Nat.le_trans (Nat.le_of_ble_eq_true rfl) hf, Nat.le_trans (Nat.le_of_ble_eq_true rfl) hl⟩ hxv_toldSet (by omega) (entC_p5 ⟨k0, k1, k2, k3, k4⟩) rfl rfl rfl hcat hfit hd kk
theorem hyX11_image : yX11_image.cls = RX11 ∧ yX11_image.cls ≠ "java/lang/invoke/MethodHandle" ∧ yX11_image.cls ≠ "java/lang/invoke/VarHandle" ∧ (parseMethodDescriptor yX11_image.desc).map (fun d => d.parameters.length) = some 0 := by decide +kernel
theorem flX11_image_19 : Cond.fieldLink RX11 19 "BeforeTheEnd" "facts" "LBeforeTheEnd$Facts;" ∈ wsX11_image := by decide +kernel
theorem flX11_image_34 : Cond.fieldLink RX11 34 "BeforeTheEnd" "imageTaken" "Z" ∈ wsX11_image := by decide +kernel
theorem flX11_image_38 : Cond.fieldLink RX11 38 "BeforeTheEnd" "imageWords" "I" ∈ wsX11_image := by decide +kernel
theorem flX11_image_41 : Cond.fieldLink RX11 41 "BeforeTheEnd" "imagePlayers" "I" ∈ wsX11_image := by decide +kernel
theorem flX11_image_44 : Cond.fieldLink RX11 44 "BeforeTheEnd" "imageFacts" "I" ∈ wsX11_image := by decide +kernel
theorem flX11_image_50 : Cond.fieldLink RX11 50 "BeforeTheEnd" "imagePoints" "[I" ∈ wsX11_image := by decide +kernel
theorem flX11_image_53 : Cond.fieldLink RX11 53 "BeforeTheEnd" "imageSets" "[I" ∈ wsX11_image := by decide +kernel
theorem flX11_image_59 : Cond.fieldLink RX11 59 "BeforeTheEnd" "tree" "LBeforeTheEnd$Tree;" ∈ wsX11_image := by decide +kernel
theorem flX11_image_68 : Cond.fieldLink RX11 68 "BeforeTheEnd" "race" "LBeforeTheEnd$Race;" ∈ wsX11_image := by decide +kernel
theorem hinX11_image_X11 : ∀ w ∈ wsX110, w ∈ wsX11_image := fun _ h => List.mem_cons_of_mem _ (List.mem_append_left _ (List.mem_append_left _ (List.mem_append_left _ (List.mem_append_left _ (List.mem_append_left _ (List.mem_append_right _ h))))))
theorem hinX11_image_X10 : ∀ w ∈ wsX100, w ∈ wsX11_image := fun _ h => List.mem_cons_of_mem _ (List.mem_append_left _ (List.mem_append_left _ (List.mem_append_left _ (List.mem_append_left _ (List.mem_append_right _ h)))))
theorem hinX11_image_X6 : ∀ w ∈ wsX60, w ∈ wsX11_image := fun _ h => List.mem_cons_of_mem _ (List.mem_append_left _ (List.mem_append_left _ (List.mem_append_left _ (List.mem_append_right _ h))))
theorem hinX11_image_X3 : ∀ w ∈ wsX30, w ∈ wsX11_image := fun _ h => List.mem_cons_of_mem _ (List.mem_append_left _ (List.mem_append_left _ (List.mem_append_right _ h)))
theorem hinX11_image_X0 : ∀ w ∈ wsX00, w ∈ wsX11_image := fun _ h => List.mem_cons_of_mem _ (List.mem_append_left _ (List.mem_append_right _ h))
theorem hinX11_image_X9 : ∀ w ∈ wsX90, w ∈ wsX11_image := fun _ h => List.mem_cons_of_mem _ (List.mem_append_right _ h)
def xX11_image_L40 (pT : zM) (pR : zM) (pF : zM) (pP : zP) (w0 : zM) (w1 : Int32) : Option ((zM × Int32) ⊕ zM) :=
  if (4 : Int32) ≤ w1 then
  (some (.inr w0))
  else
  (xX6_pointOf pR w1).bind fun q2 =>
  if (w1 < 0 ∨ 4 ≤ w1.toNatClampNeg) then none else
  zlet (zsi w0 79 w1.toNatClampNeg q2) fun M4 =>
  some (.inl (M4, (w1 + (1 : Int32))))
set_option maxHeartbeats 4000000 in
set_option maxRecDepth 100000 in
theorem tX11_image_L40 {κ : Nat → ClassId} {tg : Nat} {S : zEn} {ad : Nat → Nat} {X : zX} {pX : zM} {pT : zM} {pR : zM} {pF : zM} {pP : zP} {w0 : zM} {w1 : Int32} {r : ((zM × Int32) ⊕ zM)} (hC : zC X cX11_image RX11 wsX11_image vwCl (zty κ) (zE tg S) 3 ({ frames := 1, cells := 0, slots := 0, locals := 21 } : Room)) (hEk : zEk (zE tg S)) (hin : ∀ (x0' : zM) (x1' : Int32), r = .inl (x0', x1') → zV X 0 0 (zwC κ ad pT pR pX pF x0' pP) [(0, .ref (ad 76)), (1, .int x1')] [] 40) (hout0 : ∀ (x0' : zM), r = .inr x0' → zV X 0 0 (zwC κ ad pT pR pX pF x0' pP) [(0, .ref (ad 76))] [] 69) (h : xX11_image_L40 pT pR pF pP  w0 w1 = some r) : zV X 0 0 (zwC κ ad pT pR pX pF w0 pP) [(0, .ref (ad 76)), (1, .int w1)] [] 40 := by
  unfold xX11_image_L40 at h
  refine zr_iload_n (pc := 40) hC 1 rfl rfl dX11_image_40 ?_
  refine zr_aload_n (pc := 41) hC 0 rfl rfl dX11_image_41 ?_
  refine zcg_76_11 (pc := 42) hC hinX11_image_X11 flX11_image_50 dX11_image_42 ?_
  refine zca_79 (pc := 45) hC dX11_image_45 ?_
  refine zr_icmp_ge (pc := 46) (tgt := 69) hC dX11_image_46 (by decide) (fun c1 => ?_) (fun c1 => ?_)
  · replace h := zip h c1
    obtain rfl := Option.some.inj h
    exact zV.sub (lv' := [(0, .ref (ad 76))]) [0] rfl (hout0 w0 rfl)
  · replace h := zin h c1
    refine zr_aload_n (pc := 49) hC 0 rfl rfl dX11_image_49 ?_
    refine zcg_76_11 (pc := 50) hC hinX11_image_X11 flX11_image_50 dX11_image_50 ?_
    refine zr_iload_n (pc := 53) hC 1 rfl rfl dX11_image_53 ?_
    refine zr_aload_n (pc := 54) hC 0 rfl rfl dX11_image_54 ?_
    refine zcg_76_1 (pc := 55) hC hinX11_image_X11 flX11_image_68 dX11_image_55 ?_
    refine zr_iload_n (pc := 58) hC 1 rfl rfl dX11_image_58 ?_
    obtain ⟨q2, hq2, h⟩ := zbd h
    refine zr_cVi (pc := 59) hC hEk [.int w1] [.int w1, .ref (ad 79)] 62 1 (fun l D => tX6_pointOf hEk hq2 l D) gX11_image_X6_pointOf rfl rfl rfl ⟨Nat.le_of_ble_eq_true rfl, Nat.le_of_ble_eq_true rfl⟩ hyX6_pointOf (zNC (by decide)) entC_62 rfl rfl rfl (Nat.le_of_ble_eq_true rfl) ⟨Nat.le_of_ble_eq_true rfl, Nat.le_of_ble_eq_true rfl⟩ dX11_image_59 ?_
    obtain ⟨i3, h⟩ := zgd h
    obtain ⟨M4, e5, h⟩ := zle h
    refine zcs_79 (pc := 62) hC i3 e5 dX11_image_62 ?_
    refine zr_iinc (pc := 63) (k := 1) (lv' := [(1, .int (w1 + (1 : Int32))), (0, .ref (ad 76))]) hC zki_1 (by decide) rfl rfl dX11_image_63 ?_
    refine zr_goto (pc := 66) (tgt := 40) hC dX11_image_66 (by decide) ?_
    obtain rfl := Option.some.inj h
    exact zV.sub (lv' := [(0, .ref (ad 76)), (1, .int (w1 + (1 : Int32)))]) [1, 0] rfl (hin M4 (w1 + (1 : Int32)) rfl)
def xX11_image_L71 (pT : zM) (pR : zM) (pF : zM) (pP : zP) (w0 : zM) (w1 : Int32) : Option ((zM × Int32) ⊕ zM) :=
  if (4 : Int32) ≤ w1 then
  (some (.inr w0))
  else
  (xX6_playerAt pR pP w1).bind fun q2 =>
  zon q2
  (if (w1 < 0 ∨ 4 ≤ w1.toNatClampNeg) then none else
  zlet (zsi w0 80 w1.toNatClampNeg (0 : Int32)) fun M7 =>
  some (.inl (M7, (w1 + (1 : Int32)))))
  (fun a3 => if pP.2.2.2 ≤ a3 then none else
  (xv_toldSet pP a3).bind fun q9 =>
  if (w1 < 0 ∨ 4 ≤ w1.toNatClampNeg) then none else
  zlet (zsi w0 80 w1.toNatClampNeg q9) fun M11 =>
  some (.inl (M11, (w1 + (1 : Int32)))))
set_option maxHeartbeats 4000000 in
set_option maxRecDepth 100000 in
theorem tX11_image_L71 {κ : Nat → ClassId} {tg : Nat} {S : zEn} {ad : Nat → Nat} {X : zX} {pX : zM} {pT : zM} {pR : zM} {pF : zM} {pP : zP} {w0 : zM} {w1 : Int32} {r : ((zM × Int32) ⊕ zM)} (hC : zC X cX11_image RX11 wsX11_image vwCl (zty κ) (zE tg S) 3 ({ frames := 1, cells := 0, slots := 0, locals := 21 } : Room)) (hEk : zEk (zE tg S)) (hin : ∀ (x0' : zM) (x1' : Int32), r = .inl (x0', x1') → zV X 0 0 (zwC κ ad pT pR pX pF x0' pP) [(0, .ref (ad 76)), (1, .int x1')] [] 71) (hout0 : ∀ (x0' : zM), r = .inr x0' → zV X 0 0 (zwC κ ad pT pR pX pF x0' pP) [(0, .ref (ad 76))] [] 109) (h : xX11_image_L71 pT pR pF pP  w0 w1 = some r) : zV X 0 0 (zwC κ ad pT pR pX pF w0 pP) [(0, .ref (ad 76)), (1, .int w1)] [] 71 := by
  unfold xX11_image_L71 at h
  refine zr_iload_n (pc := 71) hC 1 rfl rfl dX11_image_71 ?_
  refine zr_iconst (pc := 72) hC zki_4 dX11_image_72 ?_
  refine zr_icmp_ge (pc := 73) (tgt := 109) hC dX11_image_73 (by decide) (fun c1 => ?_) (fun c1 => ?_)
  · replace h := zip h c1
    obtain rfl := Option.some.inj h
    exact zV.sub (lv' := [(0, .ref (ad 76))]) [0] rfl (hout0 w0 rfl)
  · replace h := zin h c1
    refine zr_aload_n (pc := 76) hC 0 rfl rfl dX11_image_76 ?_
    refine zcg_76_1 (pc := 77) hC hinX11_image_X11 flX11_image_68 dX11_image_77 ?_
    refine zr_iload_n (pc := 80) hC 1 rfl rfl dX11_image_80 ?_
    obtain ⟨q2, hq2, h⟩ := zbd h
    refine zr_cVr (pc := 81) hC hEk [.int w1] [] 62 1 (fun l D => tX6_playerAt hEk hq2 l D) gX11_image_X6_playerAt rfl rfl rfl ⟨Nat.le_of_ble_eq_true rfl, Nat.le_of_ble_eq_true rfl⟩ hyX6_playerAt (zNC (by decide)) entC_62 rfl rfl rfl (Nat.le_of_ble_eq_true rfl) ⟨Nat.le_of_ble_eq_true rfl, Nat.le_of_ble_eq_true rfl⟩ dX11_image_81 ?_
    refine zr_astore_nO (pc := 84) (lv' := [(2, va_rf (q2.map (fun a => ad (81 + a)))), (0, .ref (ad 76)), (1, .int w1)]) hC rfl (by decide) (by cases q2 <;> rfl) dX11_image_84 ?_
    refine zr_aload_n (pc := 85) hC 1 rfl rfl dX11_image_85 ?_
    refine zcg_76_12 (pc := 86) hC hinX11_image_X11 flX11_image_53 dX11_image_86 ?_
    refine zr_iload_n (pc := 89) hC 2 rfl rfl dX11_image_89 ?_
    refine zr_aload_nO (pc := 90) hC 0 rfl rfl dX11_image_90 ?_
    refine zr_ifnonnullM (pc := 91) (tgt := 98) hC dX11_image_91 (by decide) (fun a3 e4 => ?_) (fun e4 => ?_)
    · replace h := zon_s e4 h
      have h9 := h
      subst e4
      replace h := h9
      clear h9
      obtain ⟨i5, h⟩ := zgd h
      show zV X 0 0 (zwC κ ad pT pR pX pF w0 pP) [(2, .ref (ad (81 + a3))), (0, .ref (ad 76)), (1, .int w1)] [.int w1, .ref (ad 80)] 98
      refine zr_aload_n (pc := 98) hC 0 rfl rfl dX11_image_98 ?_
      obtain ⟨q9, hq9, h⟩ := zbd h
      refine vrX11_image_133 (pc := 99) hC hEk i5 hq9 (rest := [.int w1, .ref (ad 80)]) (Nat.le_of_ble_eq_true rfl) (Nat.le_of_ble_eq_true rfl) (Nat.le_of_ble_eq_true rfl) ⟨Nat.le_of_ble_eq_true rfl, Nat.le_of_ble_eq_true rfl⟩ dX11_image_99 ?_
      obtain ⟨i10, h⟩ := zgd h
      obtain ⟨M11, e12, h⟩ := zle h
      refine zcs_80 (pc := 102) hC i10 e12 dX11_image_102 ?_
      refine zr_iinc (pc := 103) (k := 2) (lv' := [(1, .int (w1 + (1 : Int32))), (2, .ref (ad (81 + a3))), (0, .ref (ad 76))]) hC zki_1 (by decide) rfl rfl dX11_image_103 ?_
      refine zr_goto (pc := 106) (tgt := 71) hC dX11_image_106 (by decide) ?_
      obtain rfl := Option.some.inj h
      exact zV.sub (lv' := [(0, .ref (ad 76)), (1, .int (w1 + (1 : Int32)))]) [2, 0] rfl (hin M11 (w1 + (1 : Int32)) rfl)
    · replace h := zon_n e4 h
      have h9 := h
      subst e4
      replace h := h9
      clear h9
      show zV X 0 0 (zwC κ ad pT pR pX pF w0 pP) [(2, va_rf ((none : Option Nat).map (fun a => ad (81 + a)))), (0, .ref (ad 76)), (1, .int w1)] [.int w1, .ref (ad 80)] 94
      refine zr_iconst (pc := 94) hC zki_0 dX11_image_94 ?_
      refine zr_goto (pc := 95) (tgt := 102) hC dX11_image_95 (by decide) ?_
      obtain ⟨i6, h⟩ := zgd h
      obtain ⟨M7, e8, h⟩ := zle h
      refine zcs_80 (pc := 102) hC i6 e8 dX11_image_102 ?_
      refine zr_iinc (pc := 103) (k := 2) (lv' := [(1, .int (w1 + (1 : Int32))), (2, va_rf ((none : Option Nat).map (fun a => ad (81 + a)))), (0, .ref (ad 76))]) hC zki_1 (by decide) rfl rfl dX11_image_103 ?_
      refine zr_goto (pc := 106) (tgt := 71) hC dX11_image_106 (by decide) ?_
      obtain rfl := Option.some.inj h
      exact zV.sub (lv' := [(0, .ref (ad 76)), (1, .int (w1 + (1 : Int32)))]) [2, 0] rfl (hin M7 (w1 + (1 : Int32)) rfl)
def xX11_image (pT : zM) (pR : zM) (pF : zM) (pB : zM) (pP : zP)  : Option (Int32 × zM) :=
  zlet (zsi pB 76 7 (1 : Int32)) fun M1 =>
  (xX10_size pT).bind fun q3 =>
  zlet (zsi M1 76 8 q3) fun M4 =>
  (xX6_size pR).bind fun q6 =>
  zlet (zsi M4 76 9 q6) fun M7 =>
  (xX3_size pF).bind fun q9 =>
  zlet (zsi M7 76 10 q9) fun M10 =>
  (x_it (fun a9 => xX11_image_L40 pT pR pF pP a9.1 a9.2) zFU (M10, (0 : Int32))).bind fun q12 =>
  (x_it (fun a9 => xX11_image_L71 pT pR pF pP a9.1 a9.2) zFU (q12, (0 : Int32))).bind fun q13 =>
  (xX10_size pT).bind fun q14 =>
  some (q14, q13)
set_option maxHeartbeats 4000000 in
set_option maxRecDepth 100000 in
theorem tX11_image {κ : Nat → ClassId} {tg : Nat} {S : zEn} {ad : Nat → Nat} (hEk : zEk (zE tg S)) {pT : zM} {pR : zM} {pX : zM} {pF : zM} {pB : zM} {pP : zP}  {res : (Int32 × zM)} (h : xX11_image pT pR pF pB pP  = some res) (l : Launch) (D : va_G) : zCT (zE tg S) D vwCl (zty κ) l yX11_image wsX11_image ({ frames := 1, cells := 0, slots := 0, locals := 21 } : Room) 0 0 [.ref (ad 76)] (zwC κ ad pT pR pX pF pB pP) (zPd (some (.int res.1)) (zwC κ ad pT pR pX pF res.2 pP)) := by
  refine zCT.of (cc := cX11_image) (maxL := 3) (ret := (some .int)) (by decide) rfl (Nat.le_of_ble_eq_true rfl) ?_
  intro X hC hR
  unfold xX11_image at h
  refine zV.sub (lv' := [(0, .ref (ad 76))]) [0] rfl ?_
  refine zr_aload_n (pc := 0) hC 0 rfl rfl dX11_image_0 ?_
  refine zr_iconst (pc := 1) hC zki_1 dX11_image_1 ?_
  obtain ⟨M1, e2, h⟩ := zle h
  refine zcp_76_7 (pc := 2) hC hinX11_image_X11 flX11_image_34 (by decide) e2 dX11_image_2 ?_
  refine zr_aload_n (pc := 5) hC 0 rfl rfl dX11_image_5 ?_
  refine zr_aload_n (pc := 6) hC 0 rfl rfl dX11_image_6 ?_
  refine zcg_76_0 (pc := 7) hC hinX11_image_X11 flX11_image_59 dX11_image_7 ?_
  obtain ⟨q3, hq3, h⟩ := zbd h
  refine zr_cVi (pc := 10) hC hEk [] [.ref (ad 76)] 0 0 (fun l D => tX10_size hEk hq3 l D) gX11_image_X10_size rfl rfl rfl ⟨Nat.le_of_ble_eq_true rfl, Nat.le_of_ble_eq_true rfl⟩ hyX10_size (zNC (by decide)) entC_0 rfl rfl rfl (Nat.le_of_ble_eq_true rfl) ⟨Nat.le_of_ble_eq_true rfl, Nat.le_of_ble_eq_true rfl⟩ dX11_image_10 ?_
  obtain ⟨M4, e5, h⟩ := zle h
  refine zcp_76_8 (pc := 13) hC hinX11_image_X11 flX11_image_38 e5 dX11_image_13 ?_
  refine zr_aload_n (pc := 16) hC 0 rfl rfl dX11_image_16 ?_
  refine zr_aload_n (pc := 17) hC 0 rfl rfl dX11_image_17 ?_
  refine zcg_76_1 (pc := 18) hC hinX11_image_X11 flX11_image_68 dX11_image_18 ?_
  obtain ⟨q6, hq6, h⟩ := zbd h
  refine zr_cVi (pc := 21) hC hEk [] [.ref (ad 76)] 62 0 (fun l D => tX6_size hEk hq6 l D) gX11_image_X6_size rfl rfl rfl ⟨Nat.le_of_ble_eq_true rfl, Nat.le_of_ble_eq_true rfl⟩ hyX6_size (zNC (by decide)) entC_62 rfl rfl rfl (Nat.le_of_ble_eq_true rfl) ⟨Nat.le_of_ble_eq_true rfl, Nat.le_of_ble_eq_true rfl⟩ dX11_image_21 ?_
  obtain ⟨M7, e8, h⟩ := zle h
  refine zcp_76_9 (pc := 24) hC hinX11_image_X11 flX11_image_41 e8 dX11_image_24 ?_
  refine zr_aload_n (pc := 27) hC 0 rfl rfl dX11_image_27 ?_
  refine zr_aload_n (pc := 28) hC 0 rfl rfl dX11_image_28 ?_
  refine zcg_76_3 (pc := 29) hC hinX11_image_X11 flX11_image_19 dX11_image_29 ?_
  obtain ⟨q9, hq9, h⟩ := zbd h
  refine zr_cVi (pc := 32) hC hEk [] [.ref (ad 76)] 72 0 (fun l D => tX3_size hEk hq9 l D) gX11_image_X3_size rfl rfl rfl ⟨Nat.le_of_ble_eq_true rfl, Nat.le_of_ble_eq_true rfl⟩ hyX3_size (zNC (by decide)) entC_72 rfl rfl rfl (Nat.le_of_ble_eq_true rfl) ⟨Nat.le_of_ble_eq_true rfl, Nat.le_of_ble_eq_true rfl⟩ dX11_image_32 ?_
  obtain ⟨M10, e11, h⟩ := zle h
  refine zcp_76_10 (pc := 35) hC hinX11_image_X11 flX11_image_44 e11 dX11_image_35 ?_
  refine zr_iconst (pc := 38) hC zki_0 dX11_image_38 ?_
  refine zr_istore_n (pc := 39) (lv' := [(1, .int (0 : Int32)), (0, .ref (ad 76))]) hC rfl (by decide) rfl dX11_image_39 ?_
  obtain ⟨q12, hq12, h⟩ := zbd h
  refine zV.sub (lv' := [(0, .ref (ad 76)), (1, .int (0 : Int32))]) [1, 0] rfl ?_
  refine zit2 (Wp := fun (y0 : zM) (y1 : Int32) => zV X 0 0 (zwC κ ad pT pR pX pF y0 pP) [(0, .ref (ad 76)), (1, .int y1)] [] 40) (Ex := fun (b9 : zM) => zV X 0 0 (zwC κ ad pT pR pX pF b9 pP) [(0, .ref (ad 76))] [] 69) (fun y0 y1 r9 hr hin hout => tX11_image_L40 hC hEk hin (fun z0 e9 => hout z0 e9) hr) zFU M10 (0 : Int32) q12 hq12 ?_
  show zV X 0 0 (zwC κ ad pT pR pX pF q12 pP) [(0, .ref (ad 76))] [] 69
  refine zr_iconst (pc := 69) hC zki_0 dX11_image_69 ?_
  refine zr_istore_n (pc := 70) (lv' := [(1, .int (0 : Int32)), (0, .ref (ad 76))]) hC rfl (by decide) rfl dX11_image_70 ?_
  obtain ⟨q13, hq13, h⟩ := zbd h
  refine zV.sub (lv' := [(0, .ref (ad 76)), (1, .int (0 : Int32))]) [1, 0] rfl ?_
  refine zit2 (Wp := fun (y0 : zM) (y1 : Int32) => zV X 0 0 (zwC κ ad pT pR pX pF y0 pP) [(0, .ref (ad 76)), (1, .int y1)] [] 71) (Ex := fun (b9 : zM) => zV X 0 0 (zwC κ ad pT pR pX pF b9 pP) [(0, .ref (ad 76))] [] 109) (fun y0 y1 r9 hr hin hout => tX11_image_L71 hC hEk hin (fun z0 e9 => hout z0 e9) hr) zFU q12 (0 : Int32) q13 hq13 ?_
  show zV X 0 0 (zwC κ ad pT pR pX pF q13 pP) [(0, .ref (ad 76))] [] 109
  refine zr_aload_n (pc := 109) hC 0 rfl rfl dX11_image_109 ?_
  refine zcg_76_0 (pc := 110) hC hinX11_image_X11 flX11_image_59 dX11_image_110 ?_
  obtain ⟨q14, hq14, h⟩ := zbd h
  refine zr_cVi (pc := 113) hC hEk [] [] 0 0 (fun l D => tX10_size hEk hq14 l D) gX11_image_X10_size rfl rfl rfl ⟨Nat.le_of_ble_eq_true rfl, Nat.le_of_ble_eq_true rfl⟩ hyX10_size (zNC (by decide)) entC_0 rfl rfl rfl (Nat.le_of_ble_eq_true rfl) ⟨Nat.le_of_ble_eq_true rfl, Nat.le_of_ble_eq_true rfl⟩ dX11_image_113 ?_
  obtain rfl := Option.some.inj h
  exact zr_iret hC hR ⟨rfl, rfl⟩ (Nat.le_refl _) (Nat.le_refl _) dX11_image_116
/-! X11_on -/
theorem h0X11_on_tell : Cond.code ⟨"BeforeTheEnd$Player", "tell", "(I)V"⟩ cX5_tell 2 none ∈ wsX11_on := by decide +kernel
set_option maxHeartbeats 4000000 in
theorem vrX11_on_175 {κ : Nat → ClassId} {tg : Nat} {S : zEn} {ad : Nat → Nat} {X : zX} {cells slots nL pc a : Nat} {lv : zLv} {rm : Room} {pT pR pX pF pB : zM} {pP : zP} {v1 : Int32} {q : zP} (hC : zC X cX11_on RX11 wsX11_on vwCl (zty κ) (zE tg S) nL rm) (hEk : zEk (zE tg S)) (ha : ¬ pP.2.2.2 ≤ a) (hq : xv_tell pP a v1 = some q) {rest : List Value} (hcat : (rest.map fun v => v.category).sum ≤ 8) (hf : 1 ≤ rm.frames) (hl : 21 ≤ rm.locals) (hfit : cells + 0 ≤ rm.cells ∧ slots + 0 ≤ rm.slots) (hd : decode cX11_on pc = .ok (.invokevirtual 175, 3)) (kk : zV X cells slots (zwC κ ad pT pR pX pF pB q) lv rest (pc + 3)) : zV X cells slots (zwC κ ad pT pR pX pF pB pP) lv (.int v1 :: .ref (ad (81 + a)) :: rest) pc := by
  have ha2 : a < pP.2.2.2 := by omega
  unfold xv_tell at hq
  by_cases k0 : pP.2.1 a = 0
  · replace hq := zip hq k0
    obtain ⟨q2, hq2, hq⟩ := zbd hq
    obtain rfl := Option.some.inj hq
    exact zr_cUv hC hEk [.int v1] rest (81 + a) 1 (fun l D => tX5_tell_k0 hEk k0 ha2 hq2 l D) gX11_on_X5_tell_u175X2 rfl rfl rfl rfl ⟨Nat.le_trans (Nat.le_of_ble_eq_true rfl) hf, Nat.le_trans (Nat.le_of_ble_eq_true rfl) hl⟩ hxv_tell (by omega) (entC_p0 k0) rfl rfl rfl hcat hfit hd kk
  replace hq := zin hq k0
  by_cases k1 : pP.2.1 a = 1
  · replace hq := zip hq k1
    obtain ⟨q2, hq2, hq⟩ := zbd hq
    obtain rfl := Option.some.inj hq
    exact zr_cUv hC hEk [.int v1] rest (81 + a) 1 (fun l D => tX5_tell_k1 hEk k1 ha2 hq2 l D) gX11_on_X5_tell_u175X7 rfl rfl rfl rfl ⟨Nat.le_trans (Nat.le_of_ble_eq_true rfl) hf, Nat.le_trans (Nat.le_of_ble_eq_true rfl) hl⟩ hxv_tell (by omega) (entC_p1 k1) rfl rfl rfl hcat hfit hd kk
  replace hq := zin hq k1
  by_cases k2 : pP.2.1 a = 2
  · replace hq := zip hq k2
    obtain ⟨q2, hq2, hq⟩ := zbd hq
    obtain rfl := Option.some.inj hq
    exact zr_cUv hC hEk [.int v1] rest (81 + a) 1 (fun l D => tX5_tell_k2 hEk k2 ha2 hq2 l D) gX11_on_X5_tell_u175X1 rfl rfl rfl rfl ⟨Nat.le_trans (Nat.le_of_ble_eq_true rfl) hf, Nat.le_trans (Nat.le_of_ble_eq_true rfl) hl⟩ hxv_tell (by omega) (entC_p2 k2) rfl rfl rfl hcat hfit hd kk
  replace hq := zin hq k2
  by_cases k3 : pP.2.1 a = 3
  · replace hq := zip hq k3
    obtain ⟨q2, hq2, hq⟩ := zbd hq
    obtain rfl := Option.some.inj hq
    exact zr_cUv hC hEk [.int v1] rest (81 + a) 1 (fun l D => tX5_tell_k3 hEk k3 ha2 hq2 l D) gX11_on_X5_tell_u175X4 rfl rfl rfl rfl ⟨Nat.le_trans (Nat.le_of_ble_eq_true rfl) hf, Nat.le_trans (Nat.le_of_ble_eq_true rfl) hl⟩ hxv_tell (by omega) (entC_p3 k3) rfl rfl rfl hcat hfit hd kk
  replace hq := zin hq k3
  by_cases k4 : pP.2.1 a = 4
  · replace hq := zip hq k4
    obtain ⟨q2, hq2, hq⟩ := zbd hq
    obtain rfl := Option.some.inj hq
    exact zr_cOv hC hEk [.int v1] rest (81 + a) 1 (fun l D => tX9_tell_k4 hEk k4 ha2 hq2 l D) gX11_on_X9_tell_u175X9 h0X11_on_tell rfl rfl rfl ⟨Nat.le_trans (Nat.le_of_ble_eq_true rfl) hf, Nat.le_trans (Nat.le_of_ble_eq_true rfl) hl⟩ hxv_tell (by omega) (entC_p4 k4) rfl rfl rfl hcat hfit hd kk
  replace hq := zin hq k4
  obtain ⟨q2, hq2, hq⟩ := zbd hq
  obtain rfl := Option.some.inj hq
  exact zr_cOv hC hEk [.int v1] rest (81 + a) 1 (fun l D => tX9_tell_k5 hEk ⟨k0, k1, k2, k3, k4⟩ ha2 hq2 l D) gX11_on_X9_tell_u175X0 h0X11_on_tell rfl rfl rfl ⟨Nat.le_trans (Nat.le_of_ble_eq_true rfl) hf, Nat.le_trans (Nat.le_of_ble_eq_true rfl) hl⟩ hxv_tell (by omega) (entC_p5 ⟨k0, k1, k2, k3, k4⟩) rfl rfl rfl hcat hfit hd kk
theorem hyX11_on : yX11_on.cls = RX11 ∧ yX11_on.cls ≠ "java/lang/invoke/MethodHandle" ∧ yX11_on.cls ≠ "java/lang/invoke/VarHandle" ∧ (parseMethodDescriptor yX11_on.desc).map (fun d => d.parameters.length) = some 0 := by decide +kernel
theorem flX11_on_19 : Cond.fieldLink RX11 19 "BeforeTheEnd" "facts" "LBeforeTheEnd$Facts;" ∈ wsX11_on := by decide +kernel
theorem flX11_on_34 : Cond.fieldLink RX11 34 "BeforeTheEnd" "imageTaken" "Z" ∈ wsX11_on := by decide +kernel
theorem flX11_on_38 : Cond.fieldLink RX11 38 "BeforeTheEnd" "imageWords" "I" ∈ wsX11_on := by decide +kernel
theorem flX11_on_41 : Cond.fieldLink RX11 41 "BeforeTheEnd" "imagePlayers" "I" ∈ wsX11_on := by decide +kernel
theorem flX11_on_44 : Cond.fieldLink RX11 44 "BeforeTheEnd" "imageFacts" "I" ∈ wsX11_on := by decide +kernel
theorem flX11_on_50 : Cond.fieldLink RX11 50 "BeforeTheEnd" "imagePoints" "[I" ∈ wsX11_on := by decide +kernel
theorem flX11_on_53 : Cond.fieldLink RX11 53 "BeforeTheEnd" "imageSets" "[I" ∈ wsX11_on := by decide +kernel
theorem flX11_on_59 : Cond.fieldLink RX11 59 "BeforeTheEnd" "tree" "LBeforeTheEnd$Tree;" ∈ wsX11_on := by decide +kernel
theorem flX11_on_68 : Cond.fieldLink RX11 68 "BeforeTheEnd" "race" "LBeforeTheEnd$Race;" ∈ wsX11_on := by decide +kernel
theorem hinX11_on_X11 : ∀ w ∈ wsX110, w ∈ wsX11_on := fun _ h => List.mem_cons_of_mem _ (List.mem_append_left _ (List.mem_append_left _ (List.mem_append_left _ (List.mem_append_left _ (List.mem_append_left _ (List.mem_append_right _ h))))))
theorem hinX11_on_X10 : ∀ w ∈ wsX100, w ∈ wsX11_on := fun _ h => List.mem_cons_of_mem _ (List.mem_append_left _ (List.mem_append_left _ (List.mem_append_left _ (List.mem_append_left _ (List.mem_append_right _ h)))))
theorem hinX11_on_X6 : ∀ w ∈ wsX60, w ∈ wsX11_on := fun _ h => List.mem_cons_of_mem _ (List.mem_append_left _ (List.mem_append_left _ (List.mem_append_left _ (List.mem_append_right _ h))))
theorem hinX11_on_X3 : ∀ w ∈ wsX30, w ∈ wsX11_on := fun _ h => List.mem_cons_of_mem _ (List.mem_append_left _ (List.mem_append_left _ (List.mem_append_right _ h)))
theorem hinX11_on_X0 : ∀ w ∈ wsX00, w ∈ wsX11_on := fun _ h => List.mem_cons_of_mem _ (List.mem_append_left _ (List.mem_append_right _ h))
theorem hinX11_on_X9 : ∀ w ∈ wsX90, w ∈ wsX11_on := fun _ h => List.mem_cons_of_mem _ (List.mem_append_right _ h)
def xX11_on_L56 (pT : zM) (pF : zM) (pB : zM) (pP : zP) (w0 : zM) (w1 : Int32) : Option ((zM × Int32) ⊕ zM) :=
  if (4 : Int32) ≤ w1 then
  (some (.inr w0))
  else
  if (w1 < 0 ∨ 4 ≤ w1.toNatClampNeg) then none else
  (xX6_setPoint w0 w1 (pB.1 79 w1.toNatClampNeg)).bind fun q3 =>
  some (.inl (q3, (w1 + (1 : Int32))))
set_option maxHeartbeats 4000000 in
set_option maxRecDepth 100000 in
theorem tX11_on_L56 {κ : Nat → ClassId} {tg : Nat} {S : zEn} {ad : Nat → Nat} {X : zX} {pX : zM} {pT : zM} {pF : zM} {pB : zM} {pP : zP} {w0 : zM} {w1 : Int32} {r : ((zM × Int32) ⊕ zM)} (hC : zC X cX11_on RX11 wsX11_on vwCl (zty κ) (zE tg S) 3 ({ frames := 4, cells := 0, slots := 0, locals := 98 } : Room)) (hEk : zEk (zE tg S)) (hin : ∀ (x0' : zM) (x1' : Int32), r = .inl (x0', x1') → zV X 0 0 (zwC κ ad pT x0' pX pF pB pP) [(0, .ref (ad 76)), (1, .int x1')] [] 56) (hout0 : ∀ (x0' : zM), r = .inr x0' → zV X 0 0 (zwC κ ad pT x0' pX pF pB pP) [(0, .ref (ad 76))] [] 85) (h : xX11_on_L56 pT pF pB pP  w0 w1 = some r) : zV X 0 0 (zwC κ ad pT w0 pX pF pB pP) [(0, .ref (ad 76)), (1, .int w1)] [] 56 := by
  unfold xX11_on_L56 at h
  refine zr_iload_n (pc := 56) hC 1 rfl rfl dX11_on_56 ?_
  refine zr_aload_n (pc := 57) hC 0 rfl rfl dX11_on_57 ?_
  refine zcg_76_11 (pc := 58) hC hinX11_on_X11 flX11_on_50 dX11_on_58 ?_
  refine zca_79 (pc := 61) hC dX11_on_61 ?_
  refine zr_icmp_ge (pc := 62) (tgt := 85) hC dX11_on_62 (by decide) (fun c1 => ?_) (fun c1 => ?_)
  · replace h := zip h c1
    obtain rfl := Option.some.inj h
    exact zV.sub (lv' := [(0, .ref (ad 76))]) [0] rfl (hout0 w0 rfl)
  · replace h := zin h c1
    refine zr_aload_n (pc := 65) hC 0 rfl rfl dX11_on_65 ?_
    refine zcg_76_1 (pc := 66) hC hinX11_on_X11 flX11_on_68 dX11_on_66 ?_
    refine zr_iload_n (pc := 69) hC 1 rfl rfl dX11_on_69 ?_
    refine zr_aload_n (pc := 70) hC 0 rfl rfl dX11_on_70 ?_
    refine zcg_76_11 (pc := 71) hC hinX11_on_X11 flX11_on_50 dX11_on_71 ?_
    refine zr_iload_n (pc := 74) hC 1 rfl rfl dX11_on_74 ?_
    obtain ⟨i2, h⟩ := zgd h
    refine zcl_79 (pc := 75) hC i2 dX11_on_75 ?_
    obtain ⟨q3, hq3, h⟩ := zbd h
    refine zr_cVv (pc := 76) hC hEk [.int w1, .int (pB.1 79 w1.toNatClampNeg)] [] 62 2 (fun l D => tX6_setPoint hEk hq3 l D) gX11_on_X6_setPoint rfl rfl rfl ⟨Nat.le_of_ble_eq_true rfl, Nat.le_of_ble_eq_true rfl⟩ hyX6_setPoint (zNC (by decide)) entC_62 rfl rfl rfl (Nat.le_of_ble_eq_true rfl) ⟨Nat.le_of_ble_eq_true rfl, Nat.le_of_ble_eq_true rfl⟩ dX11_on_76 ?_
    refine zr_iinc (pc := 79) (k := 1) (lv' := [(1, .int (w1 + (1 : Int32))), (0, .ref (ad 76))]) hC zki_1 (by decide) rfl rfl dX11_on_79 ?_
    refine zr_goto (pc := 82) (tgt := 56) hC dX11_on_82 (by decide) ?_
    obtain rfl := Option.some.inj h
    exact zV.sub (lv' := [(0, .ref (ad 76)), (1, .int (w1 + (1 : Int32)))]) [1, 0] rfl (hin q3 (w1 + (1 : Int32)) rfl)
def xX11_on_L87 (pT : zM) (pR : zM) (pF : zM) (pB : zM) (w0 : zP) (w1 : Int32) : Option ((zP × Int32) ⊕ zP) :=
  if (4 : Int32) ≤ w1 then
  (some (.inr w0))
  else
  (xX6_playerAt pR w0 w1).bind fun q2 =>
  zon q2
  (some (.inl (w0, (w1 + (1 : Int32)))))
  (fun a3 => if w0.2.2.2 ≤ a3 then none else
  if (w1 < 0 ∨ 4 ≤ w1.toNatClampNeg) then none else
  (xv_tell w0 a3 (pB.1 80 w1.toNatClampNeg)).bind fun q7 =>
  some (.inl (q7, (w1 + (1 : Int32)))))
set_option maxHeartbeats 4000000 in
set_option maxRecDepth 100000 in
theorem tX11_on_L87 {κ : Nat → ClassId} {tg : Nat} {S : zEn} {ad : Nat → Nat} {X : zX} {pX : zM} {pT : zM} {pR : zM} {pF : zM} {pB : zM} {w0 : zP} {w1 : Int32} {r : ((zP × Int32) ⊕ zP)} (hC : zC X cX11_on RX11 wsX11_on vwCl (zty κ) (zE tg S) 3 ({ frames := 4, cells := 0, slots := 0, locals := 98 } : Room)) (hEk : zEk (zE tg S)) (hin : ∀ (x0' : zP) (x1' : Int32), r = .inl (x0', x1') → zV X 0 0 (zwC κ ad pT pR pX pF pB x0') [(0, .ref (ad 76)), (1, .int x1')] [] 87) (hout0 : ∀ (x0' : zP), r = .inr x0' → zV X 0 0 (zwC κ ad pT pR pX pF pB x0') [(0, .ref (ad 76))] [] 121) (h : xX11_on_L87 pT pR pF pB  w0 w1 = some r) : zV X 0 0 (zwC κ ad pT pR pX pF pB w0) [(0, .ref (ad 76)), (1, .int w1)] [] 87 := by
  unfold xX11_on_L87 at h
  refine zr_iload_n (pc := 87) hC 1 rfl rfl dX11_on_87 ?_
  refine zr_iconst (pc := 88) hC zki_4 dX11_on_88 ?_
  refine zr_icmp_ge (pc := 89) (tgt := 121) hC dX11_on_89 (by decide) (fun c1 => ?_) (fun c1 => ?_)
  · replace h := zip h c1
    obtain rfl := Option.some.inj h
    exact zV.sub (lv' := [(0, .ref (ad 76))]) [0] rfl (hout0 w0 rfl)
  · replace h := zin h c1
    refine zr_aload_n (pc := 92) hC 0 rfl rfl dX11_on_92 ?_
    refine zcg_76_1 (pc := 93) hC hinX11_on_X11 flX11_on_68 dX11_on_93 ?_
    refine zr_iload_n (pc := 96) hC 1 rfl rfl dX11_on_96 ?_
    obtain ⟨q2, hq2, h⟩ := zbd h
    refine zr_cVr (pc := 97) hC hEk [.int w1] [] 62 1 (fun l D => tX6_playerAt hEk hq2 l D) gX11_on_X6_playerAt rfl rfl rfl ⟨Nat.le_of_ble_eq_true rfl, Nat.le_of_ble_eq_true rfl⟩ hyX6_playerAt (zNC (by decide)) entC_62 rfl rfl rfl (Nat.le_of_ble_eq_true rfl) ⟨Nat.le_of_ble_eq_true rfl, Nat.le_of_ble_eq_true rfl⟩ dX11_on_97 ?_
    refine zr_astore_nO (pc := 100) (lv' := [(2, va_rf (q2.map (fun a => ad (81 + a)))), (0, .ref (ad 76)), (1, .int w1)]) hC rfl (by decide) (by cases q2 <;> rfl) dX11_on_100 ?_
    refine zr_aload_nO (pc := 101) hC 0 rfl rfl dX11_on_101 ?_
    refine zr_ifnullM (pc := 102) (tgt := 115) hC dX11_on_102 (by decide) (fun e4 => ?_) (fun a3 e4 => ?_)
    · replace h := zon_n e4 h
      have h9 := h
      subst e4
      replace h := h9
      clear h9
      show zV X 0 0 (zwC κ ad pT pR pX pF pB w0) [(2, va_rf ((none : Option Nat).map (fun a => ad (81 + a)))), (0, .ref (ad 76)), (1, .int w1)] [] 115
      refine zr_iinc (pc := 115) (k := 2) (lv' := [(1, .int (w1 + (1 : Int32))), (2, va_rf ((none : Option Nat).map (fun a => ad (81 + a)))), (0, .ref (ad 76))]) hC zki_1 (by decide) rfl rfl dX11_on_115 ?_
      refine zr_goto (pc := 118) (tgt := 87) hC dX11_on_118 (by decide) ?_
      obtain rfl := Option.some.inj h
      exact zV.sub (lv' := [(0, .ref (ad 76)), (1, .int (w1 + (1 : Int32)))]) [2, 0] rfl (hin w0 (w1 + (1 : Int32)) rfl)
    · replace h := zon_s e4 h
      have h9 := h
      subst e4
      replace h := h9
      clear h9
      obtain ⟨i5, h⟩ := zgd h
      show zV X 0 0 (zwC κ ad pT pR pX pF pB w0) [(2, .ref (ad (81 + a3))), (0, .ref (ad 76)), (1, .int w1)] [] 105
      refine zr_aload_n (pc := 105) hC 0 rfl rfl dX11_on_105 ?_
      refine zr_aload_n (pc := 106) hC 1 rfl rfl dX11_on_106 ?_
      refine zcg_76_12 (pc := 107) hC hinX11_on_X11 flX11_on_53 dX11_on_107 ?_
      refine zr_iload_n (pc := 110) hC 2 rfl rfl dX11_on_110 ?_
      obtain ⟨i6, h⟩ := zgd h
      refine zcl_80 (pc := 111) hC i6 dX11_on_111 ?_
      obtain ⟨q7, hq7, h⟩ := zbd h
      refine vrX11_on_175 (pc := 112) hC hEk i5 hq7 (rest := []) (Nat.le_of_ble_eq_true rfl) (Nat.le_of_ble_eq_true rfl) (Nat.le_of_ble_eq_true rfl) ⟨Nat.le_of_ble_eq_true rfl, Nat.le_of_ble_eq_true rfl⟩ dX11_on_112 ?_
      refine zr_iinc (pc := 115) (k := 2) (lv' := [(1, .int (w1 + (1 : Int32))), (2, .ref (ad (81 + a3))), (0, .ref (ad 76))]) hC zki_1 (by decide) rfl rfl dX11_on_115 ?_
      refine zr_goto (pc := 118) (tgt := 87) hC dX11_on_118 (by decide) ?_
      obtain rfl := Option.some.inj h
      exact zV.sub (lv' := [(0, .ref (ad 76)), (1, .int (w1 + (1 : Int32)))]) [2, 0] rfl (hin q7 (w1 + (1 : Int32)) rfl)
def xX11_on (pT : zM) (pR : zM) (pF : zM) (pB : zM) (pP : zP)  : Option (Int32 × zM × zM × zM × zM × zP) :=
  if (pB.1 76 7) = 0 then
  ((xX11_refuse pB (-3 : Int32)).bind fun q9 =>
  some (q9.1, pT, pR, pF, q9.2, pP))
  else
  (xX10_cutBack pT (pB.1 76 8)).bind fun q2 =>
  (xX10_settle q2).bind fun q3 =>
  (xX6_cutBack pR (pB.1 76 9)).bind fun q4 =>
  (xX3_cutBack pF (pB.1 76 10)).bind fun q5 =>
  (x_it (fun a9 => xX11_on_L56 q3 q5 pB pP a9.1 a9.2) zFU (q4, (0 : Int32))).bind fun q6 =>
  (x_it (fun a9 => xX11_on_L87 q3 q6 q5 pB a9.1 a9.2) zFU (pP, (0 : Int32))).bind fun q7 =>
  (xX10_size q3).bind fun q8 =>
  some (q8, q3, q6, q5, pB, q7)
set_option maxHeartbeats 4000000 in
set_option maxRecDepth 100000 in
theorem tX11_on {κ : Nat → ClassId} {tg : Nat} {S : zEn} {ad : Nat → Nat} (hEk : zEk (zE tg S)) {pT : zM} {pR : zM} {pX : zM} {pF : zM} {pB : zM} {pP : zP}  {res : (Int32 × zM × zM × zM × zM × zP)} (h : xX11_on pT pR pF pB pP  = some res) (l : Launch) (D : va_G) : zCT (zE tg S) D vwCl (zty κ) l yX11_on wsX11_on ({ frames := 4, cells := 0, slots := 0, locals := 98 } : Room) 0 0 [.ref (ad 76)] (zwC κ ad pT pR pX pF pB pP) (zPd (some (.int res.1)) (zwC κ ad res.2.1 res.2.2.1 pX res.2.2.2.1 res.2.2.2.2.1 res.2.2.2.2.2)) := by
  refine zCT.of (cc := cX11_on) (maxL := 3) (ret := (some .int)) (by decide) rfl (Nat.le_of_ble_eq_true rfl) ?_
  intro X hC hR
  unfold xX11_on at h
  refine zV.sub (lv' := [(0, .ref (ad 76))]) [0] rfl ?_
  refine zr_aload_n (pc := 0) hC 0 rfl rfl dX11_on_0 ?_
  refine zcg_76_7 (pc := 1) hC hinX11_on_X11 flX11_on_34 dX11_on_1 ?_
  refine zr_if_ne (pc := 4) (tgt := 14) hC dX11_on_4 (by decide) (fun c1 => ?_) (fun c1 => ?_)
  · replace h := zin h c1
    refine zr_aload_n (pc := 14) hC 0 rfl rfl dX11_on_14 ?_
    refine zcg_76_0 (pc := 15) hC hinX11_on_X11 flX11_on_59 dX11_on_15 ?_
    refine zr_aload_n (pc := 18) hC 0 rfl rfl dX11_on_18 ?_
    refine zcg_76_8 (pc := 19) hC hinX11_on_X11 flX11_on_38 dX11_on_19 ?_
    obtain ⟨q2, hq2, h⟩ := zbd h
    refine zr_cVv (pc := 22) hC hEk [.int (pB.1 76 8)] [] 0 1 (fun l D => tX10_cutBack hEk hq2 l D) gX11_on_X10_cutBack rfl rfl rfl ⟨Nat.le_of_ble_eq_true rfl, Nat.le_of_ble_eq_true rfl⟩ hyX10_cutBack (zNC (by decide)) entC_0 rfl rfl rfl (Nat.le_of_ble_eq_true rfl) ⟨Nat.le_of_ble_eq_true rfl, Nat.le_of_ble_eq_true rfl⟩ dX11_on_22 ?_
    refine zr_aload_n (pc := 25) hC 0 rfl rfl dX11_on_25 ?_
    refine zcg_76_0 (pc := 26) hC hinX11_on_X11 flX11_on_59 dX11_on_26 ?_
    obtain ⟨q3, hq3, h⟩ := zbd h
    refine zr_cVv (pc := 29) hC hEk [] [] 0 0 (fun l D => tX10_settle hEk hq3 l D) gX11_on_X10_settle rfl rfl rfl ⟨Nat.le_of_ble_eq_true rfl, Nat.le_of_ble_eq_true rfl⟩ hyX10_settle (zNC (by decide)) entC_0 rfl rfl rfl (Nat.le_of_ble_eq_true rfl) ⟨Nat.le_of_ble_eq_true rfl, Nat.le_of_ble_eq_true rfl⟩ dX11_on_29 ?_
    refine zr_aload_n (pc := 32) hC 0 rfl rfl dX11_on_32 ?_
    refine zcg_76_1 (pc := 33) hC hinX11_on_X11 flX11_on_68 dX11_on_33 ?_
    refine zr_aload_n (pc := 36) hC 0 rfl rfl dX11_on_36 ?_
    refine zcg_76_9 (pc := 37) hC hinX11_on_X11 flX11_on_41 dX11_on_37 ?_
    obtain ⟨q4, hq4, h⟩ := zbd h
    refine zr_cVv (pc := 40) hC hEk [.int (pB.1 76 9)] [] 62 1 (fun l D => tX6_cutBack hEk hq4 l D) gX11_on_X6_cutBack rfl rfl rfl ⟨Nat.le_of_ble_eq_true rfl, Nat.le_of_ble_eq_true rfl⟩ hyX6_cutBack (zNC (by decide)) entC_62 rfl rfl rfl (Nat.le_of_ble_eq_true rfl) ⟨Nat.le_of_ble_eq_true rfl, Nat.le_of_ble_eq_true rfl⟩ dX11_on_40 ?_
    refine zr_aload_n (pc := 43) hC 0 rfl rfl dX11_on_43 ?_
    refine zcg_76_3 (pc := 44) hC hinX11_on_X11 flX11_on_19 dX11_on_44 ?_
    refine zr_aload_n (pc := 47) hC 0 rfl rfl dX11_on_47 ?_
    refine zcg_76_10 (pc := 48) hC hinX11_on_X11 flX11_on_44 dX11_on_48 ?_
    obtain ⟨q5, hq5, h⟩ := zbd h
    refine zr_cVv (pc := 51) hC hEk [.int (pB.1 76 10)] [] 72 1 (fun l D => tX3_cutBack hEk hq5 l D) gX11_on_X3_cutBack rfl rfl rfl ⟨Nat.le_of_ble_eq_true rfl, Nat.le_of_ble_eq_true rfl⟩ hyX3_cutBack (zNC (by decide)) entC_72 rfl rfl rfl (Nat.le_of_ble_eq_true rfl) ⟨Nat.le_of_ble_eq_true rfl, Nat.le_of_ble_eq_true rfl⟩ dX11_on_51 ?_
    refine zr_iconst (pc := 54) hC zki_0 dX11_on_54 ?_
    refine zr_istore_n (pc := 55) (lv' := [(1, .int (0 : Int32)), (0, .ref (ad 76))]) hC rfl (by decide) rfl dX11_on_55 ?_
    obtain ⟨q6, hq6, h⟩ := zbd h
    refine zV.sub (lv' := [(0, .ref (ad 76)), (1, .int (0 : Int32))]) [1, 0] rfl ?_
    refine zit2 (Wp := fun (y0 : zM) (y1 : Int32) => zV X 0 0 (zwC κ ad q3 y0 pX q5 pB pP) [(0, .ref (ad 76)), (1, .int y1)] [] 56) (Ex := fun (b9 : zM) => zV X 0 0 (zwC κ ad q3 b9 pX q5 pB pP) [(0, .ref (ad 76))] [] 85) (fun y0 y1 r9 hr hin hout => tX11_on_L56 hC hEk hin (fun z0 e9 => hout z0 e9) hr) zFU q4 (0 : Int32) q6 hq6 ?_
    show zV X 0 0 (zwC κ ad q3 q6 pX q5 pB pP) [(0, .ref (ad 76))] [] 85
    refine zr_iconst (pc := 85) hC zki_0 dX11_on_85 ?_
    refine zr_istore_n (pc := 86) (lv' := [(1, .int (0 : Int32)), (0, .ref (ad 76))]) hC rfl (by decide) rfl dX11_on_86 ?_
    obtain ⟨q7, hq7, h⟩ := zbd h
    refine zV.sub (lv' := [(0, .ref (ad 76)), (1, .int (0 : Int32))]) [1, 0] rfl ?_
    refine zit2 (Wp := fun (y0 : zP) (y1 : Int32) => zV X 0 0 (zwC κ ad q3 q6 pX q5 pB y0) [(0, .ref (ad 76)), (1, .int y1)] [] 87) (Ex := fun (b9 : zP) => zV X 0 0 (zwC κ ad q3 q6 pX q5 pB b9) [(0, .ref (ad 76))] [] 121) (fun y0 y1 r9 hr hin hout => tX11_on_L87 hC hEk hin (fun z0 e9 => hout z0 e9) hr) zFU pP (0 : Int32) q7 hq7 ?_
    show zV X 0 0 (zwC κ ad q3 q6 pX q5 pB q7) [(0, .ref (ad 76))] [] 121
    refine zr_aload_n (pc := 121) hC 0 rfl rfl dX11_on_121 ?_
    refine zcg_76_0 (pc := 122) hC hinX11_on_X11 flX11_on_59 dX11_on_122 ?_
    obtain ⟨q8, hq8, h⟩ := zbd h
    refine zr_cVi (pc := 125) hC hEk [] [] 0 0 (fun l D => tX10_size hEk hq8 l D) gX11_on_X10_size rfl rfl rfl ⟨Nat.le_of_ble_eq_true rfl, Nat.le_of_ble_eq_true rfl⟩ hyX10_size (zNC (by decide)) entC_0 rfl rfl rfl (Nat.le_of_ble_eq_true rfl) ⟨Nat.le_of_ble_eq_true rfl, Nat.le_of_ble_eq_true rfl⟩ dX11_on_125 ?_
    obtain rfl := Option.some.inj h
    exact zr_iret hC hR ⟨rfl, rfl⟩ (Nat.le_refl _) (Nat.le_refl _) dX11_on_128
  · replace h := zip h c1
    refine zr_aload_n (pc := 7) hC 0 rfl rfl dX11_on_7 ?_
    refine zr_bipush (pc := 8) hC zkb_m3 dX11_on_8 ?_
    obtain ⟨q9, hq9, h⟩ := zbd h
    refine zr_cVi (pc := 10) hC hEk [.int (-3 : Int32)] [] 76 1 (fun l D => tX11_refuse hEk hq9 l D) gX11_on_X11_refuse rfl rfl rfl ⟨Nat.le_of_ble_eq_true rfl, Nat.le_of_ble_eq_true rfl⟩ hyX11_refuse (zNC (by decide)) entC_76 rfl rfl rfl (Nat.le_of_ble_eq_true rfl) ⟨Nat.le_of_ble_eq_true rfl, Nat.le_of_ble_eq_true rfl⟩ dX11_on_10 ?_
    obtain rfl := Option.some.inj h
    exact zr_iret hC hR ⟨rfl, rfl⟩ (Nat.le_refl _) (Nat.le_refl _) dX11_on_13
/-! X11_count -/
theorem hyX11_count : yX11_count.cls = RX11 ∧ yX11_count.cls ≠ "java/lang/invoke/MethodHandle" ∧ yX11_count.cls ≠ "java/lang/invoke/VarHandle" ∧ (parseMethodDescriptor yX11_count.desc).map (fun d => d.parameters.length) = some 1 := by decide +kernel
theorem flX11_count_10 : Cond.fieldLink RX11 10 "BeforeTheEnd" "tape" "LBeforeTheEnd$Text;" ∈ wsX11_count := by decide +kernel
theorem flX11_count_19 : Cond.fieldLink RX11 19 "BeforeTheEnd" "facts" "LBeforeTheEnd$Facts;" ∈ wsX11_count := by decide +kernel
theorem flX11_count_27 : Cond.fieldLink RX11 27 "BeforeTheEnd" "firstsCount" "I" ∈ wsX11_count := by decide +kernel
theorem flX11_count_31 : Cond.fieldLink RX11 31 "BeforeTheEnd" "refusals" "[I" ∈ wsX11_count := by decide +kernel
theorem flX11_count_59 : Cond.fieldLink RX11 59 "BeforeTheEnd" "tree" "LBeforeTheEnd$Tree;" ∈ wsX11_count := by decide +kernel
theorem flX11_count_68 : Cond.fieldLink RX11 68 "BeforeTheEnd" "race" "LBeforeTheEnd$Race;" ∈ wsX11_count := by decide +kernel
theorem hinX11_count_X11 : ∀ w ∈ wsX110, w ∈ wsX11_count := fun _ h => List.mem_cons_of_mem _ (List.mem_append_left _ (List.mem_append_left _ (List.mem_append_left _ (List.mem_append_left _ (List.mem_append_right _ h)))))
theorem hinX11_count_X10 : ∀ w ∈ wsX100, w ∈ wsX11_count := fun _ h => List.mem_cons_of_mem _ (List.mem_append_left _ (List.mem_append_left _ (List.mem_append_left _ (List.mem_append_right _ h))))
theorem hinX11_count_X6 : ∀ w ∈ wsX60, w ∈ wsX11_count := fun _ h => List.mem_cons_of_mem _ (List.mem_append_left _ (List.mem_append_left _ (List.mem_append_right _ h)))
theorem hinX11_count_X3 : ∀ w ∈ wsX30, w ∈ wsX11_count := fun _ h => List.mem_cons_of_mem _ (List.mem_append_left _ (List.mem_append_right _ h))
theorem hinX11_count_X8 : ∀ w ∈ wsX80, w ∈ wsX11_count := fun _ h => List.mem_cons_of_mem _ (List.mem_append_right _ h)
def xX11_count (pT : zM) (pR : zM) (pX : zM) (pF : zM) (pB : zM) (v1 : Int32) : Option Int32 :=
  if v1 < (11 : Int32) then
  (if v1 = (0 : Int32) then
  ((xX10_size pT).bind fun q3 =>
  some q3)
  else
  if v1 = (1 : Int32) then
  ((xX6_size pR).bind fun q5 =>
  some q5)
  else
  if v1 = (2 : Int32) then
  ((xX10_endsCount pT).bind fun q7 =>
  some q7)
  else
  if v1 = (3 : Int32) then
  ((xX3_size pF).bind fun q9 =>
  some q9)
  else
  if v1 = (4 : Int32) then
  (some (pB.1 76 5))
  else
  if v1 = (5 : Int32) then
  ((xX8_size pX).bind fun q12 =>
  some q12)
  else
  some (-9 : Int32))
  else
  if (16 : Int32) < v1 then
  (if v1 = (0 : Int32) then
  ((xX10_size pT).bind fun q15 =>
  some q15)
  else
  if v1 = (1 : Int32) then
  ((xX6_size pR).bind fun q17 =>
  some q17)
  else
  if v1 = (2 : Int32) then
  ((xX10_endsCount pT).bind fun q19 =>
  some q19)
  else
  if v1 = (3 : Int32) then
  ((xX3_size pF).bind fun q21 =>
  some q21)
  else
  if v1 = (4 : Int32) then
  (some (pB.1 76 5))
  else
  if v1 = (5 : Int32) then
  ((xX8_size pX).bind fun q24 =>
  some q24)
  else
  some (-9 : Int32))
  else
  if (7 : Int32) ≤ (v1 - (10 : Int32)) then
  (if v1 = (0 : Int32) then
  ((xX10_size pT).bind fun q27 =>
  some q27)
  else
  if v1 = (1 : Int32) then
  ((xX6_size pR).bind fun q29 =>
  some q29)
  else
  if v1 = (2 : Int32) then
  ((xX10_endsCount pT).bind fun q31 =>
  some q31)
  else
  if v1 = (3 : Int32) then
  ((xX3_size pF).bind fun q33 =>
  some q33)
  else
  if v1 = (4 : Int32) then
  (some (pB.1 76 5))
  else
  if v1 = (5 : Int32) then
  ((xX8_size pX).bind fun q36 =>
  some q36)
  else
  some (-9 : Int32))
  else
  if ((v1 - (10 : Int32)) < 0 ∨ 7 ≤ (v1 - (10 : Int32)).toNatClampNeg) then none else
  some (pB.1 78 (v1 - (10 : Int32)).toNatClampNeg)
set_option maxHeartbeats 4000000 in
set_option maxRecDepth 100000 in
theorem tX11_count {κ : Nat → ClassId} {tg : Nat} {S : zEn} {ad : Nat → Nat} (hEk : zEk (zE tg S)) {pT : zM} {pR : zM} {pX : zM} {pF : zM} {pB : zM} {pP : zP} {v1 : Int32} {res : Int32} (h : xX11_count pT pR pX pF pB v1 = some res) (l : Launch) (D : va_G) : zCT (zE tg S) D vwCl (zty κ) l yX11_count wsX11_count ({ frames := 1, cells := 0, slots := 0, locals := 20 } : Room) 0 0 [.ref (ad 76), .int v1] (zwC κ ad pT pR pX pF pB pP) (zPd (some (.int res)) (zwC κ ad pT pR pX pF pB pP)) := by
  refine zCT.of (cc := cX11_count) (maxL := 2) (ret := (some .int)) (by decide) rfl (Nat.le_of_ble_eq_true rfl) ?_
  intro X hC hR
  unfold xX11_count at h
  refine zV.sub (lv' := [(0, .ref (ad 76)), (1, .int v1)]) [0, 1] rfl ?_
  refine zr_iload_n (pc := 0) hC 1 rfl rfl dX11_count_0 ?_
  refine zr_bipush (pc := 1) hC zkb_11 dX11_count_1 ?_
  refine zr_icmp_lt (pc := 3) (tgt := 34) hC dX11_count_3 (by decide) (fun c1 => ?_) (fun c1 => ?_)
  · replace h := zip h c1
    refine zr_iload_n (pc := 34) hC 1 rfl rfl dX11_count_34 ?_
    by_cases c2 : v1 = (0 : Int32)
    · replace h := zip h c2
      refine zr_tabIn (pc := 35) (off := 37) (tgt := 72) hC dX11_count_35 (by rw [c2]; decide) (by rw [c2]; decide) (by rw [c2]; decide) (by decide) ?_
      refine zr_aload_n (pc := 72) hC 0 rfl rfl dX11_count_72 ?_
      refine zcg_76_0 (pc := 73) hC hinX11_count_X11 flX11_count_59 dX11_count_73 ?_
      obtain ⟨q3, hq3, h⟩ := zbd h
      refine zr_cVi (pc := 76) hC hEk [] [] 0 0 (fun l D => tX10_size hEk hq3 l D) gX11_count_X10_size rfl rfl rfl ⟨Nat.le_of_ble_eq_true rfl, Nat.le_of_ble_eq_true rfl⟩ hyX10_size (zNC (by decide)) entC_0 rfl rfl rfl (Nat.le_of_ble_eq_true rfl) ⟨Nat.le_of_ble_eq_true rfl, Nat.le_of_ble_eq_true rfl⟩ dX11_count_76 ?_
      obtain rfl := Option.some.inj h
      exact zr_iret hC hR ⟨rfl, rfl⟩ (Nat.le_refl _) (Nat.le_refl _) dX11_count_79
    · replace h := zin h c2
      by_cases c4 : v1 = (1 : Int32)
      · replace h := zip h c4
        refine zr_tabIn (pc := 35) (off := 45) (tgt := 80) hC dX11_count_35 (by rw [c4]; decide) (by rw [c4]; decide) (by rw [c4]; decide) (by decide) ?_
        refine zr_aload_n (pc := 80) hC 0 rfl rfl dX11_count_80 ?_
        refine zcg_76_1 (pc := 81) hC hinX11_count_X11 flX11_count_68 dX11_count_81 ?_
        obtain ⟨q5, hq5, h⟩ := zbd h
        refine zr_cVi (pc := 84) hC hEk [] [] 62 0 (fun l D => tX6_size hEk hq5 l D) gX11_count_X6_size rfl rfl rfl ⟨Nat.le_of_ble_eq_true rfl, Nat.le_of_ble_eq_true rfl⟩ hyX6_size (zNC (by decide)) entC_62 rfl rfl rfl (Nat.le_of_ble_eq_true rfl) ⟨Nat.le_of_ble_eq_true rfl, Nat.le_of_ble_eq_true rfl⟩ dX11_count_84 ?_
        obtain rfl := Option.some.inj h
        exact zr_iret hC hR ⟨rfl, rfl⟩ (Nat.le_refl _) (Nat.le_refl _) dX11_count_87
      · replace h := zin h c4
        by_cases c6 : v1 = (2 : Int32)
        · replace h := zip h c6
          refine zr_tabIn (pc := 35) (off := 53) (tgt := 88) hC dX11_count_35 (by rw [c6]; decide) (by rw [c6]; decide) (by rw [c6]; decide) (by decide) ?_
          refine zr_aload_n (pc := 88) hC 0 rfl rfl dX11_count_88 ?_
          refine zcg_76_0 (pc := 89) hC hinX11_count_X11 flX11_count_59 dX11_count_89 ?_
          obtain ⟨q7, hq7, h⟩ := zbd h
          refine zr_cVi (pc := 92) hC hEk [] [] 0 0 (fun l D => tX10_endsCount hEk hq7 l D) gX11_count_X10_endsCount rfl rfl rfl ⟨Nat.le_of_ble_eq_true rfl, Nat.le_of_ble_eq_true rfl⟩ hyX10_endsCount (zNC (by decide)) entC_0 rfl rfl rfl (Nat.le_of_ble_eq_true rfl) ⟨Nat.le_of_ble_eq_true rfl, Nat.le_of_ble_eq_true rfl⟩ dX11_count_92 ?_
          obtain rfl := Option.some.inj h
          exact zr_iret hC hR ⟨rfl, rfl⟩ (Nat.le_refl _) (Nat.le_refl _) dX11_count_95
        · replace h := zin h c6
          by_cases c8 : v1 = (3 : Int32)
          · replace h := zip h c8
            refine zr_tabIn (pc := 35) (off := 61) (tgt := 96) hC dX11_count_35 (by rw [c8]; decide) (by rw [c8]; decide) (by rw [c8]; decide) (by decide) ?_
            refine zr_aload_n (pc := 96) hC 0 rfl rfl dX11_count_96 ?_
            refine zcg_76_3 (pc := 97) hC hinX11_count_X11 flX11_count_19 dX11_count_97 ?_
            obtain ⟨q9, hq9, h⟩ := zbd h
            refine zr_cVi (pc := 100) hC hEk [] [] 72 0 (fun l D => tX3_size hEk hq9 l D) gX11_count_X3_size rfl rfl rfl ⟨Nat.le_of_ble_eq_true rfl, Nat.le_of_ble_eq_true rfl⟩ hyX3_size (zNC (by decide)) entC_72 rfl rfl rfl (Nat.le_of_ble_eq_true rfl) ⟨Nat.le_of_ble_eq_true rfl, Nat.le_of_ble_eq_true rfl⟩ dX11_count_100 ?_
            obtain rfl := Option.some.inj h
            exact zr_iret hC hR ⟨rfl, rfl⟩ (Nat.le_refl _) (Nat.le_refl _) dX11_count_103
          · replace h := zin h c8
            by_cases c10 : v1 = (4 : Int32)
            · replace h := zip h c10
              refine zr_tabIn (pc := 35) (off := 69) (tgt := 104) hC dX11_count_35 (by rw [c10]; decide) (by rw [c10]; decide) (by rw [c10]; decide) (by decide) ?_
              refine zr_aload_n (pc := 104) hC 0 rfl rfl dX11_count_104 ?_
              refine zcg_76_5 (pc := 105) hC hinX11_count_X11 flX11_count_27 dX11_count_105 ?_
              obtain rfl := Option.some.inj h
              exact zr_iret hC hR ⟨rfl, rfl⟩ (Nat.le_refl _) (Nat.le_refl _) dX11_count_108
            · replace h := zin h c10
              by_cases c11 : v1 = (5 : Int32)
              · replace h := zip h c11
                refine zr_tabIn (pc := 35) (off := 74) (tgt := 109) hC dX11_count_35 (by rw [c11]; decide) (by rw [c11]; decide) (by rw [c11]; decide) (by decide) ?_
                refine zr_aload_n (pc := 109) hC 0 rfl rfl dX11_count_109 ?_
                refine zcg_76_2 (pc := 110) hC hinX11_count_X11 flX11_count_10 dX11_count_110 ?_
                obtain ⟨q12, hq12, h⟩ := zbd h
                refine zr_cVi (pc := 113) hC hEk [] [] 70 0 (fun l D => tX8_size hEk hq12 l D) gX11_count_X8_size rfl rfl rfl ⟨Nat.le_of_ble_eq_true rfl, Nat.le_of_ble_eq_true rfl⟩ hyX8_size (zNC (by decide)) entC_70 rfl rfl rfl (Nat.le_of_ble_eq_true rfl) ⟨Nat.le_of_ble_eq_true rfl, Nat.le_of_ble_eq_true rfl⟩ dX11_count_113 ?_
                obtain rfl := Option.some.inj h
                exact zr_iret hC hR ⟨rfl, rfl⟩ (Nat.le_refl _) (Nat.le_refl _) dX11_count_116
              · replace h := zin h c11
                refine zr_tabOut (pc := 35) (tgt := 117) hC dX11_count_35 (zsw_out_0_6 c2 c4 c6 c8 c10 c11) (by decide) ?_
                refine zr_bipush (pc := 117) hC zkb_m9 dX11_count_117 ?_
                obtain rfl := Option.some.inj h
                exact zr_iret hC hR ⟨rfl, rfl⟩ (Nat.le_refl _) (Nat.le_refl _) dX11_count_119
  · replace h := zin h c1
    refine zr_iload_n (pc := 6) hC 1 rfl rfl dX11_count_6 ?_
    refine zr_bipush (pc := 7) hC zkb_16 dX11_count_7 ?_
    refine zr_icmp_gt (pc := 9) (tgt := 34) hC dX11_count_9 (by decide) (fun c13 => ?_) (fun c13 => ?_)
    · replace h := zip h c13
      refine zr_iload_n (pc := 34) hC 1 rfl rfl dX11_count_34 ?_
      by_cases c14 : v1 = (0 : Int32)
      · replace h := zip h c14
        refine zr_tabIn (pc := 35) (off := 37) (tgt := 72) hC dX11_count_35 (by rw [c14]; decide) (by rw [c14]; decide) (by rw [c14]; decide) (by decide) ?_
        refine zr_aload_n (pc := 72) hC 0 rfl rfl dX11_count_72 ?_
        refine zcg_76_0 (pc := 73) hC hinX11_count_X11 flX11_count_59 dX11_count_73 ?_
        obtain ⟨q15, hq15, h⟩ := zbd h
        refine zr_cVi (pc := 76) hC hEk [] [] 0 0 (fun l D => tX10_size hEk hq15 l D) gX11_count_X10_size rfl rfl rfl ⟨Nat.le_of_ble_eq_true rfl, Nat.le_of_ble_eq_true rfl⟩ hyX10_size (zNC (by decide)) entC_0 rfl rfl rfl (Nat.le_of_ble_eq_true rfl) ⟨Nat.le_of_ble_eq_true rfl, Nat.le_of_ble_eq_true rfl⟩ dX11_count_76 ?_
        obtain rfl := Option.some.inj h
        exact zr_iret hC hR ⟨rfl, rfl⟩ (Nat.le_refl _) (Nat.le_refl _) dX11_count_79
      · replace h := zin h c14
        by_cases c16 : v1 = (1 : Int32)
        · replace h := zip h c16
          refine zr_tabIn (pc := 35) (off := 45) (tgt := 80) hC dX11_count_35 (by rw [c16]; decide) (by rw [c16]; decide) (by rw [c16]; decide) (by decide) ?_
          refine zr_aload_n (pc := 80) hC 0 rfl rfl dX11_count_80 ?_
          refine zcg_76_1 (pc := 81) hC hinX11_count_X11 flX11_count_68 dX11_count_81 ?_
          obtain ⟨q17, hq17, h⟩ := zbd h
          refine zr_cVi (pc := 84) hC hEk [] [] 62 0 (fun l D => tX6_size hEk hq17 l D) gX11_count_X6_size rfl rfl rfl ⟨Nat.le_of_ble_eq_true rfl, Nat.le_of_ble_eq_true rfl⟩ hyX6_size (zNC (by decide)) entC_62 rfl rfl rfl (Nat.le_of_ble_eq_true rfl) ⟨Nat.le_of_ble_eq_true rfl, Nat.le_of_ble_eq_true rfl⟩ dX11_count_84 ?_
          obtain rfl := Option.some.inj h
          exact zr_iret hC hR ⟨rfl, rfl⟩ (Nat.le_refl _) (Nat.le_refl _) dX11_count_87
        · replace h := zin h c16
          by_cases c18 : v1 = (2 : Int32)
          · replace h := zip h c18
            refine zr_tabIn (pc := 35) (off := 53) (tgt := 88) hC dX11_count_35 (by rw [c18]; decide) (by rw [c18]; decide) (by rw [c18]; decide) (by decide) ?_
            refine zr_aload_n (pc := 88) hC 0 rfl rfl dX11_count_88 ?_
            refine zcg_76_0 (pc := 89) hC hinX11_count_X11 flX11_count_59 dX11_count_89 ?_
            obtain ⟨q19, hq19, h⟩ := zbd h
            refine zr_cVi (pc := 92) hC hEk [] [] 0 0 (fun l D => tX10_endsCount hEk hq19 l D) gX11_count_X10_endsCount rfl rfl rfl ⟨Nat.le_of_ble_eq_true rfl, Nat.le_of_ble_eq_true rfl⟩ hyX10_endsCount (zNC (by decide)) entC_0 rfl rfl rfl (Nat.le_of_ble_eq_true rfl) ⟨Nat.le_of_ble_eq_true rfl, Nat.le_of_ble_eq_true rfl⟩ dX11_count_92 ?_
            obtain rfl := Option.some.inj h
            exact zr_iret hC hR ⟨rfl, rfl⟩ (Nat.le_refl _) (Nat.le_refl _) dX11_count_95
          · replace h := zin h c18
            by_cases c20 : v1 = (3 : Int32)
            · replace h := zip h c20
              refine zr_tabIn (pc := 35) (off := 61) (tgt := 96) hC dX11_count_35 (by rw [c20]; decide) (by rw [c20]; decide) (by rw [c20]; decide) (by decide) ?_
              refine zr_aload_n (pc := 96) hC 0 rfl rfl dX11_count_96 ?_
              refine zcg_76_3 (pc := 97) hC hinX11_count_X11 flX11_count_19 dX11_count_97 ?_
              obtain ⟨q21, hq21, h⟩ := zbd h
              refine zr_cVi (pc := 100) hC hEk [] [] 72 0 (fun l D => tX3_size hEk hq21 l D) gX11_count_X3_size rfl rfl rfl ⟨Nat.le_of_ble_eq_true rfl, Nat.le_of_ble_eq_true rfl⟩ hyX3_size (zNC (by decide)) entC_72 rfl rfl rfl (Nat.le_of_ble_eq_true rfl) ⟨Nat.le_of_ble_eq_true rfl, Nat.le_of_ble_eq_true rfl⟩ dX11_count_100 ?_
              obtain rfl := Option.some.inj h
              exact zr_iret hC hR ⟨rfl, rfl⟩ (Nat.le_refl _) (Nat.le_refl _) dX11_count_103
            · replace h := zin h c20
              by_cases c22 : v1 = (4 : Int32)
              · replace h := zip h c22
                refine zr_tabIn (pc := 35) (off := 69) (tgt := 104) hC dX11_count_35 (by rw [c22]; decide) (by rw [c22]; decide) (by rw [c22]; decide) (by decide) ?_
                refine zr_aload_n (pc := 104) hC 0 rfl rfl dX11_count_104 ?_
                refine zcg_76_5 (pc := 105) hC hinX11_count_X11 flX11_count_27 dX11_count_105 ?_
                obtain rfl := Option.some.inj h
                exact zr_iret hC hR ⟨rfl, rfl⟩ (Nat.le_refl _) (Nat.le_refl _) dX11_count_108
              · replace h := zin h c22
                by_cases c23 : v1 = (5 : Int32)
                · replace h := zip h c23
                  refine zr_tabIn (pc := 35) (off := 74) (tgt := 109) hC dX11_count_35 (by rw [c23]; decide) (by rw [c23]; decide) (by rw [c23]; decide) (by decide) ?_
                  refine zr_aload_n (pc := 109) hC 0 rfl rfl dX11_count_109 ?_
                  refine zcg_76_2 (pc := 110) hC hinX11_count_X11 flX11_count_10 dX11_count_110 ?_
                  obtain ⟨q24, hq24, h⟩ := zbd h
                  refine zr_cVi (pc := 113) hC hEk [] [] 70 0 (fun l D => tX8_size hEk hq24 l D) gX11_count_X8_size rfl rfl rfl ⟨Nat.le_of_ble_eq_true rfl, Nat.le_of_ble_eq_true rfl⟩ hyX8_size (zNC (by decide)) entC_70 rfl rfl rfl (Nat.le_of_ble_eq_true rfl) ⟨Nat.le_of_ble_eq_true rfl, Nat.le_of_ble_eq_true rfl⟩ dX11_count_113 ?_
                  obtain rfl := Option.some.inj h
                  exact zr_iret hC hR ⟨rfl, rfl⟩ (Nat.le_refl _) (Nat.le_refl _) dX11_count_116
                · replace h := zin h c23
                  refine zr_tabOut (pc := 35) (tgt := 117) hC dX11_count_35 (zsw_out_0_6 c14 c16 c18 c20 c22 c23) (by decide) ?_
                  refine zr_bipush (pc := 117) hC zkb_m9 dX11_count_117 ?_
                  obtain rfl := Option.some.inj h
                  exact zr_iret hC hR ⟨rfl, rfl⟩ (Nat.le_refl _) (Nat.le_refl _) dX11_count_119
    · replace h := zin h c13
      refine zr_iload_n (pc := 12) hC 1 rfl rfl dX11_count_12 ?_
      refine zr_bipush (pc := 13) hC zkb_10 dX11_count_13 ?_
      refine zr_isub (pc := 15) hC dX11_count_15 ?_
      refine zr_aload_n (pc := 16) hC 0 rfl rfl dX11_count_16 ?_
      refine zcg_76_6 (pc := 17) hC hinX11_count_X11 flX11_count_31 dX11_count_17 ?_
      refine zca_78 (pc := 20) hC dX11_count_20 ?_
      refine zr_icmp_ge (pc := 21) (tgt := 34) hC dX11_count_21 (by decide) (fun c25 => ?_) (fun c25 => ?_)
      · replace h := zip h c25
        refine zr_iload_n (pc := 34) hC 1 rfl rfl dX11_count_34 ?_
        by_cases c26 : v1 = (0 : Int32)
        · replace h := zip h c26
          refine zr_tabIn (pc := 35) (off := 37) (tgt := 72) hC dX11_count_35 (by rw [c26]; decide) (by rw [c26]; decide) (by rw [c26]; decide) (by decide) ?_
          refine zr_aload_n (pc := 72) hC 0 rfl rfl dX11_count_72 ?_
          refine zcg_76_0 (pc := 73) hC hinX11_count_X11 flX11_count_59 dX11_count_73 ?_
          obtain ⟨q27, hq27, h⟩ := zbd h
          refine zr_cVi (pc := 76) hC hEk [] [] 0 0 (fun l D => tX10_size hEk hq27 l D) gX11_count_X10_size rfl rfl rfl ⟨Nat.le_of_ble_eq_true rfl, Nat.le_of_ble_eq_true rfl⟩ hyX10_size (zNC (by decide)) entC_0 rfl rfl rfl (Nat.le_of_ble_eq_true rfl) ⟨Nat.le_of_ble_eq_true rfl, Nat.le_of_ble_eq_true rfl⟩ dX11_count_76 ?_
          obtain rfl := Option.some.inj h
          exact zr_iret hC hR ⟨rfl, rfl⟩ (Nat.le_refl _) (Nat.le_refl _) dX11_count_79
        · replace h := zin h c26
          by_cases c28 : v1 = (1 : Int32)
          · replace h := zip h c28
            refine zr_tabIn (pc := 35) (off := 45) (tgt := 80) hC dX11_count_35 (by rw [c28]; decide) (by rw [c28]; decide) (by rw [c28]; decide) (by decide) ?_
            refine zr_aload_n (pc := 80) hC 0 rfl rfl dX11_count_80 ?_
            refine zcg_76_1 (pc := 81) hC hinX11_count_X11 flX11_count_68 dX11_count_81 ?_
            obtain ⟨q29, hq29, h⟩ := zbd h
            refine zr_cVi (pc := 84) hC hEk [] [] 62 0 (fun l D => tX6_size hEk hq29 l D) gX11_count_X6_size rfl rfl rfl ⟨Nat.le_of_ble_eq_true rfl, Nat.le_of_ble_eq_true rfl⟩ hyX6_size (zNC (by decide)) entC_62 rfl rfl rfl (Nat.le_of_ble_eq_true rfl) ⟨Nat.le_of_ble_eq_true rfl, Nat.le_of_ble_eq_true rfl⟩ dX11_count_84 ?_
            obtain rfl := Option.some.inj h
            exact zr_iret hC hR ⟨rfl, rfl⟩ (Nat.le_refl _) (Nat.le_refl _) dX11_count_87
          · replace h := zin h c28
            by_cases c30 : v1 = (2 : Int32)
            · replace h := zip h c30
              refine zr_tabIn (pc := 35) (off := 53) (tgt := 88) hC dX11_count_35 (by rw [c30]; decide) (by rw [c30]; decide) (by rw [c30]; decide) (by decide) ?_
              refine zr_aload_n (pc := 88) hC 0 rfl rfl dX11_count_88 ?_
              refine zcg_76_0 (pc := 89) hC hinX11_count_X11 flX11_count_59 dX11_count_89 ?_
              obtain ⟨q31, hq31, h⟩ := zbd h
              refine zr_cVi (pc := 92) hC hEk [] [] 0 0 (fun l D => tX10_endsCount hEk hq31 l D) gX11_count_X10_endsCount rfl rfl rfl ⟨Nat.le_of_ble_eq_true rfl, Nat.le_of_ble_eq_true rfl⟩ hyX10_endsCount (zNC (by decide)) entC_0 rfl rfl rfl (Nat.le_of_ble_eq_true rfl) ⟨Nat.le_of_ble_eq_true rfl, Nat.le_of_ble_eq_true rfl⟩ dX11_count_92 ?_
              obtain rfl := Option.some.inj h
              exact zr_iret hC hR ⟨rfl, rfl⟩ (Nat.le_refl _) (Nat.le_refl _) dX11_count_95
            · replace h := zin h c30
              by_cases c32 : v1 = (3 : Int32)
              · replace h := zip h c32
                refine zr_tabIn (pc := 35) (off := 61) (tgt := 96) hC dX11_count_35 (by rw [c32]; decide) (by rw [c32]; decide) (by rw [c32]; decide) (by decide) ?_
                refine zr_aload_n (pc := 96) hC 0 rfl rfl dX11_count_96 ?_
                refine zcg_76_3 (pc := 97) hC hinX11_count_X11 flX11_count_19 dX11_count_97 ?_
                obtain ⟨q33, hq33, h⟩ := zbd h
                refine zr_cVi (pc := 100) hC hEk [] [] 72 0 (fun l D => tX3_size hEk hq33 l D) gX11_count_X3_size rfl rfl rfl ⟨Nat.le_of_ble_eq_true rfl, Nat.le_of_ble_eq_true rfl⟩ hyX3_size (zNC (by decide)) entC_72 rfl rfl rfl (Nat.le_of_ble_eq_true rfl) ⟨Nat.le_of_ble_eq_true rfl, Nat.le_of_ble_eq_true rfl⟩ dX11_count_100 ?_
                obtain rfl := Option.some.inj h
                exact zr_iret hC hR ⟨rfl, rfl⟩ (Nat.le_refl _) (Nat.le_refl _) dX11_count_103
              · replace h := zin h c32
                by_cases c34 : v1 = (4 : Int32)
                · replace h := zip h c34
                  refine zr_tabIn (pc := 35) (off := 69) (tgt := 104) hC dX11_count_35 (by rw [c34]; decide) (by rw [c34]; decide) (by rw [c34]; decide) (by decide) ?_
                  refine zr_aload_n (pc := 104) hC 0 rfl rfl dX11_count_104 ?_
                  refine zcg_76_5 (pc := 105) hC hinX11_count_X11 flX11_count_27 dX11_count_105 ?_
                  obtain rfl := Option.some.inj h
                  exact zr_iret hC hR ⟨rfl, rfl⟩ (Nat.le_refl _) (Nat.le_refl _) dX11_count_108
                · replace h := zin h c34
                  by_cases c35 : v1 = (5 : Int32)
                  · replace h := zip h c35
                    refine zr_tabIn (pc := 35) (off := 74) (tgt := 109) hC dX11_count_35 (by rw [c35]; decide) (by rw [c35]; decide) (by rw [c35]; decide) (by decide) ?_
                    refine zr_aload_n (pc := 109) hC 0 rfl rfl dX11_count_109 ?_
                    refine zcg_76_2 (pc := 110) hC hinX11_count_X11 flX11_count_10 dX11_count_110 ?_
                    obtain ⟨q36, hq36, h⟩ := zbd h
                    refine zr_cVi (pc := 113) hC hEk [] [] 70 0 (fun l D => tX8_size hEk hq36 l D) gX11_count_X8_size rfl rfl rfl ⟨Nat.le_of_ble_eq_true rfl, Nat.le_of_ble_eq_true rfl⟩ hyX8_size (zNC (by decide)) entC_70 rfl rfl rfl (Nat.le_of_ble_eq_true rfl) ⟨Nat.le_of_ble_eq_true rfl, Nat.le_of_ble_eq_true rfl⟩ dX11_count_113 ?_
                    obtain rfl := Option.some.inj h
                    exact zr_iret hC hR ⟨rfl, rfl⟩ (Nat.le_refl _) (Nat.le_refl _) dX11_count_116
                  · replace h := zin h c35
                    refine zr_tabOut (pc := 35) (tgt := 117) hC dX11_count_35 (zsw_out_0_6 c26 c28 c30 c32 c34 c35) (by decide) ?_
                    refine zr_bipush (pc := 117) hC zkb_m9 dX11_count_117 ?_
                    obtain rfl := Option.some.inj h
                    exact zr_iret hC hR ⟨rfl, rfl⟩ (Nat.le_refl _) (Nat.le_refl _) dX11_count_119
      · replace h := zin h c25
        refine zr_aload_n (pc := 24) hC 0 rfl rfl dX11_count_24 ?_
        refine zcg_76_6 (pc := 25) hC hinX11_count_X11 flX11_count_31 dX11_count_25 ?_
        refine zr_iload_n (pc := 28) hC 1 rfl rfl dX11_count_28 ?_
        refine zr_bipush (pc := 29) hC zkb_10 dX11_count_29 ?_
        refine zr_isub (pc := 31) hC dX11_count_31 ?_
        obtain ⟨i37, h⟩ := zgd h
        refine zcl_78 (pc := 32) hC i37 dX11_count_32 ?_
        obtain rfl := Option.some.inj h
        exact zr_iret hC hR ⟨rfl, rfl⟩ (Nat.le_refl _) (Nat.le_refl _) dX11_count_33
