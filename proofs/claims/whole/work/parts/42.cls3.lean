/-! X1_hundredths_k2 -/
theorem hyX1_hundredths : yX1_hundredths.cls = RX1 ∧ yX1_hundredths.cls ≠ "java/lang/invoke/MethodHandle" ∧ yX1_hundredths.cls ≠ "java/lang/invoke/VarHandle" ∧ (parseMethodDescriptor yX1_hundredths.desc).map (fun d => d.parameters.length) = some 1 := by decide +kernel
theorem flX1_hundredths_k2_9 : Cond.fieldLink RX1 9 "BeforeTheEnd$Bold" "sure" "I" ∈ wsX1_hundredths := by decide +kernel
theorem sfX1_hundredths_k2_9 : Cond.sameField "BeforeTheEnd$Bold" "BeforeTheEnd$Player" "sure" "I" ∈ wsX1_hundredths := by decide +kernel
theorem lwX1_hundredths_k2_15 : Cond.methodLink RX1 15 Lib.Math.max.name ∈ wsX1_hundredths ∧ Cond.static Lib.Math.max.name ∈ wsX1_hundredths ∧ Cond.initialized "java/lang/Math" ∈ wsX1_hundredths ∧ Cond.code Lib.Math.max.name Lib.Math.max.code 2 (some .int) ∈ wsX1_hundredths := by decide +kernel
theorem hinX1_hundredths_k2_X0 : ∀ w ∈ wsX00, w ∈ wsX1_hundredths := fun _ h => List.mem_cons_of_mem _ (List.mem_append_left _ (List.mem_append_left _ (List.mem_append_left _ (List.mem_append_left _ (List.mem_append_left _ (List.mem_append_right _ h))))))
theorem hinX1_hundredths_k2_X1 : ∀ w ∈ wsX10, w ∈ wsX1_hundredths := fun _ h => List.mem_cons_of_mem _ (List.mem_append_left _ (List.mem_append_left _ (List.mem_append_left _ (List.mem_append_left _ (List.mem_append_right _ h)))))
theorem hinX1_hundredths_k2_X2 : ∀ w ∈ wsX20, w ∈ wsX1_hundredths := fun _ h => List.mem_cons_of_mem _ (List.mem_append_left _ (List.mem_append_left _ (List.mem_append_left _ (List.mem_append_right _ h))))
theorem hinX1_hundredths_k2_X4 : ∀ w ∈ wsX40, w ∈ wsX1_hundredths := fun _ h => List.mem_cons_of_mem _ (List.mem_append_left _ (List.mem_append_left _ (List.mem_append_right _ h)))
theorem hinX1_hundredths_k2_X7 : ∀ w ∈ wsX70, w ∈ wsX1_hundredths := fun _ h => List.mem_cons_of_mem _ (List.mem_append_left _ (List.mem_append_right _ h))
theorem hinX1_hundredths_k2_X9 : ∀ w ∈ wsX90, w ∈ wsX1_hundredths := fun _ h => List.mem_cons_of_mem _ (List.mem_append_right _ h)
def xX1_hundredths_k2 (pP : zP) (v0 : Nat) (v1 : Int32) : Option Int32 :=
  some (if (0 : Int32) < ((pP.2.2.1 v0 1) - (20 : Int32)) then ((pP.2.2.1 v0 1) - (20 : Int32)) else (0 : Int32))
set_option maxHeartbeats 4000000 in
set_option maxRecDepth 100000 in
theorem tX1_hundredths_k2 {κ : Nat → ClassId} {tg : Nat} {S : zEn} {ad : Nat → Nat} (hEk : zEk (zE tg S)) {pT : zM} {pR : zM} {pX : zM} {pF : zM} {pB : zM} {pP : zP} {v0 : Nat} {v1 : Int32} (hk : pP.2.1 v0 = 2) (hv0 : v0 < pP.2.2.2) {res : Int32} (h : xX1_hundredths_k2 pP v0 v1 = some res) (l : Launch) (D : va_G) : zCT (zE tg S) D vwCl (zty κ) l yX1_hundredths wsX1_hundredths ({ frames := 1, cells := 0, slots := 0, locals := 21 } : Room) 0 0 [.ref (ad (81 + v0)), .int v1] (zwC κ ad pT pR pX pF pB pP) (zPd (some (.int res)) (zwC κ ad pT pR pX pF pB pP)) := by
  refine zCT.of (cc := cX1_hundredths) (maxL := 2) (ret := (some .int)) (by decide) rfl (Nat.le_of_ble_eq_true rfl) ?_
  intro X hC hR
  unfold xX1_hundredths_k2 at h
  refine zV.sub (lv' := [(0, .ref (ad (81 + v0))), (1, .int v1)]) [0, 1] rfl ?_
  refine zr_iconst (pc := 0) hC zki_0 dX1_hundredths_0 ?_
  refine zr_aload_n (pc := 1) hC 0 rfl rfl dX1_hundredths_1 ?_
  refine zr_getS (pc := 2) (ref := "BeforeTheEnd$Bold") (T := TX1) hC (81 + v0) hinX1_hundredths_k2_X1 (by simpa using hv0) (entC_p2 hk) rfl 1 (by decide) flX1_hundredths_k2_9 sfX1_hundredths_k2_9 rfl dX1_hundredths_2 ?_
  refine zr_bipush (pc := 5) hC zkb_20 dX1_hundredths_5 ?_
  refine zr_isub (pc := 7) hC dX1_hundredths_7 ?_
  refine zr_mmax (pc := 8) hC lwX1_hundredths_k2_15 (Nat.le_of_ble_eq_true rfl) (Nat.le_of_ble_eq_true rfl) (Nat.le_of_ble_eq_true rfl) (Nat.le_of_ble_eq_true rfl) dX1_hundredths_8 ?_
  obtain rfl := Option.some.inj h
  exact zr_iret hC hR ⟨rfl, rfl⟩ (Nat.le_refl _) (Nat.le_refl _) dX1_hundredths_11
/-! X7_wishes_k2 -/
theorem flX7_wishes_k2_9 : Cond.fieldLink RX7 9 "BeforeTheEnd$Race" "tree" "LBeforeTheEnd$Tree;" ∈ wsX7_wishes := by decide +kernel
theorem hinX7_wishes_k2_X6 : ∀ w ∈ wsX60, w ∈ wsX7_wishes := fun _ h => List.mem_cons_of_mem _ (List.mem_append_left _ (List.mem_append_left _ (List.mem_append_left _ (List.mem_append_left _ (List.mem_append_left _ (List.mem_append_left _ (List.mem_append_left _ (List.mem_append_right _ h))))))))
theorem hinX7_wishes_k2_X0 : ∀ w ∈ wsX00, w ∈ wsX7_wishes := fun _ h => List.mem_cons_of_mem _ (List.mem_append_left _ (List.mem_append_left _ (List.mem_append_left _ (List.mem_append_left _ (List.mem_append_left _ (List.mem_append_left _ (List.mem_append_right _ h)))))))
theorem hinX7_wishes_k2_X1 : ∀ w ∈ wsX10, w ∈ wsX7_wishes := fun _ h => List.mem_cons_of_mem _ (List.mem_append_left _ (List.mem_append_left _ (List.mem_append_left _ (List.mem_append_left _ (List.mem_append_left _ (List.mem_append_right _ h))))))
theorem hinX7_wishes_k2_X2 : ∀ w ∈ wsX20, w ∈ wsX7_wishes := fun _ h => List.mem_cons_of_mem _ (List.mem_append_left _ (List.mem_append_left _ (List.mem_append_left _ (List.mem_append_left _ (List.mem_append_right _ h)))))
theorem hinX7_wishes_k2_X4 : ∀ w ∈ wsX40, w ∈ wsX7_wishes := fun _ h => List.mem_cons_of_mem _ (List.mem_append_left _ (List.mem_append_left _ (List.mem_append_left _ (List.mem_append_right _ h))))
theorem hinX7_wishes_k2_X7 : ∀ w ∈ wsX70, w ∈ wsX7_wishes := fun _ h => List.mem_cons_of_mem _ (List.mem_append_left _ (List.mem_append_left _ (List.mem_append_right _ h)))
theorem hinX7_wishes_k2_X9 : ∀ w ∈ wsX90, w ∈ wsX7_wishes := fun _ h => List.mem_cons_of_mem _ (List.mem_append_left _ (List.mem_append_right _ h))
theorem hinX7_wishes_k2_X10 : ∀ w ∈ wsX100, w ∈ wsX7_wishes := fun _ h => List.mem_cons_of_mem _ (List.mem_append_right _ h)
def xX7_wishes_k2 (pT : zM) (pP : zP) (v0 : Nat) (v2 : Int32) (v3 : Int32) : Option Int32 :=
  (xX1_hundredths_k2 pP v0 v3).bind fun q1 =>
  (xX10_sureBits pT v2 q1).bind fun q2 =>
  (xX10_endBits pT).bind fun q3 =>
  some (q2 ||| q3)
set_option maxHeartbeats 4000000 in
set_option maxRecDepth 100000 in
theorem tX7_wishes_k2 {κ : Nat → ClassId} {tg : Nat} {S : zEn} {ad : Nat → Nat} (hEk : zEk (zE tg S)) {pT : zM} {pR : zM} {pX : zM} {pF : zM} {pB : zM} {pP : zP} {v0 : Nat} {v2 : Int32} {v3 : Int32} (hk : pP.2.1 v0 = 2) (hv0 : v0 < pP.2.2.2) {res : Int32} (h : xX7_wishes_k2 pT pP v0 v2 v3 = some res) (l : Launch) (D : va_G) : zCT (zE tg S) D vwCl (zty κ) l yX7_wishes wsX7_wishes ({ frames := 3, cells := 0, slots := 0, locals := 72 } : Room) 0 0 [.ref (ad (81 + v0)), .ref (ad 62), .int v2, .int v3] (zwC κ ad pT pR pX pF pB pP) (zPd (some (.int res)) (zwC κ ad pT pR pX pF pB pP)) := by
  refine zCT.of (cc := cX7_wishes) (maxL := 4) (ret := (some .int)) (by decide) rfl (Nat.le_of_ble_eq_true rfl) ?_
  intro X hC hR
  unfold xX7_wishes_k2 at h
  refine zV.sub (lv' := [(0, .ref (ad (81 + v0))), (1, .ref (ad 62)), (2, .int v2), (3, .int v3)]) [0, 1, 2, 3] rfl ?_
  refine zr_aload_n (pc := 0) hC 1 rfl rfl dX7_wishes_0 ?_
  refine zcg_62_0 (pc := 1) hC hinX7_wishes_k2_X6 flX7_wishes_k2_9 dX7_wishes_1 ?_
  refine zr_iload_n (pc := 4) hC 2 rfl rfl dX7_wishes_4 ?_
  refine zr_aload_n (pc := 5) hC 0 rfl rfl dX7_wishes_5 ?_
  refine zr_iload_n (pc := 6) hC 3 rfl rfl dX7_wishes_6 ?_
  obtain ⟨q1, hq1, h⟩ := zbd h
  refine zr_cOi (pc := 7) hC hEk [.int v3] [.int v2, .ref (ad 0)] (81 + v0) 1 (fun l D => tX1_hundredths_k2 hEk hk hv0 hq1 l D) gX7_wishes_X1_hundredths_u15X1 h0X7_wishes_hundredths rfl rfl rfl ⟨Nat.le_of_ble_eq_true rfl, Nat.le_of_ble_eq_true rfl⟩ hoX7_hundredths (by simpa using hv0) (entC_p2 hk) rfl rfl rfl (Nat.le_of_ble_eq_true rfl) ⟨Nat.le_of_ble_eq_true rfl, Nat.le_of_ble_eq_true rfl⟩ dX7_wishes_7 ?_
  obtain ⟨q2, hq2, h⟩ := zbd h
  refine zr_cVi (pc := 10) hC hEk [.int v2, .int q1] [] 0 2 (fun l D => tX10_sureBits hEk hq2 l D) gX7_wishes_X10_sureBits rfl rfl rfl ⟨Nat.le_of_ble_eq_true rfl, Nat.le_of_ble_eq_true rfl⟩ hyX10_sureBits (zNC (by decide)) entC_0 rfl rfl rfl (Nat.le_of_ble_eq_true rfl) ⟨Nat.le_of_ble_eq_true rfl, Nat.le_of_ble_eq_true rfl⟩ dX7_wishes_10 ?_
  refine zr_aload_n (pc := 13) hC 1 rfl rfl dX7_wishes_13 ?_
  refine zcg_62_0 (pc := 14) hC hinX7_wishes_k2_X6 flX7_wishes_k2_9 dX7_wishes_14 ?_
  obtain ⟨q3, hq3, h⟩ := zbd h
  refine zr_cVi (pc := 17) hC hEk [] [.int q2] 0 0 (fun l D => tX10_endBits hEk hq3 l D) gX7_wishes_X10_endBits rfl rfl rfl ⟨Nat.le_of_ble_eq_true rfl, Nat.le_of_ble_eq_true rfl⟩ hyX10_endBits (zNC (by decide)) entC_0 rfl rfl rfl (Nat.le_of_ble_eq_true rfl) ⟨Nat.le_of_ble_eq_true rfl, Nat.le_of_ble_eq_true rfl⟩ dX7_wishes_17 ?_
  refine zr_ior (pc := 20) hC dX7_wishes_20 ?_
  obtain rfl := Option.some.inj h
  exact zr_iret hC hR ⟨rfl, rfl⟩ (Nat.le_refl _) (Nat.le_refl _) dX7_wishes_21
/-! X4_hundredths_k3 -/
theorem hyX4_hundredths : yX4_hundredths.cls = RX4 ∧ yX4_hundredths.cls ≠ "java/lang/invoke/MethodHandle" ∧ yX4_hundredths.cls ≠ "java/lang/invoke/VarHandle" ∧ (parseMethodDescriptor yX4_hundredths.desc).map (fun d => d.parameters.length) = some 1 := by decide +kernel
theorem flX4_hundredths_k3_9 : Cond.fieldLink RX4 9 "BeforeTheEnd$Learn" "sure" "I" ∈ wsX4_hundredths := by decide +kernel
theorem sfX4_hundredths_k3_9 : Cond.sameField "BeforeTheEnd$Learn" "BeforeTheEnd$Player" "sure" "I" ∈ wsX4_hundredths := by decide +kernel
theorem hinX4_hundredths_k3_X0 : ∀ w ∈ wsX00, w ∈ wsX4_hundredths := fun _ h => List.mem_cons_of_mem _ (List.mem_append_left _ (List.mem_append_left _ (List.mem_append_left _ (List.mem_append_left _ (List.mem_append_left _ (List.mem_append_right _ h))))))
theorem hinX4_hundredths_k3_X1 : ∀ w ∈ wsX10, w ∈ wsX4_hundredths := fun _ h => List.mem_cons_of_mem _ (List.mem_append_left _ (List.mem_append_left _ (List.mem_append_left _ (List.mem_append_left _ (List.mem_append_right _ h)))))
theorem hinX4_hundredths_k3_X2 : ∀ w ∈ wsX20, w ∈ wsX4_hundredths := fun _ h => List.mem_cons_of_mem _ (List.mem_append_left _ (List.mem_append_left _ (List.mem_append_left _ (List.mem_append_right _ h))))
theorem hinX4_hundredths_k3_X4 : ∀ w ∈ wsX40, w ∈ wsX4_hundredths := fun _ h => List.mem_cons_of_mem _ (List.mem_append_left _ (List.mem_append_left _ (List.mem_append_right _ h)))
theorem hinX4_hundredths_k3_X7 : ∀ w ∈ wsX70, w ∈ wsX4_hundredths := fun _ h => List.mem_cons_of_mem _ (List.mem_append_left _ (List.mem_append_right _ h))
theorem hinX4_hundredths_k3_X9 : ∀ w ∈ wsX90, w ∈ wsX4_hundredths := fun _ h => List.mem_cons_of_mem _ (List.mem_append_right _ h)
def xX4_hundredths_k3 (pP : zP) (v0 : Nat) (v1 : Int32) : Option Int32 :=
  if v1 = 0 then
  (some (pP.2.2.1 v0 1))
  else
  some ((pP.2.2.1 v0 1) / (2 : Int32))
set_option maxHeartbeats 4000000 in
set_option maxRecDepth 100000 in
theorem tX4_hundredths_k3 {κ : Nat → ClassId} {tg : Nat} {S : zEn} {ad : Nat → Nat} (hEk : zEk (zE tg S)) {pT : zM} {pR : zM} {pX : zM} {pF : zM} {pB : zM} {pP : zP} {v0 : Nat} {v1 : Int32} (hk : pP.2.1 v0 = 3) (hv0 : v0 < pP.2.2.2) {res : Int32} (h : xX4_hundredths_k3 pP v0 v1 = some res) (l : Launch) (D : va_G) : zCT (zE tg S) D vwCl (zty κ) l yX4_hundredths wsX4_hundredths ({ frames := 0, cells := 0, slots := 0, locals := 0 } : Room) 0 0 [.ref (ad (81 + v0)), .int v1] (zwC κ ad pT pR pX pF pB pP) (zPd (some (.int res)) (zwC κ ad pT pR pX pF pB pP)) := by
  refine zCT.of (cc := cX4_hundredths) (maxL := 2) (ret := (some .int)) (by decide) rfl (Nat.le_of_ble_eq_true rfl) ?_
  intro X hC hR
  unfold xX4_hundredths_k3 at h
  refine zV.sub (lv' := [(0, .ref (ad (81 + v0))), (1, .int v1)]) [0, 1] rfl ?_
  refine zr_iload_n (pc := 0) hC 1 rfl rfl dX4_hundredths_0 ?_
  refine zr_if_eq (pc := 1) (tgt := 13) hC dX4_hundredths_1 (by decide) (fun c1 => ?_) (fun c1 => ?_)
  · replace h := zip h c1
    refine zr_aload_n (pc := 13) hC 0 rfl rfl dX4_hundredths_13 ?_
    refine zr_getS (pc := 14) (ref := "BeforeTheEnd$Learn") (T := TX4) hC (81 + v0) hinX4_hundredths_k3_X4 (by simpa using hv0) (entC_p3 hk) rfl 1 (by decide) flX4_hundredths_k3_9 sfX4_hundredths_k3_9 rfl dX4_hundredths_14 ?_
    obtain rfl := Option.some.inj h
    exact zr_iret hC hR ⟨rfl, rfl⟩ (Nat.le_refl _) (Nat.le_refl _) dX4_hundredths_17
  · replace h := zin h c1
    refine zr_aload_n (pc := 4) hC 0 rfl rfl dX4_hundredths_4 ?_
    refine zr_getS (pc := 5) (ref := "BeforeTheEnd$Learn") (T := TX4) hC (81 + v0) hinX4_hundredths_k3_X4 (by simpa using hv0) (entC_p3 hk) rfl 1 (by decide) flX4_hundredths_k3_9 sfX4_hundredths_k3_9 rfl dX4_hundredths_5 ?_
    refine zr_iconst (pc := 8) hC zki_2 dX4_hundredths_8 ?_
    refine zr_idiv (pc := 9) hC (by decide) dX4_hundredths_9 ?_
    refine zr_goto (pc := 10) (tgt := 17) hC dX4_hundredths_10 (by decide) ?_
    obtain rfl := Option.some.inj h
    exact zr_iret hC hR ⟨rfl, rfl⟩ (Nat.le_refl _) (Nat.le_refl _) dX4_hundredths_17
/-! X7_wishes_k3 -/
theorem flX7_wishes_k3_9 : Cond.fieldLink RX7 9 "BeforeTheEnd$Race" "tree" "LBeforeTheEnd$Tree;" ∈ wsX7_wishes := by decide +kernel
theorem hinX7_wishes_k3_X6 : ∀ w ∈ wsX60, w ∈ wsX7_wishes := fun _ h => List.mem_cons_of_mem _ (List.mem_append_left _ (List.mem_append_left _ (List.mem_append_left _ (List.mem_append_left _ (List.mem_append_left _ (List.mem_append_left _ (List.mem_append_left _ (List.mem_append_right _ h))))))))
theorem hinX7_wishes_k3_X0 : ∀ w ∈ wsX00, w ∈ wsX7_wishes := fun _ h => List.mem_cons_of_mem _ (List.mem_append_left _ (List.mem_append_left _ (List.mem_append_left _ (List.mem_append_left _ (List.mem_append_left _ (List.mem_append_left _ (List.mem_append_right _ h)))))))
theorem hinX7_wishes_k3_X1 : ∀ w ∈ wsX10, w ∈ wsX7_wishes := fun _ h => List.mem_cons_of_mem _ (List.mem_append_left _ (List.mem_append_left _ (List.mem_append_left _ (List.mem_append_left _ (List.mem_append_left _ (List.mem_append_right _ h))))))
theorem hinX7_wishes_k3_X2 : ∀ w ∈ wsX20, w ∈ wsX7_wishes := fun _ h => List.mem_cons_of_mem _ (List.mem_append_left _ (List.mem_append_left _ (List.mem_append_left _ (List.mem_append_left _ (List.mem_append_right _ h)))))
theorem hinX7_wishes_k3_X4 : ∀ w ∈ wsX40, w ∈ wsX7_wishes := fun _ h => List.mem_cons_of_mem _ (List.mem_append_left _ (List.mem_append_left _ (List.mem_append_left _ (List.mem_append_right _ h))))
theorem hinX7_wishes_k3_X7 : ∀ w ∈ wsX70, w ∈ wsX7_wishes := fun _ h => List.mem_cons_of_mem _ (List.mem_append_left _ (List.mem_append_left _ (List.mem_append_right _ h)))
theorem hinX7_wishes_k3_X9 : ∀ w ∈ wsX90, w ∈ wsX7_wishes := fun _ h => List.mem_cons_of_mem _ (List.mem_append_left _ (List.mem_append_right _ h))
theorem hinX7_wishes_k3_X10 : ∀ w ∈ wsX100, w ∈ wsX7_wishes := fun _ h => List.mem_cons_of_mem _ (List.mem_append_right _ h)
def xX7_wishes_k3 (pT : zM) (pP : zP) (v0 : Nat) (v2 : Int32) (v3 : Int32) : Option Int32 :=
  (xX4_hundredths_k3 pP v0 v3).bind fun q1 =>
  (xX10_sureBits pT v2 q1).bind fun q2 =>
  (xX10_endBits pT).bind fun q3 =>
  some (q2 ||| q3)
set_option maxHeartbeats 4000000 in
set_option maxRecDepth 100000 in
theorem tX7_wishes_k3 {κ : Nat → ClassId} {tg : Nat} {S : zEn} {ad : Nat → Nat} (hEk : zEk (zE tg S)) {pT : zM} {pR : zM} {pX : zM} {pF : zM} {pB : zM} {pP : zP} {v0 : Nat} {v2 : Int32} {v3 : Int32} (hk : pP.2.1 v0 = 3) (hv0 : v0 < pP.2.2.2) {res : Int32} (h : xX7_wishes_k3 pT pP v0 v2 v3 = some res) (l : Launch) (D : va_G) : zCT (zE tg S) D vwCl (zty κ) l yX7_wishes wsX7_wishes ({ frames := 3, cells := 0, slots := 0, locals := 72 } : Room) 0 0 [.ref (ad (81 + v0)), .ref (ad 62), .int v2, .int v3] (zwC κ ad pT pR pX pF pB pP) (zPd (some (.int res)) (zwC κ ad pT pR pX pF pB pP)) := by
  refine zCT.of (cc := cX7_wishes) (maxL := 4) (ret := (some .int)) (by decide) rfl (Nat.le_of_ble_eq_true rfl) ?_
  intro X hC hR
  unfold xX7_wishes_k3 at h
  refine zV.sub (lv' := [(0, .ref (ad (81 + v0))), (1, .ref (ad 62)), (2, .int v2), (3, .int v3)]) [0, 1, 2, 3] rfl ?_
  refine zr_aload_n (pc := 0) hC 1 rfl rfl dX7_wishes_0 ?_
  refine zcg_62_0 (pc := 1) hC hinX7_wishes_k3_X6 flX7_wishes_k3_9 dX7_wishes_1 ?_
  refine zr_iload_n (pc := 4) hC 2 rfl rfl dX7_wishes_4 ?_
  refine zr_aload_n (pc := 5) hC 0 rfl rfl dX7_wishes_5 ?_
  refine zr_iload_n (pc := 6) hC 3 rfl rfl dX7_wishes_6 ?_
  obtain ⟨q1, hq1, h⟩ := zbd h
  refine zr_cOi (pc := 7) hC hEk [.int v3] [.int v2, .ref (ad 0)] (81 + v0) 1 (fun l D => tX4_hundredths_k3 hEk hk hv0 hq1 l D) gX7_wishes_X4_hundredths_u15X4 h0X7_wishes_hundredths rfl rfl rfl ⟨Nat.le_of_ble_eq_true rfl, Nat.le_of_ble_eq_true rfl⟩ hoX7_hundredths (by simpa using hv0) (entC_p3 hk) rfl rfl rfl (Nat.le_of_ble_eq_true rfl) ⟨Nat.le_of_ble_eq_true rfl, Nat.le_of_ble_eq_true rfl⟩ dX7_wishes_7 ?_
  obtain ⟨q2, hq2, h⟩ := zbd h
  refine zr_cVi (pc := 10) hC hEk [.int v2, .int q1] [] 0 2 (fun l D => tX10_sureBits hEk hq2 l D) gX7_wishes_X10_sureBits rfl rfl rfl ⟨Nat.le_of_ble_eq_true rfl, Nat.le_of_ble_eq_true rfl⟩ hyX10_sureBits (zNC (by decide)) entC_0 rfl rfl rfl (Nat.le_of_ble_eq_true rfl) ⟨Nat.le_of_ble_eq_true rfl, Nat.le_of_ble_eq_true rfl⟩ dX7_wishes_10 ?_
  refine zr_aload_n (pc := 13) hC 1 rfl rfl dX7_wishes_13 ?_
  refine zcg_62_0 (pc := 14) hC hinX7_wishes_k3_X6 flX7_wishes_k3_9 dX7_wishes_14 ?_
  obtain ⟨q3, hq3, h⟩ := zbd h
  refine zr_cVi (pc := 17) hC hEk [] [.int q2] 0 0 (fun l D => tX10_endBits hEk hq3 l D) gX7_wishes_X10_endBits rfl rfl rfl ⟨Nat.le_of_ble_eq_true rfl, Nat.le_of_ble_eq_true rfl⟩ hyX10_endBits (zNC (by decide)) entC_0 rfl rfl rfl (Nat.le_of_ble_eq_true rfl) ⟨Nat.le_of_ble_eq_true rfl, Nat.le_of_ble_eq_true rfl⟩ dX7_wishes_17 ?_
  refine zr_ior (pc := 20) hC dX7_wishes_20 ?_
  obtain rfl := Option.some.inj h
  exact zr_iret hC hR ⟨rfl, rfl⟩ (Nat.le_refl _) (Nat.le_refl _) dX7_wishes_21
/-! X9_wishes_k4 -/
theorem hyX9_wishes : yX9_wishes.cls = RX9 ∧ yX9_wishes.cls ≠ "java/lang/invoke/MethodHandle" ∧ yX9_wishes.cls ≠ "java/lang/invoke/VarHandle" ∧ (parseMethodDescriptor yX9_wishes.desc).map (fun d => d.parameters.length) = some 3 := by decide +kernel
theorem flX9_wishes_k4_9 : Cond.fieldLink RX9 9 "BeforeTheEnd$Told" "set" "I" ∈ wsX9_wishes := by decide +kernel
theorem hinX9_wishes_k4_X0 : ∀ w ∈ wsX00, w ∈ wsX9_wishes := fun _ h => List.mem_cons_of_mem _ (List.mem_append_left _ (List.mem_append_right _ h))
theorem hinX9_wishes_k4_X9 : ∀ w ∈ wsX90, w ∈ wsX9_wishes := fun _ h => List.mem_cons_of_mem _ (List.mem_append_right _ h)
def xX9_wishes_k4 (pP : zP) (v0 : Nat) (v2 : Int32) (v3 : Int32) : Option Int32 :=
  some (pP.2.2.1 v0 3)
set_option maxHeartbeats 4000000 in
set_option maxRecDepth 100000 in
theorem tX9_wishes_k4 {κ : Nat → ClassId} {tg : Nat} {S : zEn} {ad : Nat → Nat} (hEk : zEk (zE tg S)) {pT : zM} {pR : zM} {pX : zM} {pF : zM} {pB : zM} {pP : zP} {v0 : Nat} {v2 : Int32} {v3 : Int32} (hk : pP.2.1 v0 = 4) (hv0 : v0 < pP.2.2.2) {res : Int32} (h : xX9_wishes_k4 pP v0 v2 v3 = some res) (l : Launch) (D : va_G) : zCT (zE tg S) D vwCl (zty κ) l yX9_wishes wsX9_wishes ({ frames := 0, cells := 0, slots := 0, locals := 0 } : Room) 0 0 [.ref (ad (81 + v0)), .ref (ad 62), .int v2, .int v3] (zwC κ ad pT pR pX pF pB pP) (zPd (some (.int res)) (zwC κ ad pT pR pX pF pB pP)) := by
  refine zCT.of (cc := cX9_wishes) (maxL := 4) (ret := (some .int)) (by decide) rfl (Nat.le_of_ble_eq_true rfl) ?_
  intro X hC hR
  unfold xX9_wishes_k4 at h
  refine zV.sub (lv' := [(0, .ref (ad (81 + v0))), (1, .ref (ad 62)), (2, .int v2), (3, .int v3)]) [0, 1, 2, 3] rfl ?_
  refine zr_aload_n (pc := 0) hC 0 rfl rfl dX9_wishes_0 ?_
  refine zr_get (pc := 1) (ref := "BeforeTheEnd$Told") (T := TX9) hC (81 + v0) hinX9_wishes_k4_X9 (by simpa using hv0) (entC_p4 hk) rfl 3 (by decide) flX9_wishes_k4_9 rfl rfl dX9_wishes_1 ?_
  obtain rfl := Option.some.inj h
  exact zr_iret hC hR ⟨rfl, rfl⟩ (Nat.le_refl _) (Nat.le_refl _) dX9_wishes_4
/-! X10_meanNext -/
theorem hyX10_meanNext : yX10_meanNext.cls = RX10 ∧ yX10_meanNext.cls ≠ "java/lang/invoke/MethodHandle" ∧ yX10_meanNext.cls ≠ "java/lang/invoke/VarHandle" ∧ (parseMethodDescriptor yX10_meanNext.desc).map (fun d => d.parameters.length) = some 2 := by decide +kernel
theorem flX10_meanNext_40 : Cond.fieldLink RX10 40 "BeforeTheEnd$Tree" "step" "[J" ∈ wsX10_meanNext := by decide +kernel
theorem flX10_meanNext_54 : Cond.fieldLink RX10 54 "BeforeTheEnd$Tree" "count" "I" ∈ wsX10_meanNext := by decide +kernel
theorem flX10_meanNext_9 : Cond.fieldLink RX10 9 "BeforeTheEnd$Tree" "parent" "[I" ∈ wsX10_meanNext := by decide +kernel
theorem hinX10_meanNext_X10 : ∀ w ∈ wsX100, w ∈ wsX10_meanNext := fun _ h => List.mem_cons_of_mem _ (List.mem_append_right _ h)
def xX10_meanNext_L5 (pT : zM) (pR : zM) (v2 : Int32) (w0 : Int64) (w1 : Int32) : Option ((Int64 × Int32) ⊕ Int64) :=
  if (24 : Int32) ≤ w1 then
  (some (.inr w0))
  else
  if (pT.1 0 13) ≤ w1 then
  (some (.inr w0))
  else
  if (24 : Int32) ≤ w1 then
  (some (.inr w0))
  else
  if (w1 < 0 ∨ 24 ≤ w1.toNatClampNeg) then none else
  if (pT.1 1 w1.toNatClampNeg) = v2 then
  (zlet (w0 + ((pT.2 10 w1.toNatClampNeg) * (pR.2 69 w1.toNatClampNeg))) fun z6 =>
  some (.inl (z6, (w1 + (1 : Int32)))))
  else
  some (.inl (w0, (w1 + (1 : Int32))))
set_option maxHeartbeats 4000000 in
set_option maxRecDepth 100000 in
theorem tX10_meanNext_L5 {κ : Nat → ClassId} {tg : Nat} {S : zEn} {ad : Nat → Nat} {X : zX} {pX : zM} {pF : zM} {pB : zM} {pP : zP} {pT : zM} {pR : zM} {v2 : Int32} {w0 : Int64} {w1 : Int32} {r : ((Int64 × Int32) ⊕ Int64)} (hC : zC X cX10_meanNext RX10 wsX10_meanNext vwCl (zty κ) (zE tg S) 6 ({ frames := 0, cells := 0, slots := 0, locals := 0 } : Room)) (hEk : zEk (zE tg S)) (hin : ∀ (x0' : Int64) (x1' : Int32), r = .inl (x0', x1') → zV X 0 0 (zwC κ ad pT pR pX pF pB pP) [(0, .ref (ad 0)), (1, .ref (ad 69)), (2, .int v2), (3, .long x0'), (5, .int x1')] [] 5) (hout0 : ∀ (x0' : Int64), r = .inr x0' → zV X 0 0 (zwC κ ad pT pR pX pF pB pP) [(3, .long x0')] [] 60) (h : xX10_meanNext_L5 pT pR v2 w0 w1 = some r) : zV X 0 0 (zwC κ ad pT pR pX pF pB pP) [(0, .ref (ad 0)), (1, .ref (ad 69)), (2, .int v2), (3, .long w0), (5, .int w1)] [] 5 := by
  unfold xX10_meanNext_L5 at h
  refine zr_iload (pc := 5) hC 4 rfl dX10_meanNext_5 ?_
  refine zr_bipush (pc := 7) hC zkb_24 dX10_meanNext_7 ?_
  refine zr_icmp_ge (pc := 9) (tgt := 60) hC dX10_meanNext_9 (by decide) (fun c1 => ?_) (fun c1 => ?_)
  · replace h := zip h c1
    obtain rfl := Option.some.inj h
    exact zV.sub (lv' := [(3, .long w0)]) [3] rfl (hout0 w0 rfl)
  · replace h := zin h c1
    refine zr_iload (pc := 12) hC 4 rfl dX10_meanNext_12 ?_
    refine zr_aload_n (pc := 14) hC 0 rfl rfl dX10_meanNext_14 ?_
    refine zcg_0_13 (pc := 15) hC hinX10_meanNext_X10 flX10_meanNext_54 dX10_meanNext_15 ?_
    refine zr_icmp_ge (pc := 18) (tgt := 60) hC dX10_meanNext_18 (by decide) (fun c2 => ?_) (fun c2 => ?_)
    · replace h := zip h c2
      obtain rfl := Option.some.inj h
      exact zV.sub (lv' := [(3, .long w0)]) [3] rfl (hout0 w0 rfl)
    · replace h := zin h c2
      refine zr_iload (pc := 21) hC 4 rfl dX10_meanNext_21 ?_
      refine zr_aload_n (pc := 23) hC 1 rfl rfl dX10_meanNext_23 ?_
      refine zca_69 (pc := 24) hC dX10_meanNext_24 ?_
      refine zr_icmp_ge (pc := 25) (tgt := 60) hC dX10_meanNext_25 (by decide) (fun c3 => ?_) (fun c3 => ?_)
      · replace h := zip h c3
        obtain rfl := Option.some.inj h
        exact zV.sub (lv' := [(3, .long w0)]) [3] rfl (hout0 w0 rfl)
      · replace h := zin h c3
        refine zr_aload_n (pc := 28) hC 0 rfl rfl dX10_meanNext_28 ?_
        refine zcg_0_0 (pc := 29) hC hinX10_meanNext_X10 flX10_meanNext_9 dX10_meanNext_29 ?_
        refine zr_iload (pc := 32) hC 4 rfl dX10_meanNext_32 ?_
        obtain ⟨i4, h⟩ := zgd h
        refine zcl_1 (pc := 34) hC i4 dX10_meanNext_34 ?_
        refine zr_iload_n (pc := 35) hC 2 rfl rfl dX10_meanNext_35 ?_
        refine zr_icmp_ne (pc := 36) (tgt := 54) hC dX10_meanNext_36 (by decide) (fun c5 => ?_) (fun c5 => ?_)
        · replace h := zin h c5
          refine zr_iinc (pc := 54) (k := 4) (lv' := [(5, .int (w1 + (1 : Int32))), (0, .ref (ad 0)), (1, .ref (ad 69)), (2, .int v2), (3, .long w0)]) hC zki_1 (by decide) rfl rfl dX10_meanNext_54 ?_
          refine zr_goto (pc := 57) (tgt := 5) hC dX10_meanNext_57 (by decide) ?_
          obtain rfl := Option.some.inj h
          exact zV.sub (lv' := [(0, .ref (ad 0)), (1, .ref (ad 69)), (2, .int v2), (3, .long w0), (5, .int (w1 + (1 : Int32)))]) [1, 2, 3, 4, 0] rfl (hin w0 (w1 + (1 : Int32)) rfl)
        · replace h := zip h c5
          refine zr_lload_n (pc := 39) hC 3 rfl rfl dX10_meanNext_39 ?_
          refine zr_aload_n (pc := 40) hC 0 rfl rfl dX10_meanNext_40 ?_
          refine zcg_0_9 (pc := 41) hC hinX10_meanNext_X10 flX10_meanNext_40 dX10_meanNext_41 ?_
          refine zr_iload (pc := 44) hC 4 rfl dX10_meanNext_44 ?_
          refine zcl_10 (pc := 46) hC i4 dX10_meanNext_46 ?_
          refine zr_aload_n (pc := 47) hC 1 rfl rfl dX10_meanNext_47 ?_
          refine zr_iload (pc := 48) hC 4 rfl dX10_meanNext_48 ?_
          refine zcl_69 (pc := 50) hC i4 dX10_meanNext_50 ?_
          refine zr_lmul (pc := 51) hC dX10_meanNext_51 ?_
          refine zr_ladd (pc := 52) hC dX10_meanNext_52 ?_
          obtain ⟨z6, e7, h⟩ := zle h
          refine zr_topl e7 ?_
          refine zr_lstore_n (pc := 53) (lv' := [(3, .long z6), (0, .ref (ad 0)), (1, .ref (ad 69)), (2, .int v2), (5, .int w1)]) hC rfl (by decide) rfl dX10_meanNext_53 ?_
          refine zr_iinc (pc := 54) (k := 4) (lv' := [(5, .int (w1 + (1 : Int32))), (3, .long z6), (0, .ref (ad 0)), (1, .ref (ad 69)), (2, .int v2)]) hC zki_1 (by decide) rfl rfl dX10_meanNext_54 ?_
          refine zr_goto (pc := 57) (tgt := 5) hC dX10_meanNext_57 (by decide) ?_
          obtain rfl := Option.some.inj h
          exact zV.sub (lv' := [(0, .ref (ad 0)), (1, .ref (ad 69)), (2, .int v2), (3, .long z6), (5, .int (w1 + (1 : Int32)))]) [2, 3, 4, 1, 0] rfl (hin z6 (w1 + (1 : Int32)) rfl)
def xX10_meanNext (pT : zM) (pR : zM) (v2 : Int32) : Option Int64 :=
  (x_it (fun a9 => xX10_meanNext_L5 pT pR v2 a9.1 a9.2) zFU ((0 : Int64), (1 : Int32))).bind fun q1 =>
  some q1
set_option maxHeartbeats 4000000 in
set_option maxRecDepth 100000 in
theorem tX10_meanNext {κ : Nat → ClassId} {tg : Nat} {S : zEn} {ad : Nat → Nat} (hEk : zEk (zE tg S)) {pT : zM} {pR : zM} {pX : zM} {pF : zM} {pB : zM} {pP : zP} {v2 : Int32} {res : Int64} (h : xX10_meanNext pT pR v2 = some res) (l : Launch) (D : va_G) : zCT (zE tg S) D vwCl (zty κ) l yX10_meanNext wsX10_meanNext ({ frames := 0, cells := 0, slots := 0, locals := 0 } : Room) 0 0 [.ref (ad 0), .ref (ad 69), .int v2] (zwC κ ad pT pR pX pF pB pP) (zPd (some (.long res)) (zwC κ ad pT pR pX pF pB pP)) := by
  refine zCT.of (cc := cX10_meanNext) (maxL := 6) (ret := (some .long)) (by decide) rfl (Nat.le_of_ble_eq_true rfl) ?_
  intro X hC hR
  unfold xX10_meanNext at h
  refine zV.sub (lv' := [(0, .ref (ad 0)), (1, .ref (ad 69)), (2, .int v2)]) [0, 1, 2] rfl ?_
  refine zr_lconst (pc := 0) hC zkl_0 dX10_meanNext_0 ?_
  refine zr_lstore_n (pc := 1) (lv' := [(3, .long (0 : Int64)), (0, .ref (ad 0)), (1, .ref (ad 69)), (2, .int v2)]) hC rfl (by decide) rfl dX10_meanNext_1 ?_
  refine zr_iconst (pc := 2) hC zki_1 dX10_meanNext_2 ?_
  refine zr_istore (pc := 3) (lv' := [(5, .int (1 : Int32)), (3, .long (0 : Int64)), (0, .ref (ad 0)), (1, .ref (ad 69)), (2, .int v2)]) hC (by decide) rfl dX10_meanNext_3 ?_
  obtain ⟨q1, hq1, h⟩ := zbd h
  refine zV.sub (lv' := [(0, .ref (ad 0)), (1, .ref (ad 69)), (2, .int v2), (3, .long (0 : Int64)), (5, .int (1 : Int32))]) [2, 3, 4, 1, 0] rfl ?_
  refine zit2 (Wp := fun (y0 : Int64) (y1 : Int32) => zV X 0 0 (zwC κ ad pT pR pX pF pB pP) [(0, .ref (ad 0)), (1, .ref (ad 69)), (2, .int v2), (3, .long y0), (5, .int y1)] [] 5) (Ex := fun (b9 : Int64) => zV X 0 0 (zwC κ ad pT pR pX pF pB pP) [(3, .long b9)] [] 60) (fun y0 y1 r9 hr hin hout => tX10_meanNext_L5 hC hEk hin (fun z0 e9 => hout z0 e9) hr) zFU (0 : Int64) (1 : Int32) q1 hq1 ?_
  show zV X 0 0 (zwC κ ad pT pR pX pF pB pP) [(3, .long q1)] [] 60
  refine zr_lload_n (pc := 60) hC 0 rfl rfl dX10_meanNext_60 ?_
  obtain rfl := Option.some.inj h
  exact zr_lret hC hR ⟨rfl, rfl⟩ (Nat.le_refl _) (Nat.le_refl _) dX10_meanNext_61
/-! X10_pressValue -/
theorem hyX10_pressValue : yX10_pressValue.cls = RX10 ∧ yX10_pressValue.cls ≠ "java/lang/invoke/MethodHandle" ∧ yX10_pressValue.cls ≠ "java/lang/invoke/VarHandle" ∧ (parseMethodDescriptor yX10_pressValue.desc).map (fun d => d.parameters.length) = some 5 := by decide +kernel
theorem flX10_pressValue_36 : Cond.fieldLink RX10 36 "BeforeTheEnd$Tree" "below" "[J" ∈ wsX10_pressValue := by decide +kernel
theorem flX10_pressValue_48 : Cond.fieldLink RX10 48 "BeforeTheEnd$Tree" "share" "[[J" ∈ wsX10_pressValue := by decide +kernel
theorem flX10_pressValue_51 : Cond.fieldLink RX10 51 "BeforeTheEnd$Tree" "far" "[[J" ∈ wsX10_pressValue := by decide +kernel
theorem hinX10_pressValue_X10 : ∀ w ∈ wsX100, w ∈ wsX10_pressValue := fun _ h => List.mem_cons_of_mem _ (List.mem_append_right _ h)
def xX10_pressValue (pT : zM) (v1 : Int32) (v2 : Int32) (v3 : Int32) (v4 : Int32) (v5 : Int32) : Option Int64 :=
  (xX10_has pT v1).bind fun q1 =>
  if q1 = 0 then
  (some (0 : Int64))
  else
  if v2 < (1 : Int32) then
  (some (0 : Int64))
  else
  if v2 < (10 : Int32) then
  (if (v1 < 0 ∨ 24 ≤ v1.toNatClampNeg) then none else
  if (v2 < 0 ∨ 10 ≤ v2.toNatClampNeg) then none else
  some (((v3.toInt64 * (pT.2 (14 + v1.toNatClampNeg) v2.toNatClampNeg)) + (v5.toInt64 * (pT.2 (38 + v1.toNatClampNeg) v2.toNatClampNeg))) - (v4.toInt64 * ((pT.2 9 v1.toNatClampNeg) - (pT.2 (14 + v1.toNatClampNeg) v2.toNatClampNeg)))))
  else
  some (0 : Int64)
set_option maxHeartbeats 4000000 in
set_option maxRecDepth 100000 in
theorem tX10_pressValue {κ : Nat → ClassId} {tg : Nat} {S : zEn} {ad : Nat → Nat} (hEk : zEk (zE tg S)) {pT : zM} {pR : zM} {pX : zM} {pF : zM} {pB : zM} {pP : zP} {v1 : Int32} {v2 : Int32} {v3 : Int32} {v4 : Int32} {v5 : Int32} {res : Int64} (h : xX10_pressValue pT v1 v2 v3 v4 v5 = some res) (l : Launch) (D : va_G) : zCT (zE tg S) D vwCl (zty κ) l yX10_pressValue wsX10_pressValue ({ frames := 1, cells := 0, slots := 0, locals := 21 } : Room) 0 0 [.ref (ad 0), .int v1, .int v2, .int v3, .int v4, .int v5] (zwC κ ad pT pR pX pF pB pP) (zPd (some (.long res)) (zwC κ ad pT pR pX pF pB pP)) := by
  refine zCT.of (cc := cX10_pressValue) (maxL := 6) (ret := (some .long)) (by decide) rfl (Nat.le_of_ble_eq_true rfl) ?_
  intro X hC hR
  unfold xX10_pressValue at h
  refine zV.sub (lv' := [(0, .ref (ad 0)), (1, .int v1), (2, .int v2), (3, .int v3), (4, .int v4), (5, .int v5)]) [0, 1, 2, 3, 4, 5] rfl ?_
  refine zr_aload_n (pc := 0) hC 0 rfl rfl dX10_pressValue_0 ?_
  refine zr_iload_n (pc := 1) hC 1 rfl rfl dX10_pressValue_1 ?_
  obtain ⟨q1, hq1, h⟩ := zbd h
  refine zr_cVi (pc := 2) hC hEk [.int v1] [] 0 1 (fun l D => tX10_has hEk hq1 l D) gX10_pressValue_X10_has rfl rfl rfl ⟨Nat.le_of_ble_eq_true rfl, Nat.le_of_ble_eq_true rfl⟩ hyX10_has (zNC (by decide)) entC_0 rfl rfl rfl (Nat.le_of_ble_eq_true rfl) ⟨Nat.le_of_ble_eq_true rfl, Nat.le_of_ble_eq_true rfl⟩ dX10_pressValue_2 ?_
  refine zr_if_eq (pc := 5) (tgt := 19) hC dX10_pressValue_5 (by decide) (fun c2 => ?_) (fun c2 => ?_)
  · replace h := zip h c2
    refine zr_lconst (pc := 19) hC zkl_0 dX10_pressValue_19 ?_
    obtain rfl := Option.some.inj h
    exact zr_lret hC hR ⟨rfl, rfl⟩ (Nat.le_refl _) (Nat.le_refl _) dX10_pressValue_20
  · replace h := zin h c2
    refine zr_iload_n (pc := 8) hC 2 rfl rfl dX10_pressValue_8 ?_
    refine zr_iconst (pc := 9) hC zki_1 dX10_pressValue_9 ?_
    refine zr_icmp_lt (pc := 10) (tgt := 19) hC dX10_pressValue_10 (by decide) (fun c3 => ?_) (fun c3 => ?_)
    · replace h := zip h c3
      refine zr_lconst (pc := 19) hC zkl_0 dX10_pressValue_19 ?_
      obtain rfl := Option.some.inj h
      exact zr_lret hC hR ⟨rfl, rfl⟩ (Nat.le_refl _) (Nat.le_refl _) dX10_pressValue_20
    · replace h := zin h c3
      refine zr_iload_n (pc := 13) hC 2 rfl rfl dX10_pressValue_13 ?_
      refine zr_bipush (pc := 14) hC zkb_10 dX10_pressValue_14 ?_
      refine zr_icmp_lt (pc := 16) (tgt := 21) hC dX10_pressValue_16 (by decide) (fun c4 => ?_) (fun c4 => ?_)
      · replace h := zip h c4
        refine zr_iload_n (pc := 21) hC 3 rfl rfl dX10_pressValue_21 ?_
        refine zr_i2l (pc := 22) hC dX10_pressValue_22 ?_
        refine zr_aload_n (pc := 23) hC 0 rfl rfl dX10_pressValue_23 ?_
        refine zcg_0_11 (pc := 24) hC hinX10_pressValue_X10 flX10_pressValue_48 dX10_pressValue_24 ?_
        refine zr_iload_n (pc := 27) hC 1 rfl rfl dX10_pressValue_27 ?_
        obtain ⟨i5, h⟩ := zgd h
        refine zcr_12 (pc := 28) hC i5 dX10_pressValue_28 ?_
        refine zr_iload_n (pc := 29) hC 2 rfl rfl dX10_pressValue_29 ?_
        obtain ⟨i6, h⟩ := zgd h
        refine zrl_14 (pc := 30) hC i5 i6 dX10_pressValue_30 ?_
        refine zr_lmul (pc := 31) hC dX10_pressValue_31 ?_
        refine zr_iload (pc := 32) hC 5 rfl dX10_pressValue_32 ?_
        refine zr_i2l (pc := 34) hC dX10_pressValue_34 ?_
        refine zr_aload_n (pc := 35) hC 0 rfl rfl dX10_pressValue_35 ?_
        refine zcg_0_12 (pc := 36) hC hinX10_pressValue_X10 flX10_pressValue_51 dX10_pressValue_36 ?_
        refine zr_iload_n (pc := 39) hC 1 rfl rfl dX10_pressValue_39 ?_
        refine zcr_13 (pc := 40) hC i5 dX10_pressValue_40 ?_
        refine zr_iload_n (pc := 41) hC 2 rfl rfl dX10_pressValue_41 ?_
        refine zrl_38 (pc := 42) hC i5 i6 dX10_pressValue_42 ?_
        refine zr_lmul (pc := 43) hC dX10_pressValue_43 ?_
        refine zr_ladd (pc := 44) hC dX10_pressValue_44 ?_
        refine zr_iload (pc := 45) hC 4 rfl dX10_pressValue_45 ?_
        refine zr_i2l (pc := 47) hC dX10_pressValue_47 ?_
        refine zr_aload_n (pc := 48) hC 0 rfl rfl dX10_pressValue_48 ?_
        refine zcg_0_8 (pc := 49) hC hinX10_pressValue_X10 flX10_pressValue_36 dX10_pressValue_49 ?_
        refine zr_iload_n (pc := 52) hC 1 rfl rfl dX10_pressValue_52 ?_
        refine zcl_9 (pc := 53) hC i5 dX10_pressValue_53 ?_
        refine zr_aload_n (pc := 54) hC 0 rfl rfl dX10_pressValue_54 ?_
        refine zcg_0_11 (pc := 55) hC hinX10_pressValue_X10 flX10_pressValue_48 dX10_pressValue_55 ?_
        refine zr_iload_n (pc := 58) hC 1 rfl rfl dX10_pressValue_58 ?_
        refine zcr_12 (pc := 59) hC i5 dX10_pressValue_59 ?_
        refine zr_iload_n (pc := 60) hC 2 rfl rfl dX10_pressValue_60 ?_
        refine zrl_14 (pc := 61) hC i5 i6 dX10_pressValue_61 ?_
        refine zr_lsub (pc := 62) hC dX10_pressValue_62 ?_
        refine zr_lmul (pc := 63) hC dX10_pressValue_63 ?_
        refine zr_lsub (pc := 64) hC dX10_pressValue_64 ?_
        obtain rfl := Option.some.inj h
        exact zr_lret hC hR ⟨rfl, rfl⟩ (Nat.le_refl _) (Nat.le_refl _) dX10_pressValue_65
      · replace h := zin h c4
        refine zr_lconst (pc := 19) hC zkl_0 dX10_pressValue_19 ?_
        obtain rfl := Option.some.inj h
        exact zr_lret hC hR ⟨rfl, rfl⟩ (Nat.le_refl _) (Nat.le_refl _) dX10_pressValue_20
/-! X6_aloneSet -/
theorem hyX6_aloneSet : yX6_aloneSet.cls = RX6 ∧ yX6_aloneSet.cls ≠ "java/lang/invoke/MethodHandle" ∧ yX6_aloneSet.cls ≠ "java/lang/invoke/VarHandle" ∧ (parseMethodDescriptor yX6_aloneSet.desc).map (fun d => d.parameters.length) = some 1 := by decide +kernel
theorem flX6_aloneSet_21 : Cond.fieldLink RX6 21 "BeforeTheEnd$Race" "point" "[I" ∈ wsX6_aloneSet := by decide +kernel
theorem flX6_aloneSet_53 : Cond.fieldLink RX6 53 "BeforeTheEnd$Race" "aloneValue" "[J" ∈ wsX6_aloneSet := by decide +kernel
theorem flX6_aloneSet_67 : Cond.fieldLink RX6 67 "BeforeTheEnd$Race" "tree" "LBeforeTheEnd$Tree;" ∈ wsX6_aloneSet := by decide +kernel
theorem hinX6_aloneSet_X6 : ∀ w ∈ wsX60, w ∈ wsX6_aloneSet := fun _ h => List.mem_cons_of_mem _ (List.mem_append_left _ (List.mem_append_right _ h))
theorem hinX6_aloneSet_X10 : ∀ w ∈ wsX100, w ∈ wsX6_aloneSet := fun _ h => List.mem_cons_of_mem _ (List.mem_append_right _ h)
def xX6_aloneSet_b58_5 (pT : zM) (pR : zM) (v1 : Int32) (v2 : Int32) (v3 : Int32) (s0 : Int32) : Option ((zM × Int32 × Int32) ⊕ (zM × Int32)) :=
  if s0 = 0 then
  (some (.inl (pR, v2, (v3 + (-1 : Int32)))))
  else
  (xX10_pressValue pT v3 s0 (pR.1 64 (0 : Int32).toNatClampNeg) (pR.1 64 (1 : Int32).toNatClampNeg) (pR.1 64 (2 : Int32).toNatClampNeg)).bind fun q2 =>
  if (v3 < 0 ∨ 24 ≤ v3.toNatClampNeg) then none else
  if (lg_cmp q2 (pR.2 69 v3.toNatClampNeg)) < 0 then
  (some (.inl (pR, v2, (v3 + (-1 : Int32)))))
  else
  zlet (zsj pR 69 v3.toNatClampNeg q2) fun M5 =>
  zlet (v2 ||| ((1 : Int32) <<< (v3 &&& 31))) fun z7 =>
  some (.inl (M5, z7, (v3 + (-1 : Int32))))
set_option maxHeartbeats 4000000 in
set_option maxRecDepth 100000 in
theorem tX6_aloneSet_b58_5 {κ : Nat → ClassId} {tg : Nat} {S : zEn} {ad : Nat → Nat} {X : zX} {pX : zM} {pF : zM} {pB : zM} {pP : zP} {pT : zM} {pR : zM} {v1 : Int32} {v2 : Int32} {v3 : Int32} {s0 : Int32} {r : ((zM × Int32 × Int32) ⊕ (zM × Int32))} (hC : zC X cX6_aloneSet RX6 wsX6_aloneSet vwCl (zty κ) (zE tg S) 7 ({ frames := 2, cells := 0, slots := 0, locals := 47 } : Room)) (hEk : zEk (zE tg S)) (hin : ∀ (x0' : zM) (x1' : Int32) (x2' : Int32), r = .inl (x0', x1', x2') → zV X 0 0 (zwC κ ad pT x0' pX pF pB pP) [(0, .ref (ad 62)), (1, .int v1), (2, .int x1'), (3, .int x2')] [] 5) (hout0 : ∀ (x0' : zM) (x1' : Int32), r = .inr (x0', x1') → zV X 0 0 (zwC κ ad pT x0' pX pF pB pP) [(2, .int x1')] [] 130) (h : xX6_aloneSet_b58_5 pT pR v1 v2 v3 s0 = some r) : zV X 0 0 (zwC κ ad pT pR pX pF pB pP) [(0, .ref (ad 62)), (1, .int v1), (2, .int v2), (3, .int v3)] [.int s0] 58 := by
  unfold xX6_aloneSet_b58_5 at h
  refine zr_istore (pc := 58) (lv' := [(4, .int s0), (0, .ref (ad 62)), (1, .int v1), (2, .int v2), (3, .int v3)]) hC (by decide) rfl dX6_aloneSet_58 ?_
  refine zr_iload (pc := 60) hC 0 rfl dX6_aloneSet_60 ?_
  refine zr_if_ne (pc := 62) (tgt := 68) hC dX6_aloneSet_62 (by decide) (fun c1 => ?_) (fun c1 => ?_)
  · replace h := zin h c1
    refine zr_aload_n (pc := 68) hC 1 rfl rfl dX6_aloneSet_68 ?_
    refine zcg_62_0 (pc := 69) hC hinX6_aloneSet_X6 flX6_aloneSet_67 dX6_aloneSet_69 ?_
    refine zr_iload_n (pc := 72) hC 4 rfl rfl dX6_aloneSet_72 ?_
    refine zr_iload (pc := 73) hC 0 rfl dX6_aloneSet_73 ?_
    refine zr_aload_n (pc := 75) hC 1 rfl rfl dX6_aloneSet_75 ?_
    refine zcg_62_3 (pc := 76) hC hinX6_aloneSet_X6 flX6_aloneSet_21 dX6_aloneSet_76 ?_
    refine zr_iconst (pc := 79) hC zki_0 dX6_aloneSet_79 ?_
    refine zcl_64 (pc := 80) hC (by decide) dX6_aloneSet_80 ?_
    refine zr_aload_n (pc := 81) hC 1 rfl rfl dX6_aloneSet_81 ?_
    refine zcg_62_3 (pc := 82) hC hinX6_aloneSet_X6 flX6_aloneSet_21 dX6_aloneSet_82 ?_
    refine zr_iconst (pc := 85) hC zki_1 dX6_aloneSet_85 ?_
    refine zcl_64 (pc := 86) hC (by decide) dX6_aloneSet_86 ?_
    refine zr_aload_n (pc := 87) hC 1 rfl rfl dX6_aloneSet_87 ?_
    refine zcg_62_3 (pc := 88) hC hinX6_aloneSet_X6 flX6_aloneSet_21 dX6_aloneSet_88 ?_
    refine zr_iconst (pc := 91) hC zki_2 dX6_aloneSet_91 ?_
    refine zcl_64 (pc := 92) hC (by decide) dX6_aloneSet_92 ?_
    obtain ⟨q2, hq2, h⟩ := zbd h
    refine zr_cVl (pc := 93) hC hEk [.int v3, .int s0, .int (pR.1 64 (0 : Int32).toNatClampNeg), .int (pR.1 64 (1 : Int32).toNatClampNeg), .int (pR.1 64 (2 : Int32).toNatClampNeg)] [] 0 5 (fun l D => tX10_pressValue hEk hq2 l D) gX6_aloneSet_X10_pressValue rfl rfl rfl ⟨Nat.le_of_ble_eq_true rfl, Nat.le_of_ble_eq_true rfl⟩ hyX10_pressValue (zNC (by decide)) entC_0 rfl rfl rfl (Nat.le_of_ble_eq_true rfl) ⟨Nat.le_of_ble_eq_true rfl, Nat.le_of_ble_eq_true rfl⟩ dX6_aloneSet_93 ?_
    refine zr_lstore (pc := 96) (lv' := [(5, .long q2), (4, .int s0), (0, .ref (ad 62)), (1, .int v1), (2, .int v2), (3, .int v3)]) hC (by decide) rfl dX6_aloneSet_96 ?_
    refine zr_lload (pc := 98) hC 0 rfl dX6_aloneSet_98 ?_
    refine zr_aload_n (pc := 100) hC 2 rfl rfl dX6_aloneSet_100 ?_
    refine zcg_62_13 (pc := 101) hC hinX6_aloneSet_X6 flX6_aloneSet_53 dX6_aloneSet_101 ?_
    refine zr_iload_n (pc := 104) hC 5 rfl rfl dX6_aloneSet_104 ?_
    obtain ⟨i3, h⟩ := zgd h
    refine zcl_69 (pc := 105) hC i3 dX6_aloneSet_105 ?_
    refine zr_lcmp (pc := 106) hC dX6_aloneSet_106 ?_
    refine zr_if_lt (pc := 107) (tgt := 124) hC dX6_aloneSet_107 (by decide) (fun c4 => ?_) (fun c4 => ?_)
    · replace h := zip h c4
      refine zr_iinc (pc := 124) (k := 5) (lv' := [(3, .int (v3 + (-1 : Int32))), (5, .long q2), (4, .int s0), (0, .ref (ad 62)), (1, .int v1), (2, .int v2)]) hC zki_m1 (by decide) rfl rfl dX6_aloneSet_124 ?_
      refine zr_goto (pc := 127) (tgt := 5) hC dX6_aloneSet_127 (by decide) ?_
      obtain rfl := Option.some.inj h
      exact zV.sub (lv' := [(0, .ref (ad 62)), (1, .int v1), (2, .int v2), (3, .int (v3 + (-1 : Int32)))]) [3, 4, 5, 0] rfl (hin pR v2 (v3 + (-1 : Int32)) rfl)
    · replace h := zin h c4
      refine zr_aload_n (pc := 110) hC 2 rfl rfl dX6_aloneSet_110 ?_
      refine zcg_62_13 (pc := 111) hC hinX6_aloneSet_X6 flX6_aloneSet_53 dX6_aloneSet_111 ?_
      refine zr_iload_n (pc := 114) hC 5 rfl rfl dX6_aloneSet_114 ?_
      refine zr_lload (pc := 115) hC 0 rfl dX6_aloneSet_115 ?_
      obtain ⟨M5, e6, h⟩ := zle h
      refine zcs_69 (pc := 117) hC i3 e6 dX6_aloneSet_117 ?_
      refine zr_iload_n (pc := 118) hC 4 rfl rfl dX6_aloneSet_118 ?_
      refine zr_iconst (pc := 119) hC zki_1 dX6_aloneSet_119 ?_
      refine zr_iload_n (pc := 120) hC 5 rfl rfl dX6_aloneSet_120 ?_
      refine zr_ishl (pc := 121) hC dX6_aloneSet_121 ?_
      refine zr_ior (pc := 122) hC dX6_aloneSet_122 ?_
      obtain ⟨z7, e8, h⟩ := zle h
      refine zr_topi e8 ?_
      refine zr_istore_n (pc := 123) (lv' := [(2, .int z7), (5, .long q2), (4, .int s0), (0, .ref (ad 62)), (1, .int v1), (3, .int v3)]) hC rfl (by decide) rfl dX6_aloneSet_123 ?_
      refine zr_iinc (pc := 124) (k := 5) (lv' := [(3, .int (v3 + (-1 : Int32))), (2, .int z7), (5, .long q2), (4, .int s0), (0, .ref (ad 62)), (1, .int v1)]) hC zki_m1 (by decide) rfl rfl dX6_aloneSet_124 ?_
      refine zr_goto (pc := 127) (tgt := 5) hC dX6_aloneSet_127 (by decide) ?_
      obtain rfl := Option.some.inj h
      exact zV.sub (lv' := [(0, .ref (ad 62)), (1, .int v1), (2, .int z7), (3, .int (v3 + (-1 : Int32)))]) [4, 5, 1, 0] rfl (hin M5 z7 (v3 + (-1 : Int32)) rfl)
  · replace h := zip h c1
    refine zr_goto (pc := 65) (tgt := 124) hC dX6_aloneSet_65 (by decide) ?_
    refine zr_iinc (pc := 124) (k := 4) (lv' := [(3, .int (v3 + (-1 : Int32))), (4, .int s0), (0, .ref (ad 62)), (1, .int v1), (2, .int v2)]) hC zki_m1 (by decide) rfl rfl dX6_aloneSet_124 ?_
    refine zr_goto (pc := 127) (tgt := 5) hC dX6_aloneSet_127 (by decide) ?_
    obtain rfl := Option.some.inj h
    exact zV.sub (lv' := [(0, .ref (ad 62)), (1, .int v1), (2, .int v2), (3, .int (v3 + (-1 : Int32)))]) [2, 3, 4, 0] rfl (hin pR v2 (v3 + (-1 : Int32)) rfl)
def xX6_aloneSet_L5 (pT : zM) (v1 : Int32) (w0 : zM) (w1 : Int32) (w2 : Int32) : Option ((zM × Int32 × Int32) ⊕ (zM × Int32)) :=
  if w2 < 0 then
  (some (.inr (w0, w1)))
  else
  (xX10_has pT w2).bind fun q2 =>
  if q2 = 0 then
  (some (.inl (w0, w1, (w2 + (-1 : Int32)))))
  else
  (xX10_meanNext pT w0 w2).bind fun q4 =>
  if (w2 < 0 ∨ 24 ≤ w2.toNatClampNeg) then none else
  zlet (zsj w0 69 w2.toNatClampNeg q4) fun M6 =>
  if w2 = 0 then
  (xX6_aloneSet_b58_5 pT M6 v1 w1 w2 (0 : Int32))
  else
  (xX10_guessAt pT w2 v1).bind fun q9 =>
  xX6_aloneSet_b58_5 pT M6 v1 w1 w2 q9
set_option maxHeartbeats 4000000 in
set_option maxRecDepth 100000 in
theorem tX6_aloneSet_L5 {κ : Nat → ClassId} {tg : Nat} {S : zEn} {ad : Nat → Nat} {X : zX} {pX : zM} {pF : zM} {pB : zM} {pP : zP} {pT : zM} {v1 : Int32} {w0 : zM} {w1 : Int32} {w2 : Int32} {r : ((zM × Int32 × Int32) ⊕ (zM × Int32))} (hC : zC X cX6_aloneSet RX6 wsX6_aloneSet vwCl (zty κ) (zE tg S) 7 ({ frames := 2, cells := 0, slots := 0, locals := 47 } : Room)) (hEk : zEk (zE tg S)) (hin : ∀ (x0' : zM) (x1' : Int32) (x2' : Int32), r = .inl (x0', x1', x2') → zV X 0 0 (zwC κ ad pT x0' pX pF pB pP) [(0, .ref (ad 62)), (1, .int v1), (2, .int x1'), (3, .int x2')] [] 5) (hout0 : ∀ (x0' : zM) (x1' : Int32), r = .inr (x0', x1') → zV X 0 0 (zwC κ ad pT x0' pX pF pB pP) [(2, .int x1')] [] 130) (h : xX6_aloneSet_L5 pT v1 w0 w1 w2 = some r) : zV X 0 0 (zwC κ ad pT w0 pX pF pB pP) [(0, .ref (ad 62)), (1, .int v1), (2, .int w1), (3, .int w2)] [] 5 := by
  unfold xX6_aloneSet_L5 at h
  refine zr_iload_n (pc := 5) hC 3 rfl rfl dX6_aloneSet_5 ?_
  refine zr_if_lt (pc := 6) (tgt := 130) hC dX6_aloneSet_6 (by decide) (fun c1 => ?_) (fun c1 => ?_)
  · replace h := zip h c1
    obtain rfl := Option.some.inj h
    exact zV.sub (lv' := [(2, .int w1)]) [2] rfl (hout0 w0 w1 rfl)
  · replace h := zin h c1
    refine zr_aload_n (pc := 9) hC 0 rfl rfl dX6_aloneSet_9 ?_
    refine zcg_62_0 (pc := 10) hC hinX6_aloneSet_X6 flX6_aloneSet_67 dX6_aloneSet_10 ?_
    refine zr_iload_n (pc := 13) hC 3 rfl rfl dX6_aloneSet_13 ?_
    obtain ⟨q2, hq2, h⟩ := zbd h
    refine zr_cVi (pc := 14) hC hEk [.int w2] [] 0 1 (fun l D => tX10_has hEk hq2 l D) gX6_aloneSet_X10_has rfl rfl rfl ⟨Nat.le_of_ble_eq_true rfl, Nat.le_of_ble_eq_true rfl⟩ hyX10_has (zNC (by decide)) entC_0 rfl rfl rfl (Nat.le_of_ble_eq_true rfl) ⟨Nat.le_of_ble_eq_true rfl, Nat.le_of_ble_eq_true rfl⟩ dX6_aloneSet_14 ?_
    refine zr_if_ne (pc := 17) (tgt := 23) hC dX6_aloneSet_17 (by decide) (fun c3 => ?_) (fun c3 => ?_)
    · replace h := zin h c3
      refine zr_aload_n (pc := 23) hC 0 rfl rfl dX6_aloneSet_23 ?_
      refine zcg_62_13 (pc := 24) hC hinX6_aloneSet_X6 flX6_aloneSet_53 dX6_aloneSet_24 ?_
      refine zr_iload_n (pc := 27) hC 3 rfl rfl dX6_aloneSet_27 ?_
      refine zr_aload_n (pc := 28) hC 0 rfl rfl dX6_aloneSet_28 ?_
      refine zcg_62_0 (pc := 29) hC hinX6_aloneSet_X6 flX6_aloneSet_67 dX6_aloneSet_29 ?_
      refine zr_aload_n (pc := 32) hC 0 rfl rfl dX6_aloneSet_32 ?_
      refine zcg_62_13 (pc := 33) hC hinX6_aloneSet_X6 flX6_aloneSet_53 dX6_aloneSet_33 ?_
      refine zr_iload_n (pc := 36) hC 3 rfl rfl dX6_aloneSet_36 ?_
      obtain ⟨q4, hq4, h⟩ := zbd h
      refine zr_cVl (pc := 37) hC hEk [.ref (ad 69), .int w2] [.int w2, .ref (ad 69)] 0 2 (fun l D => tX10_meanNext hEk hq4 l D) gX6_aloneSet_X10_meanNext rfl rfl rfl ⟨Nat.le_of_ble_eq_true rfl, Nat.le_of_ble_eq_true rfl⟩ hyX10_meanNext (zNC (by decide)) entC_0 rfl rfl rfl (Nat.le_of_ble_eq_true rfl) ⟨Nat.le_of_ble_eq_true rfl, Nat.le_of_ble_eq_true rfl⟩ dX6_aloneSet_37 ?_
      obtain ⟨i5, h⟩ := zgd h
      obtain ⟨M6, e7, h⟩ := zle h
      refine zcs_69 (pc := 40) hC i5 e7 dX6_aloneSet_40 ?_
      refine zr_iload_n (pc := 41) hC 3 rfl rfl dX6_aloneSet_41 ?_
      refine zr_if_ne (pc := 42) (tgt := 49) hC dX6_aloneSet_42 (by decide) (fun c8 => ?_) (fun c8 => ?_)
      · replace h := zin h c8
        refine zr_aload_n (pc := 49) hC 0 rfl rfl dX6_aloneSet_49 ?_
        refine zcg_62_0 (pc := 50) hC hinX6_aloneSet_X6 flX6_aloneSet_67 dX6_aloneSet_50 ?_
        refine zr_iload_n (pc := 53) hC 3 rfl rfl dX6_aloneSet_53 ?_
        refine zr_iload_n (pc := 54) hC 1 rfl rfl dX6_aloneSet_54 ?_
        obtain ⟨q9, hq9, h⟩ := zbd h
        refine zr_cVi (pc := 55) hC hEk [.int w2, .int v1] [] 0 2 (fun l D => tX10_guessAt hEk hq9 l D) gX6_aloneSet_X10_guessAt rfl rfl rfl ⟨Nat.le_of_ble_eq_true rfl, Nat.le_of_ble_eq_true rfl⟩ hyX10_guessAt (zNC (by decide)) entC_0 rfl rfl rfl (Nat.le_of_ble_eq_true rfl) ⟨Nat.le_of_ble_eq_true rfl, Nat.le_of_ble_eq_true rfl⟩ dX6_aloneSet_55 ?_
        exact zV.sub (lv' := [(0, .ref (ad 62)), (1, .int v1), (2, .int w1), (3, .int w2)]) [0, 1, 2, 3] rfl (tX6_aloneSet_b58_5 hC hEk hin hout0 h)
      · replace h := zip h c8
        refine zr_iconst (pc := 45) hC zki_0 dX6_aloneSet_45 ?_
        refine zr_goto (pc := 46) (tgt := 58) hC dX6_aloneSet_46 (by decide) ?_
        exact zV.sub (lv' := [(0, .ref (ad 62)), (1, .int v1), (2, .int w1), (3, .int w2)]) [0, 1, 2, 3] rfl (tX6_aloneSet_b58_5 hC hEk hin hout0 h)
    · replace h := zip h c3
      refine zr_goto (pc := 20) (tgt := 124) hC dX6_aloneSet_20 (by decide) ?_
      refine zr_iinc (pc := 124) (k := 3) (lv' := [(3, .int (w2 + (-1 : Int32))), (0, .ref (ad 62)), (1, .int v1), (2, .int w1)]) hC zki_m1 (by decide) rfl rfl dX6_aloneSet_124 ?_
      refine zr_goto (pc := 127) (tgt := 5) hC dX6_aloneSet_127 (by decide) ?_
      obtain rfl := Option.some.inj h
      exact zV.sub (lv' := [(0, .ref (ad 62)), (1, .int v1), (2, .int w1), (3, .int (w2 + (-1 : Int32)))]) [1, 2, 3, 0] rfl (hin w0 w1 (w2 + (-1 : Int32)) rfl)
def xX6_aloneSet (pT : zM) (pR : zM) (v1 : Int32) : Option (Int32 × zM) :=
  (x_it (fun a9 => xX6_aloneSet_L5 pT v1 a9.1 a9.2.1 a9.2.2) zFU (pR, (0 : Int32), (23 : Int32))).bind fun q1 =>
  some (q1.2, q1.1)
set_option maxHeartbeats 4000000 in
set_option maxRecDepth 100000 in
theorem tX6_aloneSet {κ : Nat → ClassId} {tg : Nat} {S : zEn} {ad : Nat → Nat} (hEk : zEk (zE tg S)) {pT : zM} {pR : zM} {pX : zM} {pF : zM} {pB : zM} {pP : zP} {v1 : Int32} {res : (Int32 × zM)} (h : xX6_aloneSet pT pR v1 = some res) (l : Launch) (D : va_G) : zCT (zE tg S) D vwCl (zty κ) l yX6_aloneSet wsX6_aloneSet ({ frames := 2, cells := 0, slots := 0, locals := 47 } : Room) 0 0 [.ref (ad 62), .int v1] (zwC κ ad pT pR pX pF pB pP) (zPd (some (.int res.1)) (zwC κ ad pT res.2 pX pF pB pP)) := by
  refine zCT.of (cc := cX6_aloneSet) (maxL := 7) (ret := (some .int)) (by decide) rfl (Nat.le_of_ble_eq_true rfl) ?_
  intro X hC hR
  unfold xX6_aloneSet at h
  refine zV.sub (lv' := [(0, .ref (ad 62)), (1, .int v1)]) [0, 1] rfl ?_
  refine zr_iconst (pc := 0) hC zki_0 dX6_aloneSet_0 ?_
  refine zr_istore_n (pc := 1) (lv' := [(2, .int (0 : Int32)), (0, .ref (ad 62)), (1, .int v1)]) hC rfl (by decide) rfl dX6_aloneSet_1 ?_
  refine zr_bipush (pc := 2) hC zkb_23 dX6_aloneSet_2 ?_
  refine zr_istore_n (pc := 4) (lv' := [(3, .int (23 : Int32)), (2, .int (0 : Int32)), (0, .ref (ad 62)), (1, .int v1)]) hC rfl (by decide) rfl dX6_aloneSet_4 ?_
  obtain ⟨q1, hq1, h⟩ := zbd h
  refine zV.sub (lv' := [(0, .ref (ad 62)), (1, .int v1), (2, .int (0 : Int32)), (3, .int (23 : Int32))]) [2, 3, 1, 0] rfl ?_
  refine zit3 (Wp := fun (y0 : zM) (y1 : Int32) (y2 : Int32) => zV X 0 0 (zwC κ ad pT y0 pX pF pB pP) [(0, .ref (ad 62)), (1, .int v1), (2, .int y1), (3, .int y2)] [] 5) (Ex := fun (b9 : (zM × Int32)) => zV X 0 0 (zwC κ ad pT b9.1 pX pF pB pP) [(2, .int b9.2)] [] 130) (fun y0 y1 y2 r9 hr hin hout => tX6_aloneSet_L5 hC hEk hin (fun z0 z1 e9 => hout (z0, z1) e9) hr) zFU pR (0 : Int32) (23 : Int32) q1 hq1 ?_
  show zV X 0 0 (zwC κ ad pT q1.1 pX pF pB pP) [(2, .int q1.2)] [] 130
  refine zr_iload_n (pc := 130) hC 0 rfl rfl dX6_aloneSet_130 ?_
  obtain rfl := Option.some.inj h
  exact zr_iret hC hR ⟨rfl, rfl⟩ (Nat.le_refl _) (Nat.le_refl _) dX6_aloneSet_131
/-! X0_wishes_k5 -/
theorem hyX0_wishes : yX0_wishes.cls = RX0 ∧ yX0_wishes.cls ≠ "java/lang/invoke/MethodHandle" ∧ yX0_wishes.cls ≠ "java/lang/invoke/VarHandle" ∧ (parseMethodDescriptor yX0_wishes.desc).map (fun d => d.parameters.length) = some 3 := by decide +kernel
theorem hinX0_wishes_k5_X6 : ∀ w ∈ wsX60, w ∈ wsX0_wishes := fun _ h => List.mem_cons_of_mem _ (List.mem_append_left _ (List.mem_append_right _ h))
theorem hinX0_wishes_k5_X10 : ∀ w ∈ wsX100, w ∈ wsX0_wishes := fun _ h => List.mem_cons_of_mem _ (List.mem_append_right _ h)
def xX0_wishes_k5 (pT : zM) (pR : zM) (pP : zP) (v0 : Nat) (v2 : Int32) (v3 : Int32) : Option (Int32 × zM) :=
  (xX6_aloneSet pT pR v2).bind fun q1 =>
  some (q1.1, q1.2)
set_option maxHeartbeats 4000000 in
set_option maxRecDepth 100000 in
theorem tX0_wishes_k5 {κ : Nat → ClassId} {tg : Nat} {S : zEn} {ad : Nat → Nat} (hEk : zEk (zE tg S)) {pT : zM} {pR : zM} {pX : zM} {pF : zM} {pB : zM} {pP : zP} {v0 : Nat} {v2 : Int32} {v3 : Int32} (hk : zk5 pP v0) (hv0 : v0 < pP.2.2.2) {res : (Int32 × zM)} (h : xX0_wishes_k5 pT pR pP v0 v2 v3 = some res) (l : Launch) (D : va_G) : zCT (zE tg S) D vwCl (zty κ) l yX0_wishes wsX0_wishes ({ frames := 3, cells := 0, slots := 0, locals := 73 } : Room) 0 0 [.ref (ad (81 + v0)), .ref (ad 62), .int v2, .int v3] (zwC κ ad pT pR pX pF pB pP) (zPd (some (.int res.1)) (zwC κ ad pT res.2 pX pF pB pP)) := by
  refine zCT.of (cc := cX0_wishes) (maxL := 4) (ret := (some .int)) (by decide) rfl (Nat.le_of_ble_eq_true rfl) ?_
  intro X hC hR
  unfold xX0_wishes_k5 at h
  refine zV.sub (lv' := [(0, .ref (ad (81 + v0))), (1, .ref (ad 62)), (2, .int v2), (3, .int v3)]) [0, 1, 2, 3] rfl ?_
  refine zr_aload_n (pc := 0) hC 1 rfl rfl dX0_wishes_0 ?_
  refine zr_iload_n (pc := 1) hC 2 rfl rfl dX0_wishes_1 ?_
  obtain ⟨q1, hq1, h⟩ := zbd h
  refine zr_cVi (pc := 2) hC hEk [.int v2] [] 62 1 (fun l D => tX6_aloneSet hEk hq1 l D) gX0_wishes_X6_aloneSet rfl rfl rfl ⟨Nat.le_of_ble_eq_true rfl, Nat.le_of_ble_eq_true rfl⟩ hyX6_aloneSet (zNC (by decide)) entC_62 rfl rfl rfl (Nat.le_of_ble_eq_true rfl) ⟨Nat.le_of_ble_eq_true rfl, Nat.le_of_ble_eq_true rfl⟩ dX0_wishes_2 ?_
  obtain rfl := Option.some.inj h
  exact zr_iret hC hR ⟨rfl, rfl⟩ (Nat.le_refl _) (Nat.le_refl _) dX0_wishes_5
/-! V:wishes -/
def xv_wishes (pT : zM) (pR : zM) (pP : zP) (a : Nat) (v1 : Int32) (v2 : Int32) : Option (Int32 × zM) :=
  if pP.2.1 a = 0 then
  ((xX2_wishes_k0 pT pP a v1 v2).bind fun q => some (q, pR))
  else
  if pP.2.1 a = 1 then
  ((xX7_wishes_k1 pT pP a v1 v2).bind fun q => some (q, pR))
  else
  if pP.2.1 a = 2 then
  ((xX7_wishes_k2 pT pP a v1 v2).bind fun q => some (q, pR))
  else
  if pP.2.1 a = 3 then
  ((xX7_wishes_k3 pT pP a v1 v2).bind fun q => some (q, pR))
  else
  if pP.2.1 a = 4 then
  ((xX9_wishes_k4 pP a v1 v2).bind fun q => some (q, pR))
  else
  (xX0_wishes_k5 pT pR pP a v1 v2).bind fun q => some (q.1, q.2)
theorem hxv_wishes : "BeforeTheEnd$Player" ≠ "java/lang/invoke/MethodHandle" ∧ "BeforeTheEnd$Player" ≠ "java/lang/invoke/VarHandle" ∧ (parseMethodDescriptor "(LBeforeTheEnd$Race;IZ)I").map (fun d => d.parameters.length) = some 3 := by decide +kernel
/-! X6_pressBits -/
set_option maxHeartbeats 4000000 in
theorem vrX6_pressBits_88 {κ : Nat → ClassId} {tg : Nat} {S : zEn} {ad : Nat → Nat} {X : zX} {cells slots nL pc a : Nat} {lv : zLv} {rm : Room} {pT pR pX pF pB : zM} {pP : zP} {v1 : Int32} {v2 : Int32} {q : (Int32 × zM)} (hC : zC X cX6_pressBits RX6 wsX6_pressBits vwCl (zty κ) (zE tg S) nL rm) (hEk : zEk (zE tg S)) (ha : ¬ pP.2.2.2 ≤ a) (hq : xv_wishes pT pR pP a v1 v2 = some q) {rest : List Value} (hcat : (rest.map fun v => v.category).sum ≤ 8) (hf : 4 ≤ rm.frames) (hl : 96 ≤ rm.locals) (hfit : cells + 0 ≤ rm.cells ∧ slots + 0 ≤ rm.slots) (hd : decode cX6_pressBits pc = .ok (.invokevirtual 88, 3)) (kk : zV X cells slots (zwC κ ad pT q.2 pX pF pB pP) lv (.int q.1 :: rest) (pc + 3)) : zV X cells slots (zwC κ ad pT pR pX pF pB pP) lv (.int v2 :: .int v1 :: .ref (ad 62) :: .ref (ad (81 + a)) :: rest) pc := by
  have ha2 : a < pP.2.2.2 := by omega
  unfold xv_wishes at hq
  by_cases k0 : pP.2.1 a = 0
  · replace hq := zip hq k0
    obtain ⟨q2, hq2, hq⟩ := zbd hq
    obtain rfl := Option.some.inj hq
    exact zr_cAi hC hEk [.ref (ad 62), .int v1, .int v2] rest (81 + a) 3 (fun l D => tX2_wishes_k0 hEk k0 ha2 hq2 l D) gX6_pressBits_X2_wishes_u88X2 zE_wishes rfl rfl rfl ⟨Nat.le_trans (Nat.le_of_ble_eq_true rfl) hf, Nat.le_trans (Nat.le_of_ble_eq_true rfl) hl⟩ hxv_wishes (by omega) (entC_p0 k0) rfl rfl rfl hcat hfit hd kk
  replace hq := zin hq k0
  by_cases k1 : pP.2.1 a = 1
  · replace hq := zip hq k1
    obtain ⟨q2, hq2, hq⟩ := zbd hq
    obtain rfl := Option.some.inj hq
    exact zr_cAi hC hEk [.ref (ad 62), .int v1, .int v2] rest (81 + a) 3 (fun l D => tX7_wishes_k1 hEk k1 ha2 hq2 l D) gX6_pressBits_X7_wishes_u88X7 zE_wishes rfl rfl rfl ⟨Nat.le_trans (Nat.le_of_ble_eq_true rfl) hf, Nat.le_trans (Nat.le_of_ble_eq_true rfl) hl⟩ hxv_wishes (by omega) (entC_p1 k1) rfl rfl rfl hcat hfit hd kk
  replace hq := zin hq k1
  by_cases k2 : pP.2.1 a = 2
  · replace hq := zip hq k2
    obtain ⟨q2, hq2, hq⟩ := zbd hq
    obtain rfl := Option.some.inj hq
    exact zr_cAi hC hEk [.ref (ad 62), .int v1, .int v2] rest (81 + a) 3 (fun l D => tX7_wishes_k2 hEk k2 ha2 hq2 l D) gX6_pressBits_X7_wishes_u88X1 zE_wishes rfl rfl rfl ⟨Nat.le_trans (Nat.le_of_ble_eq_true rfl) hf, Nat.le_trans (Nat.le_of_ble_eq_true rfl) hl⟩ hxv_wishes (by omega) (entC_p2 k2) rfl rfl rfl hcat hfit hd kk
  replace hq := zin hq k2
  by_cases k3 : pP.2.1 a = 3
  · replace hq := zip hq k3
    obtain ⟨q2, hq2, hq⟩ := zbd hq
    obtain rfl := Option.some.inj hq
    exact zr_cAi hC hEk [.ref (ad 62), .int v1, .int v2] rest (81 + a) 3 (fun l D => tX7_wishes_k3 hEk k3 ha2 hq2 l D) gX6_pressBits_X7_wishes_u88X4 zE_wishes rfl rfl rfl ⟨Nat.le_trans (Nat.le_of_ble_eq_true rfl) hf, Nat.le_trans (Nat.le_of_ble_eq_true rfl) hl⟩ hxv_wishes (by omega) (entC_p3 k3) rfl rfl rfl hcat hfit hd kk
  replace hq := zin hq k3
  by_cases k4 : pP.2.1 a = 4
  · replace hq := zip hq k4
    obtain ⟨q2, hq2, hq⟩ := zbd hq
    obtain rfl := Option.some.inj hq
    exact zr_cAi hC hEk [.ref (ad 62), .int v1, .int v2] rest (81 + a) 3 (fun l D => tX9_wishes_k4 hEk k4 ha2 hq2 l D) gX6_pressBits_X9_wishes_u88X9 zE_wishes rfl rfl rfl ⟨Nat.le_trans (Nat.le_of_ble_eq_true rfl) hf, Nat.le_trans (Nat.le_of_ble_eq_true rfl) hl⟩ hxv_wishes (by omega) (entC_p4 k4) rfl rfl rfl hcat hfit hd kk
  replace hq := zin hq k4
  obtain ⟨q2, hq2, hq⟩ := zbd hq
  obtain rfl := Option.some.inj hq
  exact zr_cAi hC hEk [.ref (ad 62), .int v1, .int v2] rest (81 + a) 3 (fun l D => tX0_wishes_k5 hEk ⟨k0, k1, k2, k3, k4⟩ ha2 hq2 l D) gX6_pressBits_X0_wishes_u88X0 zE_wishes rfl rfl rfl ⟨Nat.le_trans (Nat.le_of_ble_eq_true rfl) hf, Nat.le_trans (Nat.le_of_ble_eq_true rfl) hl⟩ hxv_wishes (by omega) (entC_p5 ⟨k0, k1, k2, k3, k4⟩) rfl rfl rfl hcat hfit hd kk
theorem hyX6_pressBits : yX6_pressBits.cls = RX6 ∧ yX6_pressBits.cls ≠ "java/lang/invoke/MethodHandle" ∧ yX6_pressBits.cls ≠ "java/lang/invoke/VarHandle" ∧ (parseMethodDescriptor yX6_pressBits.desc).map (fun d => d.parameters.length) = some 3 := by decide +kernel
theorem flX6_pressBits_67 : Cond.fieldLink RX6 67 "BeforeTheEnd$Race" "tree" "LBeforeTheEnd$Tree;" ∈ wsX6_pressBits := by decide +kernel
theorem hinX6_pressBits_X6 : ∀ w ∈ wsX60, w ∈ wsX6_pressBits := fun _ h => List.mem_cons_of_mem _ (List.mem_append_left _ (List.mem_append_left _ (List.mem_append_left _ (List.mem_append_left _ (List.mem_append_left _ (List.mem_append_left _ (List.mem_append_left _ (List.mem_append_right _ h))))))))
theorem hinX6_pressBits_X10 : ∀ w ∈ wsX100, w ∈ wsX6_pressBits := fun _ h => List.mem_cons_of_mem _ (List.mem_append_left _ (List.mem_append_left _ (List.mem_append_left _ (List.mem_append_left _ (List.mem_append_left _ (List.mem_append_left _ (List.mem_append_right _ h)))))))
theorem hinX6_pressBits_X0 : ∀ w ∈ wsX00, w ∈ wsX6_pressBits := fun _ h => List.mem_cons_of_mem _ (List.mem_append_left _ (List.mem_append_left _ (List.mem_append_left _ (List.mem_append_left _ (List.mem_append_left _ (List.mem_append_right _ h))))))
theorem hinX6_pressBits_X1 : ∀ w ∈ wsX10, w ∈ wsX6_pressBits := fun _ h => List.mem_cons_of_mem _ (List.mem_append_left _ (List.mem_append_left _ (List.mem_append_left _ (List.mem_append_left _ (List.mem_append_right _ h)))))
theorem hinX6_pressBits_X2 : ∀ w ∈ wsX20, w ∈ wsX6_pressBits := fun _ h => List.mem_cons_of_mem _ (List.mem_append_left _ (List.mem_append_left _ (List.mem_append_left _ (List.mem_append_right _ h))))
theorem hinX6_pressBits_X4 : ∀ w ∈ wsX40, w ∈ wsX6_pressBits := fun _ h => List.mem_cons_of_mem _ (List.mem_append_left _ (List.mem_append_left _ (List.mem_append_right _ h)))
theorem hinX6_pressBits_X7 : ∀ w ∈ wsX70, w ∈ wsX6_pressBits := fun _ h => List.mem_cons_of_mem _ (List.mem_append_left _ (List.mem_append_right _ h))
theorem hinX6_pressBits_X9 : ∀ w ∈ wsX90, w ∈ wsX6_pressBits := fun _ h => List.mem_cons_of_mem _ (List.mem_append_right _ h)
def xX6_pressBits (pT : zM) (pR : zM) (pP : zP) (v1 : (Option Nat)) (v2 : Int32) (v3 : Int32) : Option (Int32 × zM) :=
  zon v1
  (some ((0 : Int32), pR))
  (fun a1 => if pP.2.2.2 ≤ a1 then none else
  (xv_wishes pT pR pP a1 v2 v3).bind fun q4 =>
  (xX10_guessBits pT v2).bind fun q5 =>
  some ((q4.1 &&& q5), q4.2))
set_option maxHeartbeats 4000000 in
set_option maxRecDepth 100000 in
theorem tX6_pressBits {κ : Nat → ClassId} {tg : Nat} {S : zEn} {ad : Nat → Nat} (hEk : zEk (zE tg S)) {pT : zM} {pR : zM} {pX : zM} {pF : zM} {pB : zM} {pP : zP} {v1 : (Option Nat)} {v2 : Int32} {v3 : Int32} {res : (Int32 × zM)} (h : xX6_pressBits pT pR pP v1 v2 v3 = some res) (l : Launch) (D : va_G) : zCT (zE tg S) D vwCl (zty κ) l yX6_pressBits wsX6_pressBits ({ frames := 4, cells := 0, slots := 0, locals := 96 } : Room) 0 0 [.ref (ad 62), va_rf (v1.map (fun a => ad (81 + a))), .int v2, .int v3] (zwC κ ad pT pR pX pF pB pP) (zPd (some (.int res.1)) (zwC κ ad pT res.2 pX pF pB pP)) := by
  refine zCT.of (cc := cX6_pressBits) (maxL := 4) (ret := (some .int)) (by decide) rfl (by cases v1 <;> exact Nat.le_of_ble_eq_true rfl) ?_
  intro X hC hR
  unfold xX6_pressBits at h
  rw [show lv_args 0 [.ref (ad 62), va_rf (v1.map (fun a => ad (81 + a))), .int v2, .int v3] = [(0, .ref (ad 62)), (1, va_rf (v1.map (fun a => ad (81 + a)))), (2, .int v2), (3, .int v3)] from (by cases v1 <;> rfl)]
  refine zr_aload_nO (pc := 0) hC 1 rfl rfl dX6_pressBits_0 ?_
  refine zr_ifnonnullM (pc := 1) (tgt := 8) hC dX6_pressBits_1 (by decide) (fun a1 e2 => ?_) (fun e2 => ?_)
  · replace h := zon_s e2 h
    have h9 := h
    subst e2
    replace h := h9
    clear h9
    obtain ⟨i3, h⟩ := zgd h
    show zV X 0 0 (zwC κ ad pT pR pX pF pB pP) [(0, .ref (ad 62)), (1, .ref (ad (81 + a1))), (2, .int v2), (3, .int v3)] [] 8
    refine zr_aload_n (pc := 8) hC 1 rfl rfl dX6_pressBits_8 ?_
    refine zr_aload_n (pc := 9) hC 0 rfl rfl dX6_pressBits_9 ?_
    refine zr_iload_n (pc := 10) hC 2 rfl rfl dX6_pressBits_10 ?_
    refine zr_iload_n (pc := 11) hC 3 rfl rfl dX6_pressBits_11 ?_
    obtain ⟨q4, hq4, h⟩ := zbd h
    refine vrX6_pressBits_88 (pc := 12) hC hEk i3 hq4 (rest := []) (Nat.le_of_ble_eq_true rfl) (Nat.le_of_ble_eq_true rfl) (Nat.le_of_ble_eq_true rfl) ⟨Nat.le_of_ble_eq_true rfl, Nat.le_of_ble_eq_true rfl⟩ dX6_pressBits_12 ?_
    refine zr_aload_n (pc := 15) hC 0 rfl rfl dX6_pressBits_15 ?_
    refine zcg_62_0 (pc := 16) hC hinX6_pressBits_X6 flX6_pressBits_67 dX6_pressBits_16 ?_
    refine zr_iload_n (pc := 19) hC 2 rfl rfl dX6_pressBits_19 ?_
    obtain ⟨q5, hq5, h⟩ := zbd h
    refine zr_cVi (pc := 20) hC hEk [.int v2] [.int q4.1] 0 1 (fun l D => tX10_guessBits hEk hq5 l D) gX6_pressBits_X10_guessBits rfl rfl rfl ⟨Nat.le_of_ble_eq_true rfl, Nat.le_of_ble_eq_true rfl⟩ hyX10_guessBits (zNC (by decide)) entC_0 rfl rfl rfl (Nat.le_of_ble_eq_true rfl) ⟨Nat.le_of_ble_eq_true rfl, Nat.le_of_ble_eq_true rfl⟩ dX6_pressBits_20 ?_
    refine zr_iand (pc := 23) hC dX6_pressBits_23 ?_
    obtain rfl := Option.some.inj h
    exact zr_iret hC hR ⟨rfl, rfl⟩ (Nat.le_refl _) (Nat.le_refl _) dX6_pressBits_24
  · replace h := zon_n e2 h
    have h9 := h
    subst e2
    replace h := h9
    clear h9
    show zV X 0 0 (zwC κ ad pT pR pX pF pB pP) [(0, .ref (ad 62)), (1, va_rf ((none : Option Nat).map (fun a => ad (81 + a)))), (2, .int v2), (3, .int v3)] [] 4
    refine zr_iconst (pc := 4) hC zki_0 dX6_pressBits_4 ?_
    refine zr_goto (pc := 5) (tgt := 24) hC dX6_pressBits_5 (by decide) ?_
    obtain rfl := Option.some.inj h
    exact zr_iret hC hR ⟨rfl, rfl⟩ (Nat.le_refl _) (Nat.le_refl _) dX6_pressBits_24
/-! X6_prepare -/
theorem hyX6_prepare : yX6_prepare.cls = RX6 ∧ yX6_prepare.cls ≠ "java/lang/invoke/MethodHandle" ∧ yX6_prepare.cls ≠ "java/lang/invoke/VarHandle" ∧ (parseMethodDescriptor yX6_prepare.desc).map (fun d => d.parameters.length) = some 0 := by decide +kernel
theorem flX6_prepare_11 : Cond.fieldLink RX6 11 "BeforeTheEnd$Race" "players" "[LBeforeTheEnd$Player;" ∈ wsX6_prepare := by decide +kernel
theorem flX6_prepare_17 : Cond.fieldLink RX6 17 "BeforeTheEnd$Race" "count" "I" ∈ wsX6_prepare := by decide +kernel
theorem flX6_prepare_25 : Cond.fieldLink RX6 25 "BeforeTheEnd$Race" "guessing" "[I" ∈ wsX6_prepare := by decide +kernel
theorem flX6_prepare_28 : Cond.fieldLink RX6 28 "BeforeTheEnd$Race" "calm" "[I" ∈ wsX6_prepare := by decide +kernel
theorem flX6_prepare_31 : Cond.fieldLink RX6 31 "BeforeTheEnd$Race" "stirred" "[I" ∈ wsX6_prepare := by decide +kernel
theorem flX6_prepare_67 : Cond.fieldLink RX6 67 "BeforeTheEnd$Race" "tree" "LBeforeTheEnd$Tree;" ∈ wsX6_prepare := by decide +kernel
theorem flX6_prepare_75 : Cond.fieldLink RX6 75 "BeforeTheEnd$Player" "knows" "I" ∈ wsX6_prepare := by decide +kernel
theorem hinX6_prepare_X6 : ∀ w ∈ wsX60, w ∈ wsX6_prepare := fun _ h => List.mem_cons_of_mem _ (List.mem_append_left _ (List.mem_append_left _ (List.mem_append_left _ (List.mem_append_left _ (List.mem_append_left _ (List.mem_append_left _ (List.mem_append_left _ (List.mem_append_right _ h))))))))
theorem hinX6_prepare_X0 : ∀ w ∈ wsX00, w ∈ wsX6_prepare := fun _ h => List.mem_cons_of_mem _ (List.mem_append_left _ (List.mem_append_left _ (List.mem_append_left _ (List.mem_append_left _ (List.mem_append_left _ (List.mem_append_left _ (List.mem_append_right _ h)))))))
theorem hinX6_prepare_X1 : ∀ w ∈ wsX10, w ∈ wsX6_prepare := fun _ h => List.mem_cons_of_mem _ (List.mem_append_left _ (List.mem_append_left _ (List.mem_append_left _ (List.mem_append_left _ (List.mem_append_left _ (List.mem_append_right _ h))))))
theorem hinX6_prepare_X2 : ∀ w ∈ wsX20, w ∈ wsX6_prepare := fun _ h => List.mem_cons_of_mem _ (List.mem_append_left _ (List.mem_append_left _ (List.mem_append_left _ (List.mem_append_left _ (List.mem_append_right _ h)))))
theorem hinX6_prepare_X4 : ∀ w ∈ wsX40, w ∈ wsX6_prepare := fun _ h => List.mem_cons_of_mem _ (List.mem_append_left _ (List.mem_append_left _ (List.mem_append_left _ (List.mem_append_right _ h))))
theorem hinX6_prepare_X7 : ∀ w ∈ wsX70, w ∈ wsX6_prepare := fun _ h => List.mem_cons_of_mem _ (List.mem_append_left _ (List.mem_append_left _ (List.mem_append_right _ h)))
theorem hinX6_prepare_X9 : ∀ w ∈ wsX90, w ∈ wsX6_prepare := fun _ h => List.mem_cons_of_mem _ (List.mem_append_left _ (List.mem_append_right _ h))
theorem hinX6_prepare_X10 : ∀ w ∈ wsX100, w ∈ wsX6_prepare := fun _ h => List.mem_cons_of_mem _ (List.mem_append_right _ h)
def xX6_prepare_L2 (pT : zM) (pP : zP) (w0 : zM) (w1 : Int32) : Option ((zM × Int32) ⊕ zM) :=
  if (4 : Int32) ≤ w1 then
  (some (.inr w0))
  else
  if (w0.1 62 2) ≤ w1 then
  (some (.inr w0))
  else
  if (w1 < 0 ∨ 4 ≤ w1.toNatClampNeg) then none else
  zlet (pP.1 w1.toNatClampNeg) fun z4 =>
  zon z4
  (some (.inl (w0, (w1 + (1 : Int32)))))
  (fun a6 => if pP.2.2.2 ≤ a6 then none else
  (xX10_guessBits pT (pP.2.2.1 a6 2)).bind fun q9 =>
  zlet (zsi w0 65 w1.toNatClampNeg q9) fun M10 =>
  (xX6_pressBits pT M10 pP (some a6) (pP.2.2.1 a6 2) (0 : Int32)).bind fun q12 =>
  zlet (zsi q12.2 66 w1.toNatClampNeg q12.1) fun M13 =>
  (xX6_pressBits pT M13 pP (some a6) (pP.2.2.1 a6 2) (1 : Int32)).bind fun q15 =>
  zlet (zsi q15.2 67 w1.toNatClampNeg q15.1) fun M16 =>
  some (.inl (M16, (w1 + (1 : Int32)))))
set_option maxHeartbeats 4000000 in
set_option maxRecDepth 100000 in
theorem tX6_prepare_L2 {κ : Nat → ClassId} {tg : Nat} {S : zEn} {ad : Nat → Nat} {X : zX} {pX : zM} {pF : zM} {pB : zM} {pT : zM} {pP : zP} {w0 : zM} {w1 : Int32} {r : ((zM × Int32) ⊕ zM)} (hC : zC X cX6_prepare RX6 wsX6_prepare vwCl (zty κ) (zE tg S) 3 ({ frames := 5, cells := 0, slots := 0, locals := 119 } : Room)) (hEk : zEk (zE tg S)) (hin : ∀ (x0' : zM) (x1' : Int32), r = .inl (x0', x1') → zV X 0 0 (zwC κ ad pT x0' pX pF pB pP) [(0, .ref (ad 62)), (1, .int x1')] [] 2) (hout0 : ∀ (x0' : zM), r = .inr x0' → zV X 0 0 (zwC κ ad pT x0' pX pF pB pP) [] [] 84) (h : xX6_prepare_L2 pT pP  w0 w1 = some r) : zV X 0 0 (zwC κ ad pT w0 pX pF pB pP) [(0, .ref (ad 62)), (1, .int w1)] [] 2 := by
  unfold xX6_prepare_L2 at h
  refine zr_iload_n (pc := 2) hC 1 rfl rfl dX6_prepare_2 ?_
  refine zr_iconst (pc := 3) hC zki_4 dX6_prepare_3 ?_
  refine zr_icmp_ge (pc := 4) (tgt := 84) hC dX6_prepare_4 (by decide) (fun c1 => ?_) (fun c1 => ?_)
  · replace h := zip h c1
    obtain rfl := Option.some.inj h
    exact zV.sub (lv' := []) [] rfl (hout0 w0 rfl)
  · replace h := zin h c1
    refine zr_iload_n (pc := 7) hC 1 rfl rfl dX6_prepare_7 ?_
    refine zr_aload_n (pc := 8) hC 0 rfl rfl dX6_prepare_8 ?_
    refine zcg_62_2 (pc := 9) hC hinX6_prepare_X6 flX6_prepare_17 dX6_prepare_9 ?_
    refine zr_icmp_ge (pc := 12) (tgt := 84) hC dX6_prepare_12 (by decide) (fun c2 => ?_) (fun c2 => ?_)
    · replace h := zip h c2
      obtain rfl := Option.some.inj h
      exact zV.sub (lv' := []) [] rfl (hout0 w0 rfl)
    · replace h := zin h c2
      refine zr_aload_n (pc := 15) hC 0 rfl rfl dX6_prepare_15 ?_
      refine zcg_62_1 (pc := 16) hC hinX6_prepare_X6 flX6_prepare_11 dX6_prepare_16 ?_
      refine zr_iload_n (pc := 19) hC 1 rfl rfl dX6_prepare_19 ?_
      obtain ⟨i3, h⟩ := zgd h
      refine zco_63 (pc := 20) hC i3 dX6_prepare_20 ?_
      obtain ⟨z4, e5, h⟩ := zle h
      refine zr_topo e5 ?_
      refine zr_astore_nO (pc := 21) (lv' := [(2, va_rf (z4.map (fun a => ad (81 + a)))), (0, .ref (ad 62)), (1, .int w1)]) hC rfl (by decide) (by cases z4 <;> rfl) dX6_prepare_21 ?_
      refine zr_aload_nO (pc := 22) hC 0 rfl rfl dX6_prepare_22 ?_
      refine zr_ifnonnullM (pc := 23) (tgt := 29) hC dX6_prepare_23 (by decide) (fun a6 e7 => ?_) (fun e7 => ?_)
      · replace h := zon_s e7 h
        have h9 := h
        subst e7
        replace h := h9
        clear h9
        obtain ⟨i8, h⟩ := zgd h
        show zV X 0 0 (zwC κ ad pT w0 pX pF pB pP) [(2, .ref (ad (81 + a6))), (0, .ref (ad 62)), (1, .int w1)] [] 29
        refine zr_aload_n (pc := 29) hC 1 rfl rfl dX6_prepare_29 ?_
        refine zcg_62_4 (pc := 30) hC hinX6_prepare_X6 flX6_prepare_25 dX6_prepare_30 ?_
        refine zr_iload_n (pc := 33) hC 2 rfl rfl dX6_prepare_33 ?_
        refine zr_aload_n (pc := 34) hC 1 rfl rfl dX6_prepare_34 ?_
        refine zcg_62_0 (pc := 35) hC hinX6_prepare_X6 flX6_prepare_67 dX6_prepare_35 ?_
        refine zr_aload_n (pc := 38) hC 0 rfl rfl dX6_prepare_38 ?_
        refine zpg_2 (pc := 39) hC hinX6_prepare_X2 hinX6_prepare_X7 hinX6_prepare_X1 hinX6_prepare_X4 hinX6_prepare_X9 hinX6_prepare_X0 flX6_prepare_75 i8 dX6_prepare_39 ?_
        obtain ⟨q9, hq9, h⟩ := zbd h
        refine zr_cVi (pc := 42) hC hEk [.int (pP.2.2.1 a6 2)] [.int w1, .ref (ad 65)] 0 1 (fun l D => tX10_guessBits hEk hq9 l D) gX6_prepare_X10_guessBits rfl rfl rfl ⟨Nat.le_of_ble_eq_true rfl, Nat.le_of_ble_eq_true rfl⟩ hyX10_guessBits (zNC (by decide)) entC_0 rfl rfl rfl (Nat.le_of_ble_eq_true rfl) ⟨Nat.le_of_ble_eq_true rfl, Nat.le_of_ble_eq_true rfl⟩ dX6_prepare_42 ?_
        obtain ⟨M10, e11, h⟩ := zle h
        refine zcs_65 (pc := 45) hC i3 e11 dX6_prepare_45 ?_
        refine zr_aload_n (pc := 46) hC 1 rfl rfl dX6_prepare_46 ?_
        refine zcg_62_5 (pc := 47) hC hinX6_prepare_X6 flX6_prepare_28 dX6_prepare_47 ?_
        refine zr_iload_n (pc := 50) hC 2 rfl rfl dX6_prepare_50 ?_
        refine zr_aload_n (pc := 51) hC 1 rfl rfl dX6_prepare_51 ?_
        refine zr_aload_n (pc := 52) hC 0 rfl rfl dX6_prepare_52 ?_
        refine zr_aload_n (pc := 53) hC 0 rfl rfl dX6_prepare_53 ?_
        refine zpg_2 (pc := 54) hC hinX6_prepare_X2 hinX6_prepare_X7 hinX6_prepare_X1 hinX6_prepare_X4 hinX6_prepare_X9 hinX6_prepare_X0 flX6_prepare_75 i8 dX6_prepare_54 ?_
        refine zr_iconst (pc := 57) hC zki_0 dX6_prepare_57 ?_
        obtain ⟨q12, hq12, h⟩ := zbd h
        refine zr_cVi (pc := 58) hC hEk [.ref (ad (81 + a6)), .int (pP.2.2.1 a6 2), .int (0 : Int32)] [.int w1, .ref (ad 66)] 62 3 (fun l D => tX6_pressBits hEk hq12 l D) gX6_prepare_X6_pressBits rfl rfl rfl ⟨Nat.le_of_ble_eq_true rfl, Nat.le_of_ble_eq_true rfl⟩ hyX6_pressBits (zNC (by decide)) entC_62 rfl rfl rfl (Nat.le_of_ble_eq_true rfl) ⟨Nat.le_of_ble_eq_true rfl, Nat.le_of_ble_eq_true rfl⟩ dX6_prepare_58 ?_
        obtain ⟨M13, e14, h⟩ := zle h
        refine zcs_66 (pc := 61) hC i3 e14 dX6_prepare_61 ?_
        refine zr_aload_n (pc := 62) hC 1 rfl rfl dX6_prepare_62 ?_
        refine zcg_62_6 (pc := 63) hC hinX6_prepare_X6 flX6_prepare_31 dX6_prepare_63 ?_
        refine zr_iload_n (pc := 66) hC 2 rfl rfl dX6_prepare_66 ?_
        refine zr_aload_n (pc := 67) hC 1 rfl rfl dX6_prepare_67 ?_
        refine zr_aload_n (pc := 68) hC 0 rfl rfl dX6_prepare_68 ?_
        refine zr_aload_n (pc := 69) hC 0 rfl rfl dX6_prepare_69 ?_
        refine zpg_2 (pc := 70) hC hinX6_prepare_X2 hinX6_prepare_X7 hinX6_prepare_X1 hinX6_prepare_X4 hinX6_prepare_X9 hinX6_prepare_X0 flX6_prepare_75 i8 dX6_prepare_70 ?_
        refine zr_iconst (pc := 73) hC zki_1 dX6_prepare_73 ?_
        obtain ⟨q15, hq15, h⟩ := zbd h
        refine zr_cVi (pc := 74) hC hEk [.ref (ad (81 + a6)), .int (pP.2.2.1 a6 2), .int (1 : Int32)] [.int w1, .ref (ad 67)] 62 3 (fun l D => tX6_pressBits hEk hq15 l D) gX6_prepare_X6_pressBits rfl rfl rfl ⟨Nat.le_of_ble_eq_true rfl, Nat.le_of_ble_eq_true rfl⟩ hyX6_pressBits (zNC (by decide)) entC_62 rfl rfl rfl (Nat.le_of_ble_eq_true rfl) ⟨Nat.le_of_ble_eq_true rfl, Nat.le_of_ble_eq_true rfl⟩ dX6_prepare_74 ?_
        obtain ⟨M16, e17, h⟩ := zle h
        refine zcs_67 (pc := 77) hC i3 e17 dX6_prepare_77 ?_
        refine zr_iinc (pc := 78) (k := 2) (lv' := [(1, .int (w1 + (1 : Int32))), (2, .ref (ad (81 + a6))), (0, .ref (ad 62))]) hC zki_1 (by decide) rfl rfl dX6_prepare_78 ?_
        refine zr_goto (pc := 81) (tgt := 2) hC dX6_prepare_81 (by decide) ?_
        obtain rfl := Option.some.inj h
        exact zV.sub (lv' := [(0, .ref (ad 62)), (1, .int (w1 + (1 : Int32)))]) [2, 0] rfl (hin M16 (w1 + (1 : Int32)) rfl)
      · replace h := zon_n e7 h
        have h9 := h
        subst e7
        replace h := h9
        clear h9
        show zV X 0 0 (zwC κ ad pT w0 pX pF pB pP) [(2, va_rf ((none : Option Nat).map (fun a => ad (81 + a)))), (0, .ref (ad 62)), (1, .int w1)] [] 26
        refine zr_goto (pc := 26) (tgt := 78) hC dX6_prepare_26 (by decide) ?_
        refine zr_iinc (pc := 78) (k := 2) (lv' := [(1, .int (w1 + (1 : Int32))), (2, va_rf ((none : Option Nat).map (fun a => ad (81 + a)))), (0, .ref (ad 62))]) hC zki_1 (by decide) rfl rfl dX6_prepare_78 ?_
        refine zr_goto (pc := 81) (tgt := 2) hC dX6_prepare_81 (by decide) ?_
        obtain rfl := Option.some.inj h
        exact zV.sub (lv' := [(0, .ref (ad 62)), (1, .int (w1 + (1 : Int32)))]) [2, 0] rfl (hin w0 (w1 + (1 : Int32)) rfl)
def xX6_prepare (pT : zM) (pR : zM) (pP : zP)  : Option zM :=
  (x_it (fun a9 => xX6_prepare_L2 pT pP a9.1 a9.2) zFU (pR, (0 : Int32))).bind fun q1 =>
  some q1
set_option maxHeartbeats 4000000 in
set_option maxRecDepth 100000 in
theorem tX6_prepare {κ : Nat → ClassId} {tg : Nat} {S : zEn} {ad : Nat → Nat} (hEk : zEk (zE tg S)) {pT : zM} {pR : zM} {pX : zM} {pF : zM} {pB : zM} {pP : zP}  {res : zM} (h : xX6_prepare pT pR pP  = some res) (l : Launch) (D : va_G) : zCT (zE tg S) D vwCl (zty κ) l yX6_prepare wsX6_prepare ({ frames := 5, cells := 0, slots := 0, locals := 119 } : Room) 0 0 [.ref (ad 62)] (zwC κ ad pT pR pX pF pB pP) (zPd none (zwC κ ad pT res pX pF pB pP)) := by
  refine zCT.of (cc := cX6_prepare) (maxL := 3) (ret := none) (by decide) rfl (Nat.le_of_ble_eq_true rfl) ?_
  intro X hC hR
  unfold xX6_prepare at h
  refine zV.sub (lv' := [(0, .ref (ad 62))]) [0] rfl ?_
  refine zr_iconst (pc := 0) hC zki_0 dX6_prepare_0 ?_
  refine zr_istore_n (pc := 1) (lv' := [(1, .int (0 : Int32)), (0, .ref (ad 62))]) hC rfl (by decide) rfl dX6_prepare_1 ?_
  obtain ⟨q1, hq1, h⟩ := zbd h
  refine zV.sub (lv' := [(0, .ref (ad 62)), (1, .int (0 : Int32))]) [1, 0] rfl ?_
  refine zit2 (Wp := fun (y0 : zM) (y1 : Int32) => zV X 0 0 (zwC κ ad pT y0 pX pF pB pP) [(0, .ref (ad 62)), (1, .int y1)] [] 2) (Ex := fun (b9 : zM) => zV X 0 0 (zwC κ ad pT b9 pX pF pB pP) [] [] 84) (fun y0 y1 r9 hr hin hout => tX6_prepare_L2 hC hEk hin (fun z0 e9 => hout z0 e9) hr) zFU pR (0 : Int32) q1 hq1 ?_
  show zV X 0 0 (zwC κ ad pT q1 pX pF pB pP) [] [] 84
  obtain rfl := Option.some.inj h
  exact zr_vret hC hR ⟨rfl, rfl⟩ (Nat.le_refl _) (Nat.le_refl _) dX6_prepare_84
/-! X10_wayTo -/
theorem hyX10_wayTo : yX10_wayTo.cls = RX10 ∧ yX10_wayTo.cls ≠ "java/lang/invoke/MethodHandle" ∧ yX10_wayTo.cls ≠ "java/lang/invoke/VarHandle" ∧ (parseMethodDescriptor yX10_wayTo.desc).map (fun d => d.parameters.length) = some 1 := by decide +kernel
theorem flX10_wayTo_33 : Cond.fieldLink RX10 33 "BeforeTheEnd$Tree" "way" "[I" ∈ wsX10_wayTo := by decide +kernel
theorem hinX10_wayTo_X10 : ∀ w ∈ wsX100, w ∈ wsX10_wayTo := fun _ h => List.mem_cons_of_mem _ (List.mem_append_right _ h)
def xX10_wayTo (pT : zM) (v1 : Int32) : Option Int32 :=
  (xX10_has pT v1).bind fun q1 =>
  if q1 = 0 then
  (some (0 : Int32))
  else
  if (v1 < 0 ∨ 24 ≤ v1.toNatClampNeg) then none else
  some (pT.1 8 v1.toNatClampNeg)
set_option maxHeartbeats 4000000 in
set_option maxRecDepth 100000 in
theorem tX10_wayTo {κ : Nat → ClassId} {tg : Nat} {S : zEn} {ad : Nat → Nat} (hEk : zEk (zE tg S)) {pT : zM} {pR : zM} {pX : zM} {pF : zM} {pB : zM} {pP : zP} {v1 : Int32} {res : Int32} (h : xX10_wayTo pT v1 = some res) (l : Launch) (D : va_G) : zCT (zE tg S) D vwCl (zty κ) l yX10_wayTo wsX10_wayTo ({ frames := 1, cells := 0, slots := 0, locals := 21 } : Room) 0 0 [.ref (ad 0), .int v1] (zwC κ ad pT pR pX pF pB pP) (zPd (some (.int res)) (zwC κ ad pT pR pX pF pB pP)) := by
  refine zCT.of (cc := cX10_wayTo) (maxL := 2) (ret := (some .int)) (by decide) rfl (Nat.le_of_ble_eq_true rfl) ?_
  intro X hC hR
  unfold xX10_wayTo at h
  refine zV.sub (lv' := [(0, .ref (ad 0)), (1, .int v1)]) [0, 1] rfl ?_
  refine zr_aload_n (pc := 0) hC 0 rfl rfl dX10_wayTo_0 ?_
  refine zr_iload_n (pc := 1) hC 1 rfl rfl dX10_wayTo_1 ?_
  obtain ⟨q1, hq1, h⟩ := zbd h
  refine zr_cVi (pc := 2) hC hEk [.int v1] [] 0 1 (fun l D => tX10_has hEk hq1 l D) gX10_wayTo_X10_has rfl rfl rfl ⟨Nat.le_of_ble_eq_true rfl, Nat.le_of_ble_eq_true rfl⟩ hyX10_has (zNC (by decide)) entC_0 rfl rfl rfl (Nat.le_of_ble_eq_true rfl) ⟨Nat.le_of_ble_eq_true rfl, Nat.le_of_ble_eq_true rfl⟩ dX10_wayTo_2 ?_
  refine zr_if_eq (pc := 5) (tgt := 17) hC dX10_wayTo_5 (by decide) (fun c2 => ?_) (fun c2 => ?_)
  · replace h := zip h c2
    refine zr_iconst (pc := 17) hC zki_0 dX10_wayTo_17 ?_
    obtain rfl := Option.some.inj h
    exact zr_iret hC hR ⟨rfl, rfl⟩ (Nat.le_refl _) (Nat.le_refl _) dX10_wayTo_18
  · replace h := zin h c2
    refine zr_aload_n (pc := 8) hC 0 rfl rfl dX10_wayTo_8 ?_
    refine zcg_0_7 (pc := 9) hC hinX10_wayTo_X10 flX10_wayTo_33 dX10_wayTo_9 ?_
    refine zr_iload_n (pc := 12) hC 1 rfl rfl dX10_wayTo_12 ?_
    obtain ⟨i3, h⟩ := zgd h
    refine zcl_8 (pc := 13) hC i3 dX10_wayTo_13 ?_
    refine zr_goto (pc := 14) (tgt := 18) hC dX10_wayTo_14 (by decide) ?_
    obtain rfl := Option.some.inj h
    exact zr_iret hC hR ⟨rfl, rfl⟩ (Nat.le_refl _) (Nat.le_refl _) dX10_wayTo_18
/-! X6_quickest -/
theorem hyX6_quickest : yX6_quickest.cls = RX6 ∧ yX6_quickest.cls ≠ "java/lang/invoke/MethodHandle" ∧ yX6_quickest.cls ≠ "java/lang/invoke/VarHandle" ∧ (parseMethodDescriptor yX6_quickest.desc).map (fun d => d.parameters.length) = some 1 := by decide +kernel
theorem flX6_quickest_102 : Cond.fieldLink RX6 102 "BeforeTheEnd$Player" "hand" "I" ∈ wsX6_quickest := by decide +kernel
theorem flX6_quickest_11 : Cond.fieldLink RX6 11 "BeforeTheEnd$Race" "players" "[LBeforeTheEnd$Player;" ∈ wsX6_quickest := by decide +kernel
theorem flX6_quickest_17 : Cond.fieldLink RX6 17 "BeforeTheEnd$Race" "count" "I" ∈ wsX6_quickest := by decide +kernel
theorem flX6_quickest_28 : Cond.fieldLink RX6 28 "BeforeTheEnd$Race" "calm" "[I" ∈ wsX6_quickest := by decide +kernel
theorem flX6_quickest_31 : Cond.fieldLink RX6 31 "BeforeTheEnd$Race" "stirred" "[I" ∈ wsX6_quickest := by decide +kernel
theorem flX6_quickest_46 : Cond.fieldLink RX6 46 "BeforeTheEnd$Race" "out" "I" ∈ wsX6_quickest := by decide +kernel
theorem hinX6_quickest_X6 : ∀ w ∈ wsX60, w ∈ wsX6_quickest := fun _ h => List.mem_cons_of_mem _ (List.mem_append_left _ (List.mem_append_left _ (List.mem_append_left _ (List.mem_append_left _ (List.mem_append_left _ (List.mem_append_left _ (List.mem_append_right _ h)))))))
theorem hinX6_quickest_X0 : ∀ w ∈ wsX00, w ∈ wsX6_quickest := fun _ h => List.mem_cons_of_mem _ (List.mem_append_left _ (List.mem_append_left _ (List.mem_append_left _ (List.mem_append_left _ (List.mem_append_left _ (List.mem_append_right _ h))))))
theorem hinX6_quickest_X1 : ∀ w ∈ wsX10, w ∈ wsX6_quickest := fun _ h => List.mem_cons_of_mem _ (List.mem_append_left _ (List.mem_append_left _ (List.mem_append_left _ (List.mem_append_left _ (List.mem_append_right _ h)))))
theorem hinX6_quickest_X2 : ∀ w ∈ wsX20, w ∈ wsX6_quickest := fun _ h => List.mem_cons_of_mem _ (List.mem_append_left _ (List.mem_append_left _ (List.mem_append_left _ (List.mem_append_right _ h))))
theorem hinX6_quickest_X4 : ∀ w ∈ wsX40, w ∈ wsX6_quickest := fun _ h => List.mem_cons_of_mem _ (List.mem_append_left _ (List.mem_append_left _ (List.mem_append_right _ h)))
theorem hinX6_quickest_X7 : ∀ w ∈ wsX70, w ∈ wsX6_quickest := fun _ h => List.mem_cons_of_mem _ (List.mem_append_left _ (List.mem_append_right _ h))
theorem hinX6_quickest_X9 : ∀ w ∈ wsX90, w ∈ wsX6_quickest := fun _ h => List.mem_cons_of_mem _ (List.mem_append_right _ h)
def xX6_quickest_b57_9 (pR : zM) (pP : zP) (v1 : Int32) (v2 : Int32) (v3 : Int32) (v4 : Int32) (v5 : (Option Nat)) (s0 : Int32) : Option ((Int32 × Int32 × Int32) ⊕ Int32) :=
  if ((s0 >>> (v1 &&& 31)) &&& (1 : Int32)) = (1 : Int32) then
  (if (((pR.1 62 11) >>> (v4 &&& 31)) &&& (1 : Int32)) = 0 then
  (zon v5
  (some (.inl (v2, v3, (v4 + (1 : Int32)))))
  (fun a3 => if pP.2.2.2 ≤ a3 then none else
  if v3 ≤ (pP.2.2.1 a3 0) then
  (some (.inl (v2, v3, (v4 + (1 : Int32)))))
  else
  zlet (pP.2.2.1 a3 0) fun z7 =>
  some (.inl (v4, z7, (v4 + (1 : Int32))))))
  else
  some (.inl (v2, v3, (v4 + (1 : Int32)))))
  else
  some (.inl (v2, v3, (v4 + (1 : Int32))))
set_option maxHeartbeats 4000000 in
set_option maxRecDepth 100000 in
theorem tX6_quickest_b57_9 {κ : Nat → ClassId} {tg : Nat} {S : zEn} {ad : Nat → Nat} {X : zX} {pT : zM} {pX : zM} {pF : zM} {pB : zM} {pR : zM} {pP : zP} {v1 : Int32} {v2 : Int32} {v3 : Int32} {v4 : Int32} {v5 : (Option Nat)} {s0 : Int32} {r : ((Int32 × Int32 × Int32) ⊕ Int32)} (hC : zC X cX6_quickest RX6 wsX6_quickest vwCl (zty κ) (zE tg S) 8 ({ frames := 0, cells := 0, slots := 0, locals := 0 } : Room)) (hEk : zEk (zE tg S)) (hin : ∀ (x0' : Int32) (x1' : Int32) (x2' : Int32), r = .inl (x0', x1', x2') → zV X 0 0 (zwC κ ad pT pR pX pF pB pP) [(0, .ref (ad 62)), (1, .int v1), (2, .int x0'), (3, .int x1'), (4, .int x2')] [] 9) (hout0 : ∀ (x0' : Int32), r = .inr x0' → zV X 0 0 (zwC κ ad pT pR pX pF pB pP) [(2, .int x0')] [] 122) (h : xX6_quickest_b57_9 pR pP v1 v2 v3 v4 v5 s0 = some r) : zV X 0 0 (zwC κ ad pT pR pX pF pB pP) [(0, .ref (ad 62)), (1, .int v1), (2, .int v2), (3, .int v3), (4, .int v4), (5, va_rf (v5.map (fun a => ad (81 + a))))] [.int s0] 57 := by
  unfold xX6_quickest_b57_9 at h
  refine zr_istore (pc := 57) (lv' := [(6, .int s0), (0, .ref (ad 62)), (1, .int v1), (2, .int v2), (3, .int v3), (4, .int v4), (5, va_rf (v5.map (fun a => ad (81 + a))))]) hC (by decide) (by cases v5 <;> rfl) dX6_quickest_57 ?_
  refine zr_iload (pc := 59) hC 0 rfl dX6_quickest_59 ?_
  refine zr_iload_n (pc := 61) hC 2 rfl rfl dX6_quickest_61 ?_
  refine zr_ishr (pc := 62) hC dX6_quickest_62 ?_
  refine zr_iconst (pc := 63) hC zki_1 dX6_quickest_63 ?_
  refine zr_iand (pc := 64) hC dX6_quickest_64 ?_
  refine zr_iconst (pc := 65) hC zki_1 dX6_quickest_65 ?_
  refine zr_icmp_ne (pc := 66) (tgt := 85) hC dX6_quickest_66 (by decide) (fun c1 => ?_) (fun c1 => ?_)
  · replace h := zin h c1
    refine zr_iconst (pc := 85) hC zki_0 dX6_quickest_85 ?_
    refine zr_istore (pc := 86) (lv' := [(7, .int (0 : Int32)), (6, .int s0), (0, .ref (ad 62)), (1, .int v1), (2, .int v2), (3, .int v3), (4, .int v4), (5, va_rf (v5.map (fun a => ad (81 + a))))]) hC (by decide) (by cases v5 <;> rfl) dX6_quickest_86 ?_
    refine zr_iload (pc := 88) hC 0 rfl dX6_quickest_88 ?_
    refine zr_if_eq (pc := 90) (tgt := 116) hC dX6_quickest_90 (by decide) (fun _ => ?_) (fun c => absurd c (by decide))
    refine zr_iinc (pc := 116) (k := 6) (lv' := [(4, .int (v4 + (1 : Int32))), (7, .int (0 : Int32)), (6, .int s0), (0, .ref (ad 62)), (1, .int v1), (2, .int v2), (3, .int v3), (5, va_rf (v5.map (fun a => ad (81 + a))))]) hC zki_1 (by decide) rfl (by cases v5 <;> rfl) dX6_quickest_116 ?_
    refine zr_goto (pc := 119) (tgt := 9) hC dX6_quickest_119 (by decide) ?_
    obtain rfl := Option.some.inj h
    exact zV.sub (lv' := [(0, .ref (ad 62)), (1, .int v1), (2, .int v2), (3, .int v3), (4, .int (v4 + (1 : Int32)))]) [3, 4, 5, 6, 0] rfl (hin v2 v3 (v4 + (1 : Int32)) rfl)
  · replace h := zip h c1
    refine zr_aload_n (pc := 69) hC 1 rfl rfl dX6_quickest_69 ?_
    refine zcg_62_11 (pc := 70) hC hinX6_quickest_X6 flX6_quickest_46 dX6_quickest_70 ?_
    refine zr_iload (pc := 73) hC 5 rfl dX6_quickest_73 ?_
    refine zr_ishr (pc := 75) hC dX6_quickest_75 ?_
    refine zr_iconst (pc := 76) hC zki_1 dX6_quickest_76 ?_
    refine zr_iand (pc := 77) hC dX6_quickest_77 ?_
    refine zr_if_ne (pc := 78) (tgt := 85) hC dX6_quickest_78 (by decide) (fun c2 => ?_) (fun c2 => ?_)
    · replace h := zin h c2
      refine zr_iconst (pc := 85) hC zki_0 dX6_quickest_85 ?_
      refine zr_istore (pc := 86) (lv' := [(7, .int (0 : Int32)), (6, .int s0), (0, .ref (ad 62)), (1, .int v1), (2, .int v2), (3, .int v3), (4, .int v4), (5, va_rf (v5.map (fun a => ad (81 + a))))]) hC (by decide) (by cases v5 <;> rfl) dX6_quickest_86 ?_
      refine zr_iload (pc := 88) hC 0 rfl dX6_quickest_88 ?_
      refine zr_if_eq (pc := 90) (tgt := 116) hC dX6_quickest_90 (by decide) (fun _ => ?_) (fun c => absurd c (by decide))
      refine zr_iinc (pc := 116) (k := 6) (lv' := [(4, .int (v4 + (1 : Int32))), (7, .int (0 : Int32)), (6, .int s0), (0, .ref (ad 62)), (1, .int v1), (2, .int v2), (3, .int v3), (5, va_rf (v5.map (fun a => ad (81 + a))))]) hC zki_1 (by decide) rfl (by cases v5 <;> rfl) dX6_quickest_116 ?_
      refine zr_goto (pc := 119) (tgt := 9) hC dX6_quickest_119 (by decide) ?_
      obtain rfl := Option.some.inj h
      exact zV.sub (lv' := [(0, .ref (ad 62)), (1, .int v1), (2, .int v2), (3, .int v3), (4, .int (v4 + (1 : Int32)))]) [3, 4, 5, 6, 0] rfl (hin v2 v3 (v4 + (1 : Int32)) rfl)
    · replace h := zip h c2
      refine zr_iconst (pc := 81) hC zki_1 dX6_quickest_81 ?_
      refine zr_goto (pc := 82) (tgt := 86) hC dX6_quickest_82 (by decide) ?_
      refine zr_istore (pc := 86) (lv' := [(7, .int (1 : Int32)), (6, .int s0), (0, .ref (ad 62)), (1, .int v1), (2, .int v2), (3, .int v3), (4, .int v4), (5, va_rf (v5.map (fun a => ad (81 + a))))]) hC (by decide) (by cases v5 <;> rfl) dX6_quickest_86 ?_
      refine zr_iload (pc := 88) hC 0 rfl dX6_quickest_88 ?_
      refine zr_if_eq (pc := 90) (tgt := 116) hC dX6_quickest_90 (by decide) (fun c => absurd c (by decide)) (fun _ => ?_)
      refine zr_aloadO (pc := 93) hC 7 rfl dX6_quickest_93 ?_
      refine zr_ifnullM (pc := 95) (tgt := 116) hC dX6_quickest_95 (by decide) (fun e4 => ?_) (fun a3 e4 => ?_)
      · replace h := zon_n e4 h
        have h9 := h
        subst e4
        replace h := h9
        clear h9
        show zV X 0 0 (zwC κ ad pT pR pX pF pB pP) [(7, .int (1 : Int32)), (6, .int s0), (0, .ref (ad 62)), (1, .int v1), (2, .int v2), (3, .int v3), (4, .int v4), (5, va_rf ((none : Option Nat).map (fun a => ad (81 + a))))] [] 116
        refine zr_iinc (pc := 116) (k := 6) (lv' := [(4, .int (v4 + (1 : Int32))), (7, .int (1 : Int32)), (6, .int s0), (0, .ref (ad 62)), (1, .int v1), (2, .int v2), (3, .int v3), (5, va_rf ((none : Option Nat).map (fun a => ad (81 + a))))]) hC zki_1 (by decide) rfl rfl dX6_quickest_116 ?_
        refine zr_goto (pc := 119) (tgt := 9) hC dX6_quickest_119 (by decide) ?_
        obtain rfl := Option.some.inj h
        exact zV.sub (lv' := [(0, .ref (ad 62)), (1, .int v1), (2, .int v2), (3, .int v3), (4, .int (v4 + (1 : Int32)))]) [3, 4, 5, 6, 0] rfl (hin v2 v3 (v4 + (1 : Int32)) rfl)
      · replace h := zon_s e4 h
        have h9 := h
        subst e4
        replace h := h9
        clear h9
        obtain ⟨i5, h⟩ := zgd h
        show zV X 0 0 (zwC κ ad pT pR pX pF pB pP) [(7, .int (1 : Int32)), (6, .int s0), (0, .ref (ad 62)), (1, .int v1), (2, .int v2), (3, .int v3), (4, .int v4), (5, .ref (ad (81 + a3)))] [] 98
        refine zr_aload (pc := 98) hC 7 rfl dX6_quickest_98 ?_
        refine zpg_0 (pc := 100) hC hinX6_quickest_X2 hinX6_quickest_X7 hinX6_quickest_X1 hinX6_quickest_X4 hinX6_quickest_X9 hinX6_quickest_X0 flX6_quickest_102 i5 dX6_quickest_100 ?_
        refine zr_iload_n (pc := 103) hC 5 rfl rfl dX6_quickest_103 ?_
        refine zr_icmp_ge (pc := 104) (tgt := 116) hC dX6_quickest_104 (by decide) (fun c6 => ?_) (fun c6 => ?_)
        · replace h := zip h c6
          refine zr_iinc (pc := 116) (k := 6) (lv' := [(4, .int (v4 + (1 : Int32))), (7, .int (1 : Int32)), (6, .int s0), (0, .ref (ad 62)), (1, .int v1), (2, .int v2), (3, .int v3), (5, .ref (ad (81 + a3)))]) hC zki_1 (by decide) rfl rfl dX6_quickest_116 ?_
          refine zr_goto (pc := 119) (tgt := 9) hC dX6_quickest_119 (by decide) ?_
          obtain rfl := Option.some.inj h
          exact zV.sub (lv' := [(0, .ref (ad 62)), (1, .int v1), (2, .int v2), (3, .int v3), (4, .int (v4 + (1 : Int32)))]) [3, 4, 5, 6, 0] rfl (hin v2 v3 (v4 + (1 : Int32)) rfl)
        · replace h := zin h c6
          refine zr_aload (pc := 107) hC 7 rfl dX6_quickest_107 ?_
          refine zpg_0 (pc := 109) hC hinX6_quickest_X2 hinX6_quickest_X7 hinX6_quickest_X1 hinX6_quickest_X4 hinX6_quickest_X9 hinX6_quickest_X0 flX6_quickest_102 i5 dX6_quickest_109 ?_
          obtain ⟨z7, e8, h⟩ := zle h
          refine zr_topi e8 ?_
          refine zr_istore_n (pc := 112) (lv' := [(3, .int z7), (7, .int (1 : Int32)), (6, .int s0), (0, .ref (ad 62)), (1, .int v1), (2, .int v2), (4, .int v4), (5, .ref (ad (81 + a3)))]) hC rfl (by decide) rfl dX6_quickest_112 ?_
          refine zr_iload (pc := 113) hC 6 rfl dX6_quickest_113 ?_
          refine zr_istore_n (pc := 115) (lv' := [(2, .int v4), (3, .int z7), (7, .int (1 : Int32)), (6, .int s0), (0, .ref (ad 62)), (1, .int v1), (4, .int v4), (5, .ref (ad (81 + a3)))]) hC rfl (by decide) rfl dX6_quickest_115 ?_
          refine zr_iinc (pc := 116) (k := 6) (lv' := [(4, .int (v4 + (1 : Int32))), (2, .int v4), (3, .int z7), (7, .int (1 : Int32)), (6, .int s0), (0, .ref (ad 62)), (1, .int v1), (5, .ref (ad (81 + a3)))]) hC zki_1 (by decide) rfl rfl dX6_quickest_116 ?_
          refine zr_goto (pc := 119) (tgt := 9) hC dX6_quickest_119 (by decide) ?_
          obtain rfl := Option.some.inj h
          exact zV.sub (lv' := [(0, .ref (ad 62)), (1, .int v1), (2, .int v4), (3, .int z7), (4, .int (v4 + (1 : Int32)))]) [5, 6, 1, 2, 0] rfl (hin v4 z7 (v4 + (1 : Int32)) rfl)
def xX6_quickest_L9 (pR : zM) (pP : zP) (v1 : Int32) (w0 : Int32) (w1 : Int32) (w2 : Int32) : Option ((Int32 × Int32 × Int32) ⊕ Int32) :=
  if (4 : Int32) ≤ w2 then
  (some (.inr w0))
  else
  if (pR.1 62 2) ≤ w2 then
  (some (.inr w0))
  else
  if (w2 < 0 ∨ 4 ≤ w2.toNatClampNeg) then none else
  zlet (pP.1 w2.toNatClampNeg) fun z4 =>
  if (pR.1 62 11) = 0 then
  (xX6_quickest_b57_9 pR pP v1 w0 w1 w2 z4 (pR.1 66 w2.toNatClampNeg))
  else
  xX6_quickest_b57_9 pR pP v1 w0 w1 w2 z4 (pR.1 67 w2.toNatClampNeg)
set_option maxHeartbeats 4000000 in
set_option maxRecDepth 100000 in
theorem tX6_quickest_L9 {κ : Nat → ClassId} {tg : Nat} {S : zEn} {ad : Nat → Nat} {X : zX} {pT : zM} {pX : zM} {pF : zM} {pB : zM} {pR : zM} {pP : zP} {v1 : Int32} {w0 : Int32} {w1 : Int32} {w2 : Int32} {r : ((Int32 × Int32 × Int32) ⊕ Int32)} (hC : zC X cX6_quickest RX6 wsX6_quickest vwCl (zty κ) (zE tg S) 8 ({ frames := 0, cells := 0, slots := 0, locals := 0 } : Room)) (hEk : zEk (zE tg S)) (hin : ∀ (x0' : Int32) (x1' : Int32) (x2' : Int32), r = .inl (x0', x1', x2') → zV X 0 0 (zwC κ ad pT pR pX pF pB pP) [(0, .ref (ad 62)), (1, .int v1), (2, .int x0'), (3, .int x1'), (4, .int x2')] [] 9) (hout0 : ∀ (x0' : Int32), r = .inr x0' → zV X 0 0 (zwC κ ad pT pR pX pF pB pP) [(2, .int x0')] [] 122) (h : xX6_quickest_L9 pR pP v1 w0 w1 w2 = some r) : zV X 0 0 (zwC κ ad pT pR pX pF pB pP) [(0, .ref (ad 62)), (1, .int v1), (2, .int w0), (3, .int w1), (4, .int w2)] [] 9 := by
  unfold xX6_quickest_L9 at h
  refine zr_iload (pc := 9) hC 4 rfl dX6_quickest_9 ?_
  refine zr_iconst (pc := 11) hC zki_4 dX6_quickest_11 ?_
  refine zr_icmp_ge (pc := 12) (tgt := 122) hC dX6_quickest_12 (by decide) (fun c1 => ?_) (fun c1 => ?_)
  · replace h := zip h c1
    obtain rfl := Option.some.inj h
    exact zV.sub (lv' := [(2, .int w0)]) [2] rfl (hout0 w0 rfl)
  · replace h := zin h c1
    refine zr_iload (pc := 15) hC 4 rfl dX6_quickest_15 ?_
    refine zr_aload_n (pc := 17) hC 0 rfl rfl dX6_quickest_17 ?_
    refine zcg_62_2 (pc := 18) hC hinX6_quickest_X6 flX6_quickest_17 dX6_quickest_18 ?_
    refine zr_icmp_ge (pc := 21) (tgt := 122) hC dX6_quickest_21 (by decide) (fun c2 => ?_) (fun c2 => ?_)
    · replace h := zip h c2
      obtain rfl := Option.some.inj h
      exact zV.sub (lv' := [(2, .int w0)]) [2] rfl (hout0 w0 rfl)
    · replace h := zin h c2
      refine zr_aload_n (pc := 24) hC 0 rfl rfl dX6_quickest_24 ?_
      refine zcg_62_1 (pc := 25) hC hinX6_quickest_X6 flX6_quickest_11 dX6_quickest_25 ?_
      refine zr_iload (pc := 28) hC 4 rfl dX6_quickest_28 ?_
      obtain ⟨i3, h⟩ := zgd h
      refine zco_63 (pc := 30) hC i3 dX6_quickest_30 ?_
      obtain ⟨z4, e5, h⟩ := zle h
      refine zr_topo e5 ?_
      refine zr_astoreO (pc := 31) (lv' := [(5, va_rf (z4.map (fun a => ad (81 + a)))), (0, .ref (ad 62)), (1, .int v1), (2, .int w0), (3, .int w1), (4, .int w2)]) hC (by decide) (by cases z4 <;> rfl) dX6_quickest_31 ?_
      refine zr_aload_n (pc := 33) hC 1 rfl rfl dX6_quickest_33 ?_
      refine zcg_62_11 (pc := 34) hC hinX6_quickest_X6 flX6_quickest_46 dX6_quickest_34 ?_
      refine zr_if_ne (pc := 37) (tgt := 50) hC dX6_quickest_37 (by decide) (fun c6 => ?_) (fun c6 => ?_)
      · replace h := zin h c6
        refine zr_aload_n (pc := 50) hC 1 rfl rfl dX6_quickest_50 ?_
        refine zcg_62_6 (pc := 51) hC hinX6_quickest_X6 flX6_quickest_31 dX6_quickest_51 ?_
        refine zr_iload (pc := 54) hC 5 rfl dX6_quickest_54 ?_
        refine zcl_67 (pc := 56) hC i3 dX6_quickest_56 ?_
        exact zV.sub (lv' := [(0, .ref (ad 62)), (1, .int v1), (2, .int w0), (3, .int w1), (4, .int w2), (5, va_rf (z4.map (fun a => ad (81 + a))))]) [1, 2, 3, 4, 5, 0] rfl (tX6_quickest_b57_9 hC hEk hin hout0 h)
      · replace h := zip h c6
        refine zr_aload_n (pc := 40) hC 1 rfl rfl dX6_quickest_40 ?_
        refine zcg_62_5 (pc := 41) hC hinX6_quickest_X6 flX6_quickest_28 dX6_quickest_41 ?_
        refine zr_iload (pc := 44) hC 5 rfl dX6_quickest_44 ?_
        refine zcl_66 (pc := 46) hC i3 dX6_quickest_46 ?_
        refine zr_goto (pc := 47) (tgt := 57) hC dX6_quickest_47 (by decide) ?_
        exact zV.sub (lv' := [(0, .ref (ad 62)), (1, .int v1), (2, .int w0), (3, .int w1), (4, .int w2), (5, va_rf (z4.map (fun a => ad (81 + a))))]) [1, 2, 3, 4, 5, 0] rfl (tX6_quickest_b57_9 hC hEk hin hout0 h)
def xX6_quickest (pR : zM) (pP : zP) (v1 : Int32) : Option Int32 :=
  (x_it (fun a9 => xX6_quickest_L9 pR pP v1 a9.1 a9.2.1 a9.2.2) zFU ((-9 : Int32), (10 : Int32), (0 : Int32))).bind fun q1 =>
  some q1
set_option maxHeartbeats 4000000 in
set_option maxRecDepth 100000 in
theorem tX6_quickest {κ : Nat → ClassId} {tg : Nat} {S : zEn} {ad : Nat → Nat} (hEk : zEk (zE tg S)) {pT : zM} {pR : zM} {pX : zM} {pF : zM} {pB : zM} {pP : zP} {v1 : Int32} {res : Int32} (h : xX6_quickest pR pP v1 = some res) (l : Launch) (D : va_G) : zCT (zE tg S) D vwCl (zty κ) l yX6_quickest wsX6_quickest ({ frames := 0, cells := 0, slots := 0, locals := 0 } : Room) 0 0 [.ref (ad 62), .int v1] (zwC κ ad pT pR pX pF pB pP) (zPd (some (.int res)) (zwC κ ad pT pR pX pF pB pP)) := by
  refine zCT.of (cc := cX6_quickest) (maxL := 8) (ret := (some .int)) (by decide) rfl (Nat.le_of_ble_eq_true rfl) ?_
  intro X hC hR
  unfold xX6_quickest at h
  refine zV.sub (lv' := [(0, .ref (ad 62)), (1, .int v1)]) [0, 1] rfl ?_
  refine zr_bipush (pc := 0) hC zkb_m9 dX6_quickest_0 ?_
  refine zr_istore_n (pc := 2) (lv' := [(2, .int (-9 : Int32)), (0, .ref (ad 62)), (1, .int v1)]) hC rfl (by decide) rfl dX6_quickest_2 ?_
  refine zr_bipush (pc := 3) hC zkb_10 dX6_quickest_3 ?_
  refine zr_istore_n (pc := 5) (lv' := [(3, .int (10 : Int32)), (2, .int (-9 : Int32)), (0, .ref (ad 62)), (1, .int v1)]) hC rfl (by decide) rfl dX6_quickest_5 ?_
  refine zr_iconst (pc := 6) hC zki_0 dX6_quickest_6 ?_
  refine zr_istore (pc := 7) (lv' := [(4, .int (0 : Int32)), (3, .int (10 : Int32)), (2, .int (-9 : Int32)), (0, .ref (ad 62)), (1, .int v1)]) hC (by decide) rfl dX6_quickest_7 ?_
  obtain ⟨q1, hq1, h⟩ := zbd h
  refine zV.sub (lv' := [(0, .ref (ad 62)), (1, .int v1), (2, .int (-9 : Int32)), (3, .int (10 : Int32)), (4, .int (0 : Int32))]) [3, 4, 2, 1, 0] rfl ?_
  refine zit3 (Wp := fun (y0 : Int32) (y1 : Int32) (y2 : Int32) => zV X 0 0 (zwC κ ad pT pR pX pF pB pP) [(0, .ref (ad 62)), (1, .int v1), (2, .int y0), (3, .int y1), (4, .int y2)] [] 9) (Ex := fun (b9 : Int32) => zV X 0 0 (zwC κ ad pT pR pX pF pB pP) [(2, .int b9)] [] 122) (fun y0 y1 y2 r9 hr hin hout => tX6_quickest_L9 hC hEk hin (fun z0 e9 => hout z0 e9) hr) zFU (-9 : Int32) (10 : Int32) (0 : Int32) q1 hq1 ?_
  show zV X 0 0 (zwC κ ad pT pR pX pF pB pP) [(2, .int q1)] [] 122
  refine zr_iload_n (pc := 122) hC 0 rfl rfl dX6_quickest_122 ?_
  obtain rfl := Option.some.inj h
  exact zr_iret hC hR ⟨rfl, rfl⟩ (Nat.le_refl _) (Nat.le_refl _) dX6_quickest_123
/-! X10_answerOf -/
theorem hyX10_answerOf : yX10_answerOf.cls = RX10 ∧ yX10_answerOf.cls ≠ "java/lang/invoke/MethodHandle" ∧ yX10_answerOf.cls ≠ "java/lang/invoke/VarHandle" ∧ (parseMethodDescriptor yX10_answerOf.desc).map (fun d => d.parameters.length) = some 1 := by decide +kernel
theorem flX10_answerOf_18 : Cond.fieldLink RX10 18 "BeforeTheEnd$Tree" "answer" "[I" ∈ wsX10_answerOf := by decide +kernel
theorem hinX10_answerOf_X10 : ∀ w ∈ wsX100, w ∈ wsX10_answerOf := fun _ h => List.mem_cons_of_mem _ (List.mem_append_right _ h)
def xX10_answerOf (pT : zM) (v1 : Int32) : Option Int32 :=
  (xX10_has pT v1).bind fun q1 =>
  if q1 = 0 then
  (some (0 : Int32))
  else
  if (v1 < 0 ∨ 24 ≤ v1.toNatClampNeg) then none else
  some (pT.1 3 v1.toNatClampNeg)
set_option maxHeartbeats 4000000 in
set_option maxRecDepth 100000 in
theorem tX10_answerOf {κ : Nat → ClassId} {tg : Nat} {S : zEn} {ad : Nat → Nat} (hEk : zEk (zE tg S)) {pT : zM} {pR : zM} {pX : zM} {pF : zM} {pB : zM} {pP : zP} {v1 : Int32} {res : Int32} (h : xX10_answerOf pT v1 = some res) (l : Launch) (D : va_G) : zCT (zE tg S) D vwCl (zty κ) l yX10_answerOf wsX10_answerOf ({ frames := 1, cells := 0, slots := 0, locals := 21 } : Room) 0 0 [.ref (ad 0), .int v1] (zwC κ ad pT pR pX pF pB pP) (zPd (some (.int res)) (zwC κ ad pT pR pX pF pB pP)) := by
  refine zCT.of (cc := cX10_answerOf) (maxL := 2) (ret := (some .int)) (by decide) rfl (Nat.le_of_ble_eq_true rfl) ?_
  intro X hC hR
  unfold xX10_answerOf at h
  refine zV.sub (lv' := [(0, .ref (ad 0)), (1, .int v1)]) [0, 1] rfl ?_
  refine zr_aload_n (pc := 0) hC 0 rfl rfl dX10_answerOf_0 ?_
  refine zr_iload_n (pc := 1) hC 1 rfl rfl dX10_answerOf_1 ?_
  obtain ⟨q1, hq1, h⟩ := zbd h
  refine zr_cVi (pc := 2) hC hEk [.int v1] [] 0 1 (fun l D => tX10_has hEk hq1 l D) gX10_answerOf_X10_has rfl rfl rfl ⟨Nat.le_of_ble_eq_true rfl, Nat.le_of_ble_eq_true rfl⟩ hyX10_has (zNC (by decide)) entC_0 rfl rfl rfl (Nat.le_of_ble_eq_true rfl) ⟨Nat.le_of_ble_eq_true rfl, Nat.le_of_ble_eq_true rfl⟩ dX10_answerOf_2 ?_
  refine zr_if_eq (pc := 5) (tgt := 17) hC dX10_answerOf_5 (by decide) (fun c2 => ?_) (fun c2 => ?_)
  · replace h := zip h c2
    refine zr_iconst (pc := 17) hC zki_0 dX10_answerOf_17 ?_
    obtain rfl := Option.some.inj h
    exact zr_iret hC hR ⟨rfl, rfl⟩ (Nat.le_refl _) (Nat.le_refl _) dX10_answerOf_18
  · replace h := zin h c2
    refine zr_aload_n (pc := 8) hC 0 rfl rfl dX10_answerOf_8 ?_
    refine zcg_0_2 (pc := 9) hC hinX10_answerOf_X10 flX10_answerOf_18 dX10_answerOf_9 ?_
    refine zr_iload_n (pc := 12) hC 1 rfl rfl dX10_answerOf_12 ?_
    obtain ⟨i3, h⟩ := zgd h
    refine zcl_3 (pc := 13) hC i3 dX10_answerOf_13 ?_
    refine zr_goto (pc := 14) (tgt := 18) hC dX10_answerOf_14 (by decide) ?_
    obtain rfl := Option.some.inj h
    exact zr_iret hC hR ⟨rfl, rfl⟩ (Nat.le_refl _) (Nat.le_refl _) dX10_answerOf_18
/-! X10_lengthOf -/
theorem hyX10_lengthOf : yX10_lengthOf.cls = RX10 ∧ yX10_lengthOf.cls ≠ "java/lang/invoke/MethodHandle" ∧ yX10_lengthOf.cls ≠ "java/lang/invoke/VarHandle" ∧ (parseMethodDescriptor yX10_lengthOf.desc).map (fun d => d.parameters.length) = some 1 := by decide +kernel
theorem flX10_lengthOf_21 : Cond.fieldLink RX10 21 "BeforeTheEnd$Tree" "length" "[I" ∈ wsX10_lengthOf := by decide +kernel
theorem hinX10_lengthOf_X10 : ∀ w ∈ wsX100, w ∈ wsX10_lengthOf := fun _ h => List.mem_cons_of_mem _ (List.mem_append_right _ h)
def xX10_lengthOf (pT : zM) (v1 : Int32) : Option Int32 :=
  (xX10_has pT v1).bind fun q1 =>
  if q1 = 0 then
  (some (0 : Int32))
  else
  if (v1 < 0 ∨ 24 ≤ v1.toNatClampNeg) then none else
  some (pT.1 4 v1.toNatClampNeg)
set_option maxHeartbeats 4000000 in
set_option maxRecDepth 100000 in
theorem tX10_lengthOf {κ : Nat → ClassId} {tg : Nat} {S : zEn} {ad : Nat → Nat} (hEk : zEk (zE tg S)) {pT : zM} {pR : zM} {pX : zM} {pF : zM} {pB : zM} {pP : zP} {v1 : Int32} {res : Int32} (h : xX10_lengthOf pT v1 = some res) (l : Launch) (D : va_G) : zCT (zE tg S) D vwCl (zty κ) l yX10_lengthOf wsX10_lengthOf ({ frames := 1, cells := 0, slots := 0, locals := 21 } : Room) 0 0 [.ref (ad 0), .int v1] (zwC κ ad pT pR pX pF pB pP) (zPd (some (.int res)) (zwC κ ad pT pR pX pF pB pP)) := by
  refine zCT.of (cc := cX10_lengthOf) (maxL := 2) (ret := (some .int)) (by decide) rfl (Nat.le_of_ble_eq_true rfl) ?_
  intro X hC hR
  unfold xX10_lengthOf at h
  refine zV.sub (lv' := [(0, .ref (ad 0)), (1, .int v1)]) [0, 1] rfl ?_
  refine zr_aload_n (pc := 0) hC 0 rfl rfl dX10_lengthOf_0 ?_
  refine zr_iload_n (pc := 1) hC 1 rfl rfl dX10_lengthOf_1 ?_
  obtain ⟨q1, hq1, h⟩ := zbd h
  refine zr_cVi (pc := 2) hC hEk [.int v1] [] 0 1 (fun l D => tX10_has hEk hq1 l D) gX10_lengthOf_X10_has rfl rfl rfl ⟨Nat.le_of_ble_eq_true rfl, Nat.le_of_ble_eq_true rfl⟩ hyX10_has (zNC (by decide)) entC_0 rfl rfl rfl (Nat.le_of_ble_eq_true rfl) ⟨Nat.le_of_ble_eq_true rfl, Nat.le_of_ble_eq_true rfl⟩ dX10_lengthOf_2 ?_
  refine zr_if_eq (pc := 5) (tgt := 17) hC dX10_lengthOf_5 (by decide) (fun c2 => ?_) (fun c2 => ?_)
  · replace h := zip h c2
    refine zr_iconst (pc := 17) hC zki_0 dX10_lengthOf_17 ?_
    obtain rfl := Option.some.inj h
    exact zr_iret hC hR ⟨rfl, rfl⟩ (Nat.le_refl _) (Nat.le_refl _) dX10_lengthOf_18
  · replace h := zin h c2
    refine zr_aload_n (pc := 8) hC 0 rfl rfl dX10_lengthOf_8 ?_
    refine zcg_0_3 (pc := 9) hC hinX10_lengthOf_X10 flX10_lengthOf_21 dX10_lengthOf_9 ?_
    refine zr_iload_n (pc := 12) hC 1 rfl rfl dX10_lengthOf_12 ?_
    obtain ⟨i3, h⟩ := zgd h
    refine zcl_4 (pc := 13) hC i3 dX10_lengthOf_13 ?_
    refine zr_goto (pc := 14) (tgt := 18) hC dX10_lengthOf_14 (by decide) ?_
    obtain rfl := Option.some.inj h
    exact zr_iret hC hR ⟨rfl, rfl⟩ (Nat.le_refl _) (Nat.le_refl _) dX10_lengthOf_18
/-! X6_answerBy -/
theorem hyX6_answerBy : yX6_answerBy.cls = RX6 ∧ yX6_answerBy.cls ≠ "java/lang/invoke/MethodHandle" ∧ yX6_answerBy.cls ≠ "java/lang/invoke/VarHandle" ∧ (parseMethodDescriptor yX6_answerBy.desc).map (fun d => d.parameters.length) = some 3 := by decide +kernel
theorem flX6_answerBy_21 : Cond.fieldLink RX6 21 "BeforeTheEnd$Race" "point" "[I" ∈ wsX6_answerBy := by decide +kernel
theorem flX6_answerBy_34 : Cond.fieldLink RX6 34 "BeforeTheEnd$Race" "gain" "[I" ∈ wsX6_answerBy := by decide +kernel
theorem flX6_answerBy_37 : Cond.fieldLink RX6 37 "BeforeTheEnd$Race" "winner" "I" ∈ wsX6_answerBy := by decide +kernel
theorem flX6_answerBy_40 : Cond.fieldLink RX6 40 "BeforeTheEnd$Race" "firstWord" "I" ∈ wsX6_answerBy := by decide +kernel
theorem flX6_answerBy_43 : Cond.fieldLink RX6 43 "BeforeTheEnd$Race" "firstPlayer" "I" ∈ wsX6_answerBy := by decide +kernel
theorem flX6_answerBy_46 : Cond.fieldLink RX6 46 "BeforeTheEnd$Race" "out" "I" ∈ wsX6_answerBy := by decide +kernel
theorem flX6_answerBy_49 : Cond.fieldLink RX6 49 "BeforeTheEnd$Race" "over" "Z" ∈ wsX6_answerBy := by decide +kernel
theorem flX6_answerBy_67 : Cond.fieldLink RX6 67 "BeforeTheEnd$Race" "tree" "LBeforeTheEnd$Tree;" ∈ wsX6_answerBy := by decide +kernel
theorem flX6_answerBy_75 : Cond.fieldLink RX6 75 "BeforeTheEnd$Player" "knows" "I" ∈ wsX6_answerBy := by decide +kernel
theorem hinX6_answerBy_X6 : ∀ w ∈ wsX60, w ∈ wsX6_answerBy := fun _ h => List.mem_cons_of_mem _ (List.mem_append_left _ (List.mem_append_left _ (List.mem_append_left _ (List.mem_append_left _ (List.mem_append_left _ (List.mem_append_left _ (List.mem_append_left _ (List.mem_append_right _ h))))))))
theorem hinX6_answerBy_X0 : ∀ w ∈ wsX00, w ∈ wsX6_answerBy := fun _ h => List.mem_cons_of_mem _ (List.mem_append_left _ (List.mem_append_left _ (List.mem_append_left _ (List.mem_append_left _ (List.mem_append_left _ (List.mem_append_left _ (List.mem_append_right _ h)))))))
theorem hinX6_answerBy_X1 : ∀ w ∈ wsX10, w ∈ wsX6_answerBy := fun _ h => List.mem_cons_of_mem _ (List.mem_append_left _ (List.mem_append_left _ (List.mem_append_left _ (List.mem_append_left _ (List.mem_append_left _ (List.mem_append_right _ h))))))
theorem hinX6_answerBy_X2 : ∀ w ∈ wsX20, w ∈ wsX6_answerBy := fun _ h => List.mem_cons_of_mem _ (List.mem_append_left _ (List.mem_append_left _ (List.mem_append_left _ (List.mem_append_left _ (List.mem_append_right _ h)))))
theorem hinX6_answerBy_X4 : ∀ w ∈ wsX40, w ∈ wsX6_answerBy := fun _ h => List.mem_cons_of_mem _ (List.mem_append_left _ (List.mem_append_left _ (List.mem_append_left _ (List.mem_append_right _ h))))
theorem hinX6_answerBy_X7 : ∀ w ∈ wsX70, w ∈ wsX6_answerBy := fun _ h => List.mem_cons_of_mem _ (List.mem_append_left _ (List.mem_append_left _ (List.mem_append_right _ h)))
theorem hinX6_answerBy_X9 : ∀ w ∈ wsX90, w ∈ wsX6_answerBy := fun _ h => List.mem_cons_of_mem _ (List.mem_append_left _ (List.mem_append_right _ h))
theorem hinX6_answerBy_X10 : ∀ w ∈ wsX100, w ∈ wsX6_answerBy := fun _ h => List.mem_cons_of_mem _ (List.mem_append_right _ h)
def xX6_answerBy_b32 (pT : zM) (pR : zM) (pP : zP) (v1 : Int32) (v2 : Int32) (v3 : Int32) (v4 : Nat) : Option zM :=
  if pP.2.2.2 ≤ v4 then none else
  (xX10_guessAt pT v2 (pP.2.2.1 v4 2)).bind fun q2 =>
  (xX10_answerOf pT v3).bind fun q3 =>
  if q2 = q3 then
  (zlet (zsi pR 62 8 v1) fun M15 =>
  (xX10_lengthOf pT v3).bind fun q17 =>
  (xX10_lengthOf pT v2).bind fun q18 =>
  if (v1 < 0 ∨ 4 ≤ v1.toNatClampNeg) then none else
  zlet (zsi M15 68 v1.toNatClampNeg ((M15.1 64 (0 : Int32).toNatClampNeg) + ((M15.1 64 (2 : Int32).toNatClampNeg) * (q17 - q18)))) fun M20 =>
  zlet (zsi M20 62 12 (1 : Int32)) fun M22 =>
  some M22)
  else
  if (v1 < 0 ∨ 4 ≤ v1.toNatClampNeg) then none else
  zlet (zsi pR 68 v1.toNatClampNeg (-(pR.1 64 (1 : Int32).toNatClampNeg))) fun M6 =>
  zlet (zsi M6 62 11 ((M6.1 62 11) ||| ((1 : Int32) <<< (v1 &&& 31)))) fun M8 =>
  if (M8.1 64 (3 : Int32).toNatClampNeg) = 0 then
  (zlet (zsi M8 62 12 (1 : Int32)) fun M13 =>
  some M13)
  else
  zlet (zsi M8 62 12 (0 : Int32)) fun M11 =>
  some M11
set_option maxHeartbeats 4000000 in
set_option maxRecDepth 100000 in
theorem tX6_answerBy_b32 {κ : Nat → ClassId} {tg : Nat} {S : zEn} {ad : Nat → Nat} {X : zX} {res : zM} {pX : zM} {pF : zM} {pB : zM} {pT : zM} {pR : zM} {pP : zP} {v1 : Int32} {v2 : Int32} {v3 : Int32} {v4 : Nat} (hC : zC X cX6_answerBy RX6 wsX6_answerBy vwCl (zty κ) (zE tg S) 5 ({ frames := 2, cells := 0, slots := 0, locals := 47 } : Room)) (hEk : zEk (zE tg S)) (hR : zR X none (zPd none (zwC κ ad pT res pX pF pB pP)) 0 0) (h : xX6_answerBy_b32 pT pR pP v1 v2 v3 v4  = some res) : zV X 0 0 (zwC κ ad pT pR pX pF pB pP) [(0, .ref (ad 62)), (1, .int v1), (2, .int v2), (3, .int v3), (4, .ref (ad (81 + v4)))] [] 32 := by
  unfold xX6_answerBy_b32 at h
  refine zr_aload_n (pc := 32) hC 0 rfl rfl dX6_answerBy_32 ?_
  refine zcg_62_0 (pc := 33) hC hinX6_answerBy_X6 flX6_answerBy_67 dX6_answerBy_33 ?_
  refine zr_iload_n (pc := 36) hC 2 rfl rfl dX6_answerBy_36 ?_
  refine zr_aload (pc := 37) hC 4 rfl dX6_answerBy_37 ?_
  obtain ⟨i1, h⟩ := zgd h
  refine zpg_2 (pc := 39) hC hinX6_answerBy_X2 hinX6_answerBy_X7 hinX6_answerBy_X1 hinX6_answerBy_X4 hinX6_answerBy_X9 hinX6_answerBy_X0 flX6_answerBy_75 i1 dX6_answerBy_39 ?_
  obtain ⟨q2, hq2, h⟩ := zbd h
  refine zr_cVi (pc := 42) hC hEk [.int v2, .int (pP.2.2.1 v4 2)] [] 0 2 (fun l D => tX10_guessAt hEk hq2 l D) gX6_answerBy_X10_guessAt rfl rfl rfl ⟨Nat.le_of_ble_eq_true rfl, Nat.le_of_ble_eq_true rfl⟩ hyX10_guessAt (zNC (by decide)) entC_0 rfl rfl rfl (Nat.le_of_ble_eq_true rfl) ⟨Nat.le_of_ble_eq_true rfl, Nat.le_of_ble_eq_true rfl⟩ dX6_answerBy_42 ?_
  refine zr_aload_n (pc := 45) hC 0 rfl rfl dX6_answerBy_45 ?_
  refine zcg_62_0 (pc := 46) hC hinX6_answerBy_X6 flX6_answerBy_67 dX6_answerBy_46 ?_
  refine zr_iload_n (pc := 49) hC 3 rfl rfl dX6_answerBy_49 ?_
  obtain ⟨q3, hq3, h⟩ := zbd h
  refine zr_cVi (pc := 50) hC hEk [.int v3] [.int q2] 0 1 (fun l D => tX10_answerOf hEk hq3 l D) gX6_answerBy_X10_answerOf rfl rfl rfl ⟨Nat.le_of_ble_eq_true rfl, Nat.le_of_ble_eq_true rfl⟩ hyX10_answerOf (zNC (by decide)) entC_0 rfl rfl rfl (Nat.le_of_ble_eq_true rfl) ⟨Nat.le_of_ble_eq_true rfl, Nat.le_of_ble_eq_true rfl⟩ dX6_answerBy_50 ?_
  refine zr_icmp_ne (pc := 53) (tgt := 106) hC dX6_answerBy_53 (by decide) (fun c4 => ?_) (fun c4 => ?_)
  · replace h := zin h c4
    refine zr_aload_n (pc := 106) hC 0 rfl rfl dX6_answerBy_106 ?_
    refine zcg_62_7 (pc := 107) hC hinX6_answerBy_X6 flX6_answerBy_34 dX6_answerBy_107 ?_
    refine zr_iload_n (pc := 110) hC 1 rfl rfl dX6_answerBy_110 ?_
    refine zr_aload_n (pc := 111) hC 0 rfl rfl dX6_answerBy_111 ?_
    refine zcg_62_3 (pc := 112) hC hinX6_answerBy_X6 flX6_answerBy_21 dX6_answerBy_112 ?_
    refine zr_iconst (pc := 115) hC zki_1 dX6_answerBy_115 ?_
    refine zcl_64 (pc := 116) hC (by decide) dX6_answerBy_116 ?_
    refine zr_ineg (pc := 117) hC dX6_answerBy_117 ?_
    obtain ⟨i5, h⟩ := zgd h
    obtain ⟨M6, e7, h⟩ := zle h
    refine zcs_68 (pc := 118) hC i5 e7 dX6_answerBy_118 ?_
    refine zr_aload_n (pc := 119) hC 0 rfl rfl dX6_answerBy_119 ?_
    refine zr_dup (pc := 120) hC rfl dX6_answerBy_120 ?_
    refine zcg_62_11 (pc := 121) hC hinX6_answerBy_X6 flX6_answerBy_46 dX6_answerBy_121 ?_
    refine zr_iconst (pc := 124) hC zki_1 dX6_answerBy_124 ?_
    refine zr_iload_n (pc := 125) hC 1 rfl rfl dX6_answerBy_125 ?_
    refine zr_ishl (pc := 126) hC dX6_answerBy_126 ?_
    refine zr_ior (pc := 127) hC dX6_answerBy_127 ?_
    obtain ⟨M8, e9, h⟩ := zle h
    refine zcp_62_11 (pc := 128) hC hinX6_answerBy_X6 flX6_answerBy_46 e9 dX6_answerBy_128 ?_
    refine zr_aload_n (pc := 131) hC 0 rfl rfl dX6_answerBy_131 ?_
    refine zr_aload_n (pc := 132) hC 0 rfl rfl dX6_answerBy_132 ?_
    refine zcg_62_3 (pc := 133) hC hinX6_answerBy_X6 flX6_answerBy_21 dX6_answerBy_133 ?_
    refine zr_iconst (pc := 136) hC zki_3 dX6_answerBy_136 ?_
    refine zcl_64 (pc := 137) hC (by decide) dX6_answerBy_137 ?_
    refine zr_if_ne (pc := 138) (tgt := 145) hC dX6_answerBy_138 (by decide) (fun c10 => ?_) (fun c10 => ?_)
    · replace h := zin h c10
      refine zr_iconst (pc := 145) hC zki_0 dX6_answerBy_145 ?_
      obtain ⟨M11, e12, h⟩ := zle h
      refine zcp_62_12 (pc := 146) hC hinX6_answerBy_X6 flX6_answerBy_49 (by decide) e12 dX6_answerBy_146 ?_
      obtain rfl := Option.some.inj h
      exact zr_vret hC hR ⟨rfl, rfl⟩ (Nat.le_refl _) (Nat.le_refl _) dX6_answerBy_149
    · replace h := zip h c10
      refine zr_iconst (pc := 141) hC zki_1 dX6_answerBy_141 ?_
      refine zr_goto (pc := 142) (tgt := 146) hC dX6_answerBy_142 (by decide) ?_
      obtain ⟨M13, e14, h⟩ := zle h
      refine zcp_62_12 (pc := 146) hC hinX6_answerBy_X6 flX6_answerBy_49 (by decide) e14 dX6_answerBy_146 ?_
      obtain rfl := Option.some.inj h
      exact zr_vret hC hR ⟨rfl, rfl⟩ (Nat.le_refl _) (Nat.le_refl _) dX6_answerBy_149
  · replace h := zip h c4
    refine zr_aload_n (pc := 56) hC 0 rfl rfl dX6_answerBy_56 ?_
    refine zr_iload_n (pc := 57) hC 1 rfl rfl dX6_answerBy_57 ?_
    obtain ⟨M15, e16, h⟩ := zle h
    refine zcp_62_8 (pc := 58) hC hinX6_answerBy_X6 flX6_answerBy_37 e16 dX6_answerBy_58 ?_
    refine zr_aload_n (pc := 61) hC 0 rfl rfl dX6_answerBy_61 ?_
    refine zcg_62_7 (pc := 62) hC hinX6_answerBy_X6 flX6_answerBy_34 dX6_answerBy_62 ?_
    refine zr_iload_n (pc := 65) hC 1 rfl rfl dX6_answerBy_65 ?_
    refine zr_aload_n (pc := 66) hC 0 rfl rfl dX6_answerBy_66 ?_
    refine zcg_62_3 (pc := 67) hC hinX6_answerBy_X6 flX6_answerBy_21 dX6_answerBy_67 ?_
    refine zr_iconst (pc := 70) hC zki_0 dX6_answerBy_70 ?_
    refine zcl_64 (pc := 71) hC (by decide) dX6_answerBy_71 ?_
    refine zr_aload_n (pc := 72) hC 0 rfl rfl dX6_answerBy_72 ?_
    refine zcg_62_3 (pc := 73) hC hinX6_answerBy_X6 flX6_answerBy_21 dX6_answerBy_73 ?_
    refine zr_iconst (pc := 76) hC zki_2 dX6_answerBy_76 ?_
    refine zcl_64 (pc := 77) hC (by decide) dX6_answerBy_77 ?_
    refine zr_aload_n (pc := 78) hC 0 rfl rfl dX6_answerBy_78 ?_
    refine zcg_62_0 (pc := 79) hC hinX6_answerBy_X6 flX6_answerBy_67 dX6_answerBy_79 ?_
    refine zr_iload_n (pc := 82) hC 3 rfl rfl dX6_answerBy_82 ?_
    obtain ⟨q17, hq17, h⟩ := zbd h
    refine zr_cVi (pc := 83) hC hEk [.int v3] [.int (M15.1 64 (2 : Int32).toNatClampNeg), .int (M15.1 64 (0 : Int32).toNatClampNeg), .int v1, .ref (ad 68)] 0 1 (fun l D => tX10_lengthOf hEk hq17 l D) gX6_answerBy_X10_lengthOf rfl rfl rfl ⟨Nat.le_of_ble_eq_true rfl, Nat.le_of_ble_eq_true rfl⟩ hyX10_lengthOf (zNC (by decide)) entC_0 rfl rfl rfl (Nat.le_of_ble_eq_true rfl) ⟨Nat.le_of_ble_eq_true rfl, Nat.le_of_ble_eq_true rfl⟩ dX6_answerBy_83 ?_
    refine zr_aload_n (pc := 86) hC 0 rfl rfl dX6_answerBy_86 ?_
    refine zcg_62_0 (pc := 87) hC hinX6_answerBy_X6 flX6_answerBy_67 dX6_answerBy_87 ?_
    refine zr_iload_n (pc := 90) hC 2 rfl rfl dX6_answerBy_90 ?_
    obtain ⟨q18, hq18, h⟩ := zbd h
    refine zr_cVi (pc := 91) hC hEk [.int v2] [.int q17, .int (M15.1 64 (2 : Int32).toNatClampNeg), .int (M15.1 64 (0 : Int32).toNatClampNeg), .int v1, .ref (ad 68)] 0 1 (fun l D => tX10_lengthOf hEk hq18 l D) gX6_answerBy_X10_lengthOf rfl rfl rfl ⟨Nat.le_of_ble_eq_true rfl, Nat.le_of_ble_eq_true rfl⟩ hyX10_lengthOf (zNC (by decide)) entC_0 rfl rfl rfl (Nat.le_of_ble_eq_true rfl) ⟨Nat.le_of_ble_eq_true rfl, Nat.le_of_ble_eq_true rfl⟩ dX6_answerBy_91 ?_
    refine zr_isub (pc := 94) hC dX6_answerBy_94 ?_
    refine zr_imul (pc := 95) hC dX6_answerBy_95 ?_
    refine zr_iadd (pc := 96) hC dX6_answerBy_96 ?_
    obtain ⟨i19, h⟩ := zgd h
    obtain ⟨M20, e21, h⟩ := zle h
    refine zcs_68 (pc := 97) hC i19 e21 dX6_answerBy_97 ?_
    refine zr_aload_n (pc := 98) hC 0 rfl rfl dX6_answerBy_98 ?_
    refine zr_iconst (pc := 99) hC zki_1 dX6_answerBy_99 ?_
    obtain ⟨M22, e23, h⟩ := zle h
    refine zcp_62_12 (pc := 100) hC hinX6_answerBy_X6 flX6_answerBy_49 (by decide) e23 dX6_answerBy_100 ?_
    refine zr_goto (pc := 103) (tgt := 149) hC dX6_answerBy_103 (by decide) ?_
    obtain rfl := Option.some.inj h
    exact zr_vret hC hR ⟨rfl, rfl⟩ (Nat.le_refl _) (Nat.le_refl _) dX6_answerBy_149
def xX6_answerBy (pT : zM) (pR : zM) (pP : zP) (v1 : Int32) (v2 : Int32) (v3 : Int32) : Option zM :=
  (xX6_playerAt pR pP v1).bind fun q1 =>
  zon q1
  (some pR)
  (fun a2 => if pP.2.2.2 ≤ a2 then none else
  if (pR.1 62 10) = (-9 : Int32) then
  (zlet (zsi pR 62 10 v1) fun M6 =>
  zlet (zsi M6 62 9 v2) fun M8 =>
  xX6_answerBy_b32 pT M8 pP v1 v2 v3 a2)
  else
  xX6_answerBy_b32 pT pR pP v1 v2 v3 a2)
set_option maxHeartbeats 4000000 in
set_option maxRecDepth 100000 in
theorem tX6_answerBy {κ : Nat → ClassId} {tg : Nat} {S : zEn} {ad : Nat → Nat} (hEk : zEk (zE tg S)) {pT : zM} {pR : zM} {pX : zM} {pF : zM} {pB : zM} {pP : zP} {v1 : Int32} {v2 : Int32} {v3 : Int32} {res : zM} (h : xX6_answerBy pT pR pP v1 v2 v3 = some res) (l : Launch) (D : va_G) : zCT (zE tg S) D vwCl (zty κ) l yX6_answerBy wsX6_answerBy ({ frames := 2, cells := 0, slots := 0, locals := 47 } : Room) 0 0 [.ref (ad 62), .int v1, .int v2, .int v3] (zwC κ ad pT pR pX pF pB pP) (zPd none (zwC κ ad pT res pX pF pB pP)) := by
  refine zCT.of (cc := cX6_answerBy) (maxL := 5) (ret := none) (by decide) rfl (Nat.le_of_ble_eq_true rfl) ?_
  intro X hC hR
  unfold xX6_answerBy at h
  refine zV.sub (lv' := [(0, .ref (ad 62)), (1, .int v1), (2, .int v2), (3, .int v3)]) [0, 1, 2, 3] rfl ?_
  refine zr_aload_n (pc := 0) hC 0 rfl rfl dX6_answerBy_0 ?_
  refine zr_iload_n (pc := 1) hC 1 rfl rfl dX6_answerBy_1 ?_
  obtain ⟨q1, hq1, h⟩ := zbd h
  refine zr_cVr (pc := 2) hC hEk [.int v1] [] 62 1 (fun l D => tX6_playerAt hEk hq1 l D) gX6_answerBy_X6_playerAt rfl rfl rfl ⟨Nat.le_of_ble_eq_true rfl, Nat.le_of_ble_eq_true rfl⟩ hyX6_playerAt (zNC (by decide)) entC_62 rfl rfl rfl (Nat.le_of_ble_eq_true rfl) ⟨Nat.le_of_ble_eq_true rfl, Nat.le_of_ble_eq_true rfl⟩ dX6_answerBy_2 ?_
  refine zr_astoreO (pc := 5) (lv' := [(4, va_rf (q1.map (fun a => ad (81 + a)))), (0, .ref (ad 62)), (1, .int v1), (2, .int v2), (3, .int v3)]) hC (by decide) (by cases q1 <;> rfl) dX6_answerBy_5 ?_
  refine zr_aloadO (pc := 7) hC 0 rfl dX6_answerBy_7 ?_
  refine zr_ifnonnullM (pc := 9) (tgt := 13) hC dX6_answerBy_9 (by decide) (fun a2 e3 => ?_) (fun e3 => ?_)
  · replace h := zon_s e3 h
    have h9 := h
    subst e3
    replace h := h9
    clear h9
    obtain ⟨i4, h⟩ := zgd h
    show zV X 0 0 (zwC κ ad pT pR pX pF pB pP) [(4, .ref (ad (81 + a2))), (0, .ref (ad 62)), (1, .int v1), (2, .int v2), (3, .int v3)] [] 13
    refine zr_aload_n (pc := 13) hC 1 rfl rfl dX6_answerBy_13 ?_
    refine zcg_62_10 (pc := 14) hC hinX6_answerBy_X6 flX6_answerBy_43 dX6_answerBy_14 ?_
    refine zr_bipush (pc := 17) hC zkb_m9 dX6_answerBy_17 ?_
    refine zr_icmp_ne (pc := 19) (tgt := 32) hC dX6_answerBy_19 (by decide) (fun c5 => ?_) (fun c5 => ?_)
    · replace h := zin h c5
      exact zV.sub (lv' := [(0, .ref (ad 62)), (1, .int v1), (2, .int v2), (3, .int v3), (4, .ref (ad (81 + a2)))]) [1, 2, 3, 4, 0] rfl (tX6_answerBy_b32 hC hEk hR h)
    · replace h := zip h c5
      refine zr_aload_n (pc := 22) hC 1 rfl rfl dX6_answerBy_22 ?_
      refine zr_iload_n (pc := 23) hC 2 rfl rfl dX6_answerBy_23 ?_
      obtain ⟨M6, e7, h⟩ := zle h
      refine zcp_62_10 (pc := 24) hC hinX6_answerBy_X6 flX6_answerBy_43 e7 dX6_answerBy_24 ?_
      refine zr_aload_n (pc := 27) hC 1 rfl rfl dX6_answerBy_27 ?_
      refine zr_iload_n (pc := 28) hC 3 rfl rfl dX6_answerBy_28 ?_
      obtain ⟨M8, e9, h⟩ := zle h
      refine zcp_62_9 (pc := 29) hC hinX6_answerBy_X6 flX6_answerBy_40 e9 dX6_answerBy_29 ?_
      exact zV.sub (lv' := [(0, .ref (ad 62)), (1, .int v1), (2, .int v2), (3, .int v3), (4, .ref (ad (81 + a2)))]) [1, 2, 3, 4, 0] rfl (tX6_answerBy_b32 hC hEk hR h)
  · replace h := zon_n e3 h
    have h9 := h
    subst e3
    replace h := h9
    clear h9
    show zV X 0 0 (zwC κ ad pT pR pX pF pB pP) [(4, va_rf ((none : Option Nat).map (fun a => ad (81 + a)))), (0, .ref (ad 62)), (1, .int v1), (2, .int v2), (3, .int v3)] [] 12
    obtain rfl := Option.some.inj h
    exact zr_vret hC hR ⟨rfl, rfl⟩ (Nat.le_refl _) (Nat.le_refl _) dX6_answerBy_12
/-! X6_runTo -/
theorem hyX6_runTo : yX6_runTo.cls = RX6 ∧ yX6_runTo.cls ≠ "java/lang/invoke/MethodHandle" ∧ yX6_runTo.cls ≠ "java/lang/invoke/VarHandle" ∧ (parseMethodDescriptor yX6_runTo.desc).map (fun d => d.parameters.length) = some 1 := by decide +kernel
theorem flX6_runTo_17 : Cond.fieldLink RX6 17 "BeforeTheEnd$Race" "count" "I" ∈ wsX6_runTo := by decide +kernel
theorem flX6_runTo_28 : Cond.fieldLink RX6 28 "BeforeTheEnd$Race" "calm" "[I" ∈ wsX6_runTo := by decide +kernel
theorem flX6_runTo_31 : Cond.fieldLink RX6 31 "BeforeTheEnd$Race" "stirred" "[I" ∈ wsX6_runTo := by decide +kernel
theorem flX6_runTo_34 : Cond.fieldLink RX6 34 "BeforeTheEnd$Race" "gain" "[I" ∈ wsX6_runTo := by decide +kernel
theorem flX6_runTo_37 : Cond.fieldLink RX6 37 "BeforeTheEnd$Race" "winner" "I" ∈ wsX6_runTo := by decide +kernel
theorem flX6_runTo_40 : Cond.fieldLink RX6 40 "BeforeTheEnd$Race" "firstWord" "I" ∈ wsX6_runTo := by decide +kernel
theorem flX6_runTo_43 : Cond.fieldLink RX6 43 "BeforeTheEnd$Race" "firstPlayer" "I" ∈ wsX6_runTo := by decide +kernel
theorem flX6_runTo_46 : Cond.fieldLink RX6 46 "BeforeTheEnd$Race" "out" "I" ∈ wsX6_runTo := by decide +kernel
theorem flX6_runTo_49 : Cond.fieldLink RX6 49 "BeforeTheEnd$Race" "over" "Z" ∈ wsX6_runTo := by decide +kernel
theorem flX6_runTo_67 : Cond.fieldLink RX6 67 "BeforeTheEnd$Race" "tree" "LBeforeTheEnd$Tree;" ∈ wsX6_runTo := by decide +kernel
theorem hinX6_runTo_X6 : ∀ w ∈ wsX60, w ∈ wsX6_runTo := fun _ h => List.mem_cons_of_mem _ (List.mem_append_left _ (List.mem_append_left _ (List.mem_append_left _ (List.mem_append_left _ (List.mem_append_left _ (List.mem_append_left _ (List.mem_append_left _ (List.mem_append_right _ h))))))))
theorem hinX6_runTo_X10 : ∀ w ∈ wsX100, w ∈ wsX6_runTo := fun _ h => List.mem_cons_of_mem _ (List.mem_append_left _ (List.mem_append_left _ (List.mem_append_left _ (List.mem_append_left _ (List.mem_append_left _ (List.mem_append_left _ (List.mem_append_right _ h)))))))
theorem hinX6_runTo_X0 : ∀ w ∈ wsX00, w ∈ wsX6_runTo := fun _ h => List.mem_cons_of_mem _ (List.mem_append_left _ (List.mem_append_left _ (List.mem_append_left _ (List.mem_append_left _ (List.mem_append_left _ (List.mem_append_right _ h))))))
theorem hinX6_runTo_X1 : ∀ w ∈ wsX10, w ∈ wsX6_runTo := fun _ h => List.mem_cons_of_mem _ (List.mem_append_left _ (List.mem_append_left _ (List.mem_append_left _ (List.mem_append_left _ (List.mem_append_right _ h)))))
theorem hinX6_runTo_X2 : ∀ w ∈ wsX20, w ∈ wsX6_runTo := fun _ h => List.mem_cons_of_mem _ (List.mem_append_left _ (List.mem_append_left _ (List.mem_append_left _ (List.mem_append_right _ h))))
theorem hinX6_runTo_X4 : ∀ w ∈ wsX40, w ∈ wsX6_runTo := fun _ h => List.mem_cons_of_mem _ (List.mem_append_left _ (List.mem_append_left _ (List.mem_append_right _ h)))
theorem hinX6_runTo_X7 : ∀ w ∈ wsX70, w ∈ wsX6_runTo := fun _ h => List.mem_cons_of_mem _ (List.mem_append_left _ (List.mem_append_right _ h))
theorem hinX6_runTo_X9 : ∀ w ∈ wsX90, w ∈ wsX6_runTo := fun _ h => List.mem_cons_of_mem _ (List.mem_append_right _ h)
def xX6_runTo_L32 (pT : zM) (pP : zP) (v1 : Int32) (w0 : zM) (w1 : Int32) (w2 : Int32) : Option ((zM × Int32 × Int32) ⊕ (zM × Int32)) :=
  if (4 : Int32) ≤ w2 then
  (some (.inr (w0, w1)))
  else
  if (w0.1 62 2) ≤ w2 then
  (some (.inr (w0, w1)))
  else
  if (w2 < 0 ∨ 4 ≤ w2.toNatClampNeg) then none else
  zlet (zsi w0 68 w2.toNatClampNeg (0 : Int32)) fun M4 =>
  zlet (w1 ||| ((M4.1 66 w2.toNatClampNeg) ||| (M4.1 67 w2.toNatClampNeg))) fun z6 =>
  some (.inl (M4, z6, (w2 + (1 : Int32))))
set_option maxHeartbeats 4000000 in
set_option maxRecDepth 100000 in
theorem tX6_runTo_L32 {κ : Nat → ClassId} {tg : Nat} {S : zEn} {ad : Nat → Nat} {X : zX} {pX : zM} {pF : zM} {pB : zM} {pT : zM} {pP : zP} {v1 : Int32} {w0 : zM} {w1 : Int32} {w2 : Int32} {r : ((zM × Int32 × Int32) ⊕ (zM × Int32))} (hC : zC X cX6_runTo RX6 wsX6_runTo vwCl (zty κ) (zE tg S) 8 ({ frames := 3, cells := 0, slots := 0, locals := 71 } : Room)) (hEk : zEk (zE tg S)) (hin : ∀ (x0' : zM) (x1' : Int32) (x2' : Int32), r = .inl (x0', x1', x2') → zV X 0 0 (zwC κ ad pT x0' pX pF pB pP) [(0, .ref (ad 62)), (1, .int v1), (2, .int x1'), (3, .int x2')] [] 32) (hout0 : ∀ (x0' : zM) (x1' : Int32), r = .inr (x0', x1') → zV X 0 0 (zwC κ ad pT x0' pX pF pB pP) [(0, .ref (ad 62)), (1, .int v1), (2, .int x1')] [] 74) (h : xX6_runTo_L32 pT pP v1 w0 w1 w2 = some r) : zV X 0 0 (zwC κ ad pT w0 pX pF pB pP) [(0, .ref (ad 62)), (1, .int v1), (2, .int w1), (3, .int w2)] [] 32 := by
  unfold xX6_runTo_L32 at h
  refine zr_iload_n (pc := 32) hC 3 rfl rfl dX6_runTo_32 ?_
  refine zr_iconst (pc := 33) hC zki_4 dX6_runTo_33 ?_
  refine zr_icmp_ge (pc := 34) (tgt := 74) hC dX6_runTo_34 (by decide) (fun c1 => ?_) (fun c1 => ?_)
  · replace h := zip h c1
    obtain rfl := Option.some.inj h
    exact zV.sub (lv' := [(0, .ref (ad 62)), (1, .int v1), (2, .int w1)]) [0, 1, 2] rfl (hout0 w0 w1 rfl)
  · replace h := zin h c1
    refine zr_iload_n (pc := 37) hC 3 rfl rfl dX6_runTo_37 ?_
    refine zr_aload_n (pc := 38) hC 0 rfl rfl dX6_runTo_38 ?_
    refine zcg_62_2 (pc := 39) hC hinX6_runTo_X6 flX6_runTo_17 dX6_runTo_39 ?_
    refine zr_icmp_ge (pc := 42) (tgt := 74) hC dX6_runTo_42 (by decide) (fun c2 => ?_) (fun c2 => ?_)
    · replace h := zip h c2
      obtain rfl := Option.some.inj h
      exact zV.sub (lv' := [(0, .ref (ad 62)), (1, .int v1), (2, .int w1)]) [0, 1, 2] rfl (hout0 w0 w1 rfl)
    · replace h := zin h c2
      refine zr_aload_n (pc := 45) hC 0 rfl rfl dX6_runTo_45 ?_
      refine zcg_62_7 (pc := 46) hC hinX6_runTo_X6 flX6_runTo_34 dX6_runTo_46 ?_
      refine zr_iload_n (pc := 49) hC 3 rfl rfl dX6_runTo_49 ?_
      refine zr_iconst (pc := 50) hC zki_0 dX6_runTo_50 ?_
      obtain ⟨i3, h⟩ := zgd h
      obtain ⟨M4, e5, h⟩ := zle h
      refine zcs_68 (pc := 51) hC i3 e5 dX6_runTo_51 ?_
      refine zr_iload_n (pc := 52) hC 2 rfl rfl dX6_runTo_52 ?_
      refine zr_aload_n (pc := 53) hC 0 rfl rfl dX6_runTo_53 ?_
      refine zcg_62_5 (pc := 54) hC hinX6_runTo_X6 flX6_runTo_28 dX6_runTo_54 ?_
      refine zr_iload_n (pc := 57) hC 3 rfl rfl dX6_runTo_57 ?_
      refine zcl_66 (pc := 58) hC i3 dX6_runTo_58 ?_
      refine zr_aload_n (pc := 59) hC 0 rfl rfl dX6_runTo_59 ?_
      refine zcg_62_6 (pc := 60) hC hinX6_runTo_X6 flX6_runTo_31 dX6_runTo_60 ?_
      refine zr_iload_n (pc := 63) hC 3 rfl rfl dX6_runTo_63 ?_
      refine zcl_67 (pc := 64) hC i3 dX6_runTo_64 ?_
      refine zr_ior (pc := 65) hC dX6_runTo_65 ?_
      refine zr_ior (pc := 66) hC dX6_runTo_66 ?_
      obtain ⟨z6, e7, h⟩ := zle h
      refine zr_topi e7 ?_
      refine zr_istore_n (pc := 67) (lv' := [(2, .int z6), (0, .ref (ad 62)), (1, .int v1), (3, .int w2)]) hC rfl (by decide) rfl dX6_runTo_67 ?_
      refine zr_iinc (pc := 68) (k := 3) (lv' := [(3, .int (w2 + (1 : Int32))), (2, .int z6), (0, .ref (ad 62)), (1, .int v1)]) hC zki_1 (by decide) rfl rfl dX6_runTo_68 ?_
      refine zr_goto (pc := 71) (tgt := 32) hC dX6_runTo_71 (by decide) ?_
      obtain rfl := Option.some.inj h
      exact zV.sub (lv' := [(0, .ref (ad 62)), (1, .int v1), (2, .int z6), (3, .int (w2 + (1 : Int32)))]) [2, 3, 1, 0] rfl (hin M4 z6 (w2 + (1 : Int32)) rfl)
def xX6_runTo_L130_L88 (pT : zM) (pP : zP) (v1 : Int32) (v3 : Int32) (v4 : Int32) (v5 : Int32) (w0 : zM) (w1 : Int32) : Option ((zM × Int32) ⊕ (zM ⊕ zM)) :=
  if v5 ≤ w1 then
  (some (.inr (.inr w0)))
  else
  if (w0.1 62 12) = 0 then
  ((xX6_quickest w0 pP v4).bind fun q3 =>
  if q3 = (-9 : Int32) then
  (some (.inr (.inl w0)))
  else
  (xX6_answerBy pT w0 pP q3 v4 v1).bind fun q5 =>
  some (.inl (q5, (w1 + (1 : Int32)))))
  else
  some (.inr (.inr w0))
set_option maxHeartbeats 4000000 in
set_option maxRecDepth 100000 in
theorem tX6_runTo_L130_L88 {κ : Nat → ClassId} {tg : Nat} {S : zEn} {ad : Nat → Nat} {X : zX} {pX : zM} {pF : zM} {pB : zM} {pT : zM} {pP : zP} {v1 : Int32} {v3 : Int32} {v4 : Int32} {v5 : Int32} {w0 : zM} {w1 : Int32} {r : ((zM × Int32) ⊕ (zM ⊕ zM))} (hC : zC X cX6_runTo RX6 wsX6_runTo vwCl (zty κ) (zE tg S) 8 ({ frames := 3, cells := 0, slots := 0, locals := 71 } : Room)) (hEk : zEk (zE tg S)) (hin : ∀ (x0' : zM) (x1' : Int32), r = .inl (x0', x1') → zV X 0 0 (zwC κ ad pT x0' pX pF pB pP) [(0, .ref (ad 62)), (1, .int v1), (3, .int v3), (4, .int v4), (5, .int v5), (6, .int x1')] [] 130) (hout0 : ∀ (x0' : zM), r = .inr (.inl x0') → zV X 0 0 (zwC κ ad pT x0' pX pF pB pP) [(0, .ref (ad 62)), (1, .int v1), (3, .int v3), (4, .int v4)] [] 159) (hout1 : ∀ (x0' : zM), r = .inr (.inr x0') → zV X 0 0 (zwC κ ad pT x0' pX pF pB pP) [(0, .ref (ad 62)), (1, .int v1), (3, .int v3), (4, .int v4)] [] 177) (h : xX6_runTo_L130_L88 pT pP v1 v3 v4 v5 w0 w1 = some r) : zV X 0 0 (zwC κ ad pT w0 pX pF pB pP) [(0, .ref (ad 62)), (1, .int v1), (3, .int v3), (4, .int v4), (5, .int v5), (6, .int w1)] [] 130 := by
  unfold xX6_runTo_L130_L88 at h
  refine zr_iload (pc := 130) hC 5 rfl dX6_runTo_130 ?_
  refine zr_iload (pc := 132) hC 4 rfl dX6_runTo_132 ?_
  refine zr_icmp_ge (pc := 134) (tgt := 177) hC dX6_runTo_134 (by decide) (fun c1 => ?_) (fun c1 => ?_)
  · replace h := zip h c1
    obtain rfl := Option.some.inj h
    exact zV.sub (lv' := [(0, .ref (ad 62)), (1, .int v1), (3, .int v3), (4, .int v4)]) [0, 1, 2, 3] rfl (hout1 w0 rfl)
  · replace h := zin h c1
    refine zr_aload_n (pc := 137) hC 0 rfl rfl dX6_runTo_137 ?_
    refine zcg_62_12 (pc := 138) hC hinX6_runTo_X6 flX6_runTo_49 dX6_runTo_138 ?_
    refine zr_if_ne (pc := 141) (tgt := 177) hC dX6_runTo_141 (by decide) (fun c2 => ?_) (fun c2 => ?_)
    · replace h := zin h c2
      obtain rfl := Option.some.inj h
      exact zV.sub (lv' := [(0, .ref (ad 62)), (1, .int v1), (3, .int v3), (4, .int v4)]) [0, 1, 2, 3] rfl (hout1 w0 rfl)
    · replace h := zip h c2
      refine zr_aload_n (pc := 144) hC 0 rfl rfl dX6_runTo_144 ?_
      refine zr_iload (pc := 145) hC 3 rfl dX6_runTo_145 ?_
      obtain ⟨q3, hq3, h⟩ := zbd h
      refine zr_cVi (pc := 147) hC hEk [.int v4] [] 62 1 (fun l D => tX6_quickest hEk hq3 l D) gX6_runTo_X6_quickest rfl rfl rfl ⟨Nat.le_of_ble_eq_true rfl, Nat.le_of_ble_eq_true rfl⟩ hyX6_quickest (zNC (by decide)) entC_62 rfl rfl rfl (Nat.le_of_ble_eq_true rfl) ⟨Nat.le_of_ble_eq_true rfl, Nat.le_of_ble_eq_true rfl⟩ dX6_runTo_147 ?_
      refine zr_istore (pc := 150) (lv' := [(7, .int q3), (0, .ref (ad 62)), (1, .int v1), (3, .int v3), (4, .int v4), (5, .int v5), (6, .int w1)]) hC (by decide) rfl dX6_runTo_150 ?_
      refine zr_iload (pc := 152) hC 0 rfl dX6_runTo_152 ?_
      refine zr_bipush (pc := 154) hC zkb_m9 dX6_runTo_154 ?_
      refine zr_icmp_ne (pc := 156) (tgt := 162) hC dX6_runTo_156 (by decide) (fun c4 => ?_) (fun c4 => ?_)
      · replace h := zin h c4
        refine zr_aload_n (pc := 162) hC 1 rfl rfl dX6_runTo_162 ?_
        refine zr_iload (pc := 163) hC 0 rfl dX6_runTo_163 ?_
        refine zr_iload (pc := 165) hC 4 rfl dX6_runTo_165 ?_
        refine zr_iload_n (pc := 167) hC 2 rfl rfl dX6_runTo_167 ?_
        obtain ⟨q5, hq5, h⟩ := zbd h
        refine zr_cVv (pc := 168) hC hEk [.int q3, .int v4, .int v1] [] 62 3 (fun l D => tX6_answerBy hEk hq5 l D) gX6_runTo_X6_answerBy rfl rfl rfl ⟨Nat.le_of_ble_eq_true rfl, Nat.le_of_ble_eq_true rfl⟩ hyX6_answerBy (zNC (by decide)) entC_62 rfl rfl rfl (Nat.le_of_ble_eq_true rfl) ⟨Nat.le_of_ble_eq_true rfl, Nat.le_of_ble_eq_true rfl⟩ dX6_runTo_168 ?_
        refine zr_iinc (pc := 171) (k := 6) (lv' := [(6, .int (w1 + (1 : Int32))), (7, .int q3), (0, .ref (ad 62)), (1, .int v1), (3, .int v3), (4, .int v4), (5, .int v5)]) hC zki_1 (by decide) rfl rfl dX6_runTo_171 ?_
        refine zr_goto (pc := 174) (tgt := 130) hC dX6_runTo_174 (by decide) ?_
        obtain rfl := Option.some.inj h
        exact zV.sub (lv' := [(0, .ref (ad 62)), (1, .int v1), (3, .int v3), (4, .int v4), (5, .int v5), (6, .int (w1 + (1 : Int32)))]) [2, 3, 4, 5, 6, 0] rfl (hin q5 (w1 + (1 : Int32)) rfl)
      · replace h := zip h c4
        obtain rfl := Option.some.inj h
        exact zV.sub (lv' := [(0, .ref (ad 62)), (1, .int v1), (3, .int v3), (4, .int v4)]) [1, 2, 3, 4] rfl (hout0 w0 rfl)
def xX6_runTo_L88 (pT : zM) (pP : zP) (v1 : Int32) (v3 : Int32) (w0 : zM) (w1 : Int32) : Option ((zM × Int32) ⊕ zM) :=
  if (24 : Int32) ≤ w1 then
  (some (.inr w0))
  else
  if (w0.1 62 12) = 0 then
  (if ((v3 >>> (w1 &&& 31)) &&& (1 : Int32)) = 0 then
  (some (.inl (w0, (w1 + (1 : Int32)))))
  else
  if w1 = v1 then
  ((x_it (fun a9 => xX6_runTo_L130_L88 pT pP v1 v3 w1 (4 : Int32) a9.1 a9.2) zFU (w0, (0 : Int32))).bind fun q8 =>
  Sum.elim (fun b9 => some (.inl (b9, (w1 + (1 : Int32))))) (fun c10 => some (.inl (c10, (w1 + (1 : Int32))))) q8)
  else
  (x_it (fun a9 => xX6_runTo_L130_L88 pT pP v1 v3 w1 (1 : Int32) a9.1 a9.2) zFU (w0, (0 : Int32))).bind fun q5 =>
  Sum.elim (fun b6 => some (.inl (b6, (w1 + (1 : Int32))))) (fun c7 => some (.inl (c7, (w1 + (1 : Int32))))) q5)
  else
  some (.inr w0)
set_option maxHeartbeats 4000000 in
set_option maxRecDepth 100000 in
theorem tX6_runTo_L88 {κ : Nat → ClassId} {tg : Nat} {S : zEn} {ad : Nat → Nat} {X : zX} {pX : zM} {pF : zM} {pB : zM} {pT : zM} {pP : zP} {v1 : Int32} {v3 : Int32} {w0 : zM} {w1 : Int32} {r : ((zM × Int32) ⊕ zM)} (hC : zC X cX6_runTo RX6 wsX6_runTo vwCl (zty κ) (zE tg S) 8 ({ frames := 3, cells := 0, slots := 0, locals := 71 } : Room)) (hEk : zEk (zE tg S)) (hin : ∀ (x0' : zM) (x1' : Int32), r = .inl (x0', x1') → zV X 0 0 (zwC κ ad pT x0' pX pF pB pP) [(0, .ref (ad 62)), (1, .int v1), (3, .int v3), (4, .int x1')] [] 88) (hout0 : ∀ (x0' : zM), r = .inr x0' → zV X 0 0 (zwC κ ad pT x0' pX pF pB pP) [] [] 183) (h : xX6_runTo_L88 pT pP v1 v3 w0 w1 = some r) : zV X 0 0 (zwC κ ad pT w0 pX pF pB pP) [(0, .ref (ad 62)), (1, .int v1), (3, .int v3), (4, .int w1)] [] 88 := by
  unfold xX6_runTo_L88 at h
  refine zr_iload (pc := 88) hC 3 rfl dX6_runTo_88 ?_
  refine zr_bipush (pc := 90) hC zkb_24 dX6_runTo_90 ?_
  refine zr_icmp_ge (pc := 92) (tgt := 183) hC dX6_runTo_92 (by decide) (fun c1 => ?_) (fun c1 => ?_)
  · replace h := zip h c1
    obtain rfl := Option.some.inj h
    exact zV.sub (lv' := []) [] rfl (hout0 w0 rfl)
  · replace h := zin h c1
    refine zr_aload_n (pc := 95) hC 0 rfl rfl dX6_runTo_95 ?_
    refine zcg_62_12 (pc := 96) hC hinX6_runTo_X6 flX6_runTo_49 dX6_runTo_96 ?_
    refine zr_if_ne (pc := 99) (tgt := 183) hC dX6_runTo_99 (by decide) (fun c2 => ?_) (fun c2 => ?_)
    · replace h := zin h c2
      obtain rfl := Option.some.inj h
      exact zV.sub (lv' := []) [] rfl (hout0 w0 rfl)
    · replace h := zip h c2
      refine zr_iload_n (pc := 102) hC 2 rfl rfl dX6_runTo_102 ?_
      refine zr_iload (pc := 103) hC 3 rfl dX6_runTo_103 ?_
      refine zr_ishr (pc := 105) hC dX6_runTo_105 ?_
      refine zr_iconst (pc := 106) hC zki_1 dX6_runTo_106 ?_
      refine zr_iand (pc := 107) hC dX6_runTo_107 ?_
      refine zr_if_ne (pc := 108) (tgt := 114) hC dX6_runTo_108 (by decide) (fun c3 => ?_) (fun c3 => ?_)
      · replace h := zin h c3
        refine zr_iload (pc := 114) hC 3 rfl dX6_runTo_114 ?_
        refine zr_iload_n (pc := 116) hC 1 rfl rfl dX6_runTo_116 ?_
        refine zr_icmp_ne (pc := 117) (tgt := 124) hC dX6_runTo_117 (by decide) (fun c4 => ?_) (fun c4 => ?_)
        · replace h := zin h c4
          refine zr_iconst (pc := 124) hC zki_1 dX6_runTo_124 ?_
          refine zr_istore (pc := 125) (lv' := [(5, .int (1 : Int32)), (0, .ref (ad 62)), (1, .int v1), (3, .int v3), (4, .int w1)]) hC (by decide) rfl dX6_runTo_125 ?_
          refine zr_iconst (pc := 127) hC zki_0 dX6_runTo_127 ?_
          refine zr_istore (pc := 128) (lv' := [(6, .int (0 : Int32)), (5, .int (1 : Int32)), (0, .ref (ad 62)), (1, .int v1), (3, .int v3), (4, .int w1)]) hC (by decide) rfl dX6_runTo_128 ?_
          obtain ⟨q5, hq5, h⟩ := zbd h
          refine zV.sub (lv' := [(0, .ref (ad 62)), (1, .int v1), (3, .int v3), (4, .int w1), (5, .int (1 : Int32)), (6, .int (0 : Int32))]) [2, 3, 4, 5, 1, 0] rfl ?_
          refine zit2 (Wp := fun (y0 : zM) (y1 : Int32) => zV X 0 0 (zwC κ ad pT y0 pX pF pB pP) [(0, .ref (ad 62)), (1, .int v1), (3, .int v3), (4, .int w1), (5, .int (1 : Int32)), (6, .int y1)] [] 130) (Ex := fun (b9 : (zM ⊕ zM)) => Sum.elim (fun (b0 : zM) => zV X 0 0 (zwC κ ad pT b0 pX pF pB pP) [(0, .ref (ad 62)), (1, .int v1), (3, .int v3), (4, .int w1)] [] 159) (fun (c0 : zM) => zV X 0 0 (zwC κ ad pT c0 pX pF pB pP) [(0, .ref (ad 62)), (1, .int v1), (3, .int v3), (4, .int w1)] [] 177) b9) (fun y0 y1 r9 hr hin hout => tX6_runTo_L130_L88 hC hEk hin (fun z0 e9 => hout (.inl z0) e9) (fun z0 e9 => hout (.inr z0) e9) hr) zFU w0 (0 : Int32) q5 hq5 ?_
          rcases q5 with b6 | c7
          · replace h := zel h
            show zV X 0 0 (zwC κ ad pT b6 pX pF pB pP) [(0, .ref (ad 62)), (1, .int v1), (3, .int v3), (4, .int w1)] [] 159
            refine zr_goto (pc := 159) (tgt := 177) hC dX6_runTo_159 (by decide) ?_
            refine zr_iinc (pc := 177) (k := 3) (lv' := [(4, .int (w1 + (1 : Int32))), (0, .ref (ad 62)), (1, .int v1), (3, .int v3)]) hC zki_1 (by decide) rfl rfl dX6_runTo_177 ?_
            refine zr_goto (pc := 180) (tgt := 88) hC dX6_runTo_180 (by decide) ?_
            obtain rfl := Option.some.inj h
            exact zV.sub (lv' := [(0, .ref (ad 62)), (1, .int v1), (3, .int v3), (4, .int (w1 + (1 : Int32)))]) [1, 2, 3, 0] rfl (hin b6 (w1 + (1 : Int32)) rfl)
          · replace h := zer h
            show zV X 0 0 (zwC κ ad pT c7 pX pF pB pP) [(0, .ref (ad 62)), (1, .int v1), (3, .int v3), (4, .int w1)] [] 177
            refine zr_iinc (pc := 177) (k := 3) (lv' := [(4, .int (w1 + (1 : Int32))), (0, .ref (ad 62)), (1, .int v1), (3, .int v3)]) hC zki_1 (by decide) rfl rfl dX6_runTo_177 ?_
            refine zr_goto (pc := 180) (tgt := 88) hC dX6_runTo_180 (by decide) ?_
            obtain rfl := Option.some.inj h
            exact zV.sub (lv' := [(0, .ref (ad 62)), (1, .int v1), (3, .int v3), (4, .int (w1 + (1 : Int32)))]) [1, 2, 3, 0] rfl (hin c7 (w1 + (1 : Int32)) rfl)
        · replace h := zip h c4
          refine zr_iconst (pc := 120) hC zki_4 dX6_runTo_120 ?_
          refine zr_goto (pc := 121) (tgt := 125) hC dX6_runTo_121 (by decide) ?_
          refine zr_istore (pc := 125) (lv' := [(5, .int (4 : Int32)), (0, .ref (ad 62)), (1, .int v1), (3, .int v3), (4, .int w1)]) hC (by decide) rfl dX6_runTo_125 ?_
          refine zr_iconst (pc := 127) hC zki_0 dX6_runTo_127 ?_
          refine zr_istore (pc := 128) (lv' := [(6, .int (0 : Int32)), (5, .int (4 : Int32)), (0, .ref (ad 62)), (1, .int v1), (3, .int v3), (4, .int w1)]) hC (by decide) rfl dX6_runTo_128 ?_
          obtain ⟨q8, hq8, h⟩ := zbd h
          refine zV.sub (lv' := [(0, .ref (ad 62)), (1, .int v1), (3, .int v3), (4, .int w1), (5, .int (4 : Int32)), (6, .int (0 : Int32))]) [2, 3, 4, 5, 1, 0] rfl ?_
          refine zit2 (Wp := fun (y0 : zM) (y1 : Int32) => zV X 0 0 (zwC κ ad pT y0 pX pF pB pP) [(0, .ref (ad 62)), (1, .int v1), (3, .int v3), (4, .int w1), (5, .int (4 : Int32)), (6, .int y1)] [] 130) (Ex := fun (b9 : (zM ⊕ zM)) => Sum.elim (fun (b0 : zM) => zV X 0 0 (zwC κ ad pT b0 pX pF pB pP) [(0, .ref (ad 62)), (1, .int v1), (3, .int v3), (4, .int w1)] [] 159) (fun (c0 : zM) => zV X 0 0 (zwC κ ad pT c0 pX pF pB pP) [(0, .ref (ad 62)), (1, .int v1), (3, .int v3), (4, .int w1)] [] 177) b9) (fun y0 y1 r9 hr hin hout => tX6_runTo_L130_L88 hC hEk hin (fun z0 e9 => hout (.inl z0) e9) (fun z0 e9 => hout (.inr z0) e9) hr) zFU w0 (0 : Int32) q8 hq8 ?_
          rcases q8 with b9 | c10
          · replace h := zel h
            show zV X 0 0 (zwC κ ad pT b9 pX pF pB pP) [(0, .ref (ad 62)), (1, .int v1), (3, .int v3), (4, .int w1)] [] 159
            refine zr_goto (pc := 159) (tgt := 177) hC dX6_runTo_159 (by decide) ?_
            refine zr_iinc (pc := 177) (k := 3) (lv' := [(4, .int (w1 + (1 : Int32))), (0, .ref (ad 62)), (1, .int v1), (3, .int v3)]) hC zki_1 (by decide) rfl rfl dX6_runTo_177 ?_
            refine zr_goto (pc := 180) (tgt := 88) hC dX6_runTo_180 (by decide) ?_
            obtain rfl := Option.some.inj h
            exact zV.sub (lv' := [(0, .ref (ad 62)), (1, .int v1), (3, .int v3), (4, .int (w1 + (1 : Int32)))]) [1, 2, 3, 0] rfl (hin b9 (w1 + (1 : Int32)) rfl)
          · replace h := zer h
            show zV X 0 0 (zwC κ ad pT c10 pX pF pB pP) [(0, .ref (ad 62)), (1, .int v1), (3, .int v3), (4, .int w1)] [] 177
            refine zr_iinc (pc := 177) (k := 3) (lv' := [(4, .int (w1 + (1 : Int32))), (0, .ref (ad 62)), (1, .int v1), (3, .int v3)]) hC zki_1 (by decide) rfl rfl dX6_runTo_177 ?_
            refine zr_goto (pc := 180) (tgt := 88) hC dX6_runTo_180 (by decide) ?_
            obtain rfl := Option.some.inj h
            exact zV.sub (lv' := [(0, .ref (ad 62)), (1, .int v1), (3, .int v3), (4, .int (w1 + (1 : Int32)))]) [1, 2, 3, 0] rfl (hin c10 (w1 + (1 : Int32)) rfl)
      · replace h := zip h c3
        refine zr_goto (pc := 111) (tgt := 177) hC dX6_runTo_111 (by decide) ?_
        refine zr_iinc (pc := 177) (k := 3) (lv' := [(4, .int (w1 + (1 : Int32))), (0, .ref (ad 62)), (1, .int v1), (3, .int v3)]) hC zki_1 (by decide) rfl rfl dX6_runTo_177 ?_
        refine zr_goto (pc := 180) (tgt := 88) hC dX6_runTo_180 (by decide) ?_
        obtain rfl := Option.some.inj h
        exact zV.sub (lv' := [(0, .ref (ad 62)), (1, .int v1), (3, .int v3), (4, .int (w1 + (1 : Int32)))]) [1, 2, 3, 0] rfl (hin w0 (w1 + (1 : Int32)) rfl)
def xX6_runTo (pT : zM) (pR : zM) (pP : zP) (v1 : Int32) : Option zM :=
  zlet (zsi pR 62 8 (-9 : Int32)) fun M1 =>
  zlet (zsi M1 62 9 (-9 : Int32)) fun M3 =>
  zlet (zsi M3 62 10 (-9 : Int32)) fun M5 =>
  zlet (zsi M5 62 11 (0 : Int32)) fun M7 =>
  zlet (zsi M7 62 12 (0 : Int32)) fun M9 =>
  (x_it (fun a9 => xX6_runTo_L32 pT pP v1 a9.1 a9.2.1 a9.2.2) zFU (M9, (0 : Int32), (0 : Int32))).bind fun q11 =>
  (xX10_wayTo pT v1).bind fun q12 =>
  zlet (q12 &&& q11.2) fun z13 =>
  (x_it (fun a9 => xX6_runTo_L88 pT pP v1 z13 a9.1 a9.2) zFU (q11.1, (1 : Int32))).bind fun q15 =>
  some q15
set_option maxHeartbeats 4000000 in
set_option maxRecDepth 100000 in
theorem tX6_runTo {κ : Nat → ClassId} {tg : Nat} {S : zEn} {ad : Nat → Nat} (hEk : zEk (zE tg S)) {pT : zM} {pR : zM} {pX : zM} {pF : zM} {pB : zM} {pP : zP} {v1 : Int32} {res : zM} (h : xX6_runTo pT pR pP v1 = some res) (l : Launch) (D : va_G) : zCT (zE tg S) D vwCl (zty κ) l yX6_runTo wsX6_runTo ({ frames := 3, cells := 0, slots := 0, locals := 71 } : Room) 0 0 [.ref (ad 62), .int v1] (zwC κ ad pT pR pX pF pB pP) (zPd none (zwC κ ad pT res pX pF pB pP)) := by
  refine zCT.of (cc := cX6_runTo) (maxL := 8) (ret := none) (by decide) rfl (Nat.le_of_ble_eq_true rfl) ?_
  intro X hC hR
  unfold xX6_runTo at h
  refine zV.sub (lv' := [(0, .ref (ad 62)), (1, .int v1)]) [0, 1] rfl ?_
  refine zr_aload_n (pc := 0) hC 0 rfl rfl dX6_runTo_0 ?_
  refine zr_bipush (pc := 1) hC zkb_m9 dX6_runTo_1 ?_
  obtain ⟨M1, e2, h⟩ := zle h
  refine zcp_62_8 (pc := 3) hC hinX6_runTo_X6 flX6_runTo_37 e2 dX6_runTo_3 ?_
  refine zr_aload_n (pc := 6) hC 0 rfl rfl dX6_runTo_6 ?_
  refine zr_bipush (pc := 7) hC zkb_m9 dX6_runTo_7 ?_
  obtain ⟨M3, e4, h⟩ := zle h
  refine zcp_62_9 (pc := 9) hC hinX6_runTo_X6 flX6_runTo_40 e4 dX6_runTo_9 ?_
  refine zr_aload_n (pc := 12) hC 0 rfl rfl dX6_runTo_12 ?_
  refine zr_bipush (pc := 13) hC zkb_m9 dX6_runTo_13 ?_
  obtain ⟨M5, e6, h⟩ := zle h
  refine zcp_62_10 (pc := 15) hC hinX6_runTo_X6 flX6_runTo_43 e6 dX6_runTo_15 ?_
  refine zr_aload_n (pc := 18) hC 0 rfl rfl dX6_runTo_18 ?_
  refine zr_iconst (pc := 19) hC zki_0 dX6_runTo_19 ?_
  obtain ⟨M7, e8, h⟩ := zle h
  refine zcp_62_11 (pc := 20) hC hinX6_runTo_X6 flX6_runTo_46 e8 dX6_runTo_20 ?_
  refine zr_aload_n (pc := 23) hC 0 rfl rfl dX6_runTo_23 ?_
  refine zr_iconst (pc := 24) hC zki_0 dX6_runTo_24 ?_
  obtain ⟨M9, e10, h⟩ := zle h
  refine zcp_62_12 (pc := 25) hC hinX6_runTo_X6 flX6_runTo_49 (by decide) e10 dX6_runTo_25 ?_
  refine zr_iconst (pc := 28) hC zki_0 dX6_runTo_28 ?_
  refine zr_istore_n (pc := 29) (lv' := [(2, .int (0 : Int32)), (0, .ref (ad 62)), (1, .int v1)]) hC rfl (by decide) rfl dX6_runTo_29 ?_
  refine zr_iconst (pc := 30) hC zki_0 dX6_runTo_30 ?_
  refine zr_istore_n (pc := 31) (lv' := [(3, .int (0 : Int32)), (2, .int (0 : Int32)), (0, .ref (ad 62)), (1, .int v1)]) hC rfl (by decide) rfl dX6_runTo_31 ?_
  obtain ⟨q11, hq11, h⟩ := zbd h
  refine zV.sub (lv' := [(0, .ref (ad 62)), (1, .int v1), (2, .int (0 : Int32)), (3, .int (0 : Int32))]) [2, 3, 1, 0] rfl ?_
  refine zit3 (Wp := fun (y0 : zM) (y1 : Int32) (y2 : Int32) => zV X 0 0 (zwC κ ad pT y0 pX pF pB pP) [(0, .ref (ad 62)), (1, .int v1), (2, .int y1), (3, .int y2)] [] 32) (Ex := fun (b9 : (zM × Int32)) => zV X 0 0 (zwC κ ad pT b9.1 pX pF pB pP) [(0, .ref (ad 62)), (1, .int v1), (2, .int b9.2)] [] 74) (fun y0 y1 y2 r9 hr hin hout => tX6_runTo_L32 hC hEk hin (fun z0 z1 e9 => hout (z0, z1) e9) hr) zFU M9 (0 : Int32) (0 : Int32) q11 hq11 ?_
  show zV X 0 0 (zwC κ ad pT q11.1 pX pF pB pP) [(0, .ref (ad 62)), (1, .int v1), (2, .int q11.2)] [] 74
  refine zr_aload_n (pc := 74) hC 0 rfl rfl dX6_runTo_74 ?_
  refine zcg_62_0 (pc := 75) hC hinX6_runTo_X6 flX6_runTo_67 dX6_runTo_75 ?_
  refine zr_iload_n (pc := 78) hC 1 rfl rfl dX6_runTo_78 ?_
  obtain ⟨q12, hq12, h⟩ := zbd h
  refine zr_cVi (pc := 79) hC hEk [.int v1] [] 0 1 (fun l D => tX10_wayTo hEk hq12 l D) gX6_runTo_X10_wayTo rfl rfl rfl ⟨Nat.le_of_ble_eq_true rfl, Nat.le_of_ble_eq_true rfl⟩ hyX10_wayTo (zNC (by decide)) entC_0 rfl rfl rfl (Nat.le_of_ble_eq_true rfl) ⟨Nat.le_of_ble_eq_true rfl, Nat.le_of_ble_eq_true rfl⟩ dX6_runTo_79 ?_
  refine zr_iload_n (pc := 82) hC 2 rfl rfl dX6_runTo_82 ?_
  refine zr_iand (pc := 83) hC dX6_runTo_83 ?_
  obtain ⟨z13, e14, h⟩ := zle h
  refine zr_topi e14 ?_
  refine zr_istore_n (pc := 84) (lv' := [(3, .int z13), (0, .ref (ad 62)), (1, .int v1), (2, .int q11.2)]) hC rfl (by decide) rfl dX6_runTo_84 ?_
  refine zr_iconst (pc := 85) hC zki_1 dX6_runTo_85 ?_
  refine zr_istore (pc := 86) (lv' := [(4, .int (1 : Int32)), (3, .int z13), (0, .ref (ad 62)), (1, .int v1), (2, .int q11.2)]) hC (by decide) rfl dX6_runTo_86 ?_
  obtain ⟨q15, hq15, h⟩ := zbd h
  refine zV.sub (lv' := [(0, .ref (ad 62)), (1, .int v1), (3, .int z13), (4, .int (1 : Int32))]) [2, 3, 1, 0] rfl ?_
  refine zit2 (Wp := fun (y0 : zM) (y1 : Int32) => zV X 0 0 (zwC κ ad pT y0 pX pF pB pP) [(0, .ref (ad 62)), (1, .int v1), (3, .int z13), (4, .int y1)] [] 88) (Ex := fun (b9 : zM) => zV X 0 0 (zwC κ ad pT b9 pX pF pB pP) [] [] 183) (fun y0 y1 r9 hr hin hout => tX6_runTo_L88 hC hEk hin (fun z0 e9 => hout z0 e9) hr) zFU q11.1 (1 : Int32) q15 hq15 ?_
  show zV X 0 0 (zwC κ ad pT q15 pX pF pB pP) [] [] 183
  obtain rfl := Option.some.inj h
  exact zr_vret hC hR ⟨rfl, rfl⟩ (Nat.le_refl _) (Nat.le_refl _) dX6_runTo_183
/-! X10_isEnd -/
theorem hyX10_isEnd : yX10_isEnd.cls = RX10 ∧ yX10_isEnd.cls ≠ "java/lang/invoke/MethodHandle" ∧ yX10_isEnd.cls ≠ "java/lang/invoke/VarHandle" ∧ (parseMethodDescriptor yX10_isEnd.desc).map (fun d => d.parameters.length) = some 1 := by decide +kernel
theorem flX10_isEnd_18 : Cond.fieldLink RX10 18 "BeforeTheEnd$Tree" "answer" "[I" ∈ wsX10_isEnd := by decide +kernel
theorem hinX10_isEnd_X10 : ∀ w ∈ wsX100, w ∈ wsX10_isEnd := fun _ h => List.mem_cons_of_mem _ (List.mem_append_right _ h)
def xX10_isEnd (pT : zM) (v1 : Int32) : Option Int32 :=
  (xX10_has pT v1).bind fun q1 =>
  if q1 = 0 then
  (some (0 : Int32))
  else
  if (v1 < 0 ∨ 24 ≤ v1.toNatClampNeg) then none else
  if (pT.1 3 v1.toNatClampNeg) ≤ 0 then
  (some (0 : Int32))
  else
  some (1 : Int32)
set_option maxHeartbeats 4000000 in
set_option maxRecDepth 100000 in
theorem tX10_isEnd {κ : Nat → ClassId} {tg : Nat} {S : zEn} {ad : Nat → Nat} (hEk : zEk (zE tg S)) {pT : zM} {pR : zM} {pX : zM} {pF : zM} {pB : zM} {pP : zP} {v1 : Int32} {res : Int32} (h : xX10_isEnd pT v1 = some res) (l : Launch) (D : va_G) : zCT (zE tg S) D vwCl (zty κ) l yX10_isEnd wsX10_isEnd ({ frames := 1, cells := 0, slots := 0, locals := 21 } : Room) 0 0 [.ref (ad 0), .int v1] (zwC κ ad pT pR pX pF pB pP) (zPd (some (.int res)) (zwC κ ad pT pR pX pF pB pP)) := by
  refine zCT.of (cc := cX10_isEnd) (maxL := 2) (ret := (some .boolean)) (by decide) rfl (Nat.le_of_ble_eq_true rfl) ?_
  intro X hC hR
  unfold xX10_isEnd at h
  refine zV.sub (lv' := [(0, .ref (ad 0)), (1, .int v1)]) [0, 1] rfl ?_
  refine zr_aload_n (pc := 0) hC 0 rfl rfl dX10_isEnd_0 ?_
  refine zr_iload_n (pc := 1) hC 1 rfl rfl dX10_isEnd_1 ?_
  obtain ⟨q1, hq1, h⟩ := zbd h
  refine zr_cVi (pc := 2) hC hEk [.int v1] [] 0 1 (fun l D => tX10_has hEk hq1 l D) gX10_isEnd_X10_has rfl rfl rfl ⟨Nat.le_of_ble_eq_true rfl, Nat.le_of_ble_eq_true rfl⟩ hyX10_has (zNC (by decide)) entC_0 rfl rfl rfl (Nat.le_of_ble_eq_true rfl) ⟨Nat.le_of_ble_eq_true rfl, Nat.le_of_ble_eq_true rfl⟩ dX10_isEnd_2 ?_
  refine zr_if_eq (pc := 5) (tgt := 21) hC dX10_isEnd_5 (by decide) (fun c2 => ?_) (fun c2 => ?_)
  · replace h := zip h c2
    refine zr_iconst (pc := 21) hC zki_0 dX10_isEnd_21 ?_
    obtain rfl := Option.some.inj h
    exact zr_zret hC hR (by decide) ⟨rfl, rfl⟩ (Nat.le_refl _) (Nat.le_refl _) dX10_isEnd_22
  · replace h := zin h c2
    refine zr_aload_n (pc := 8) hC 0 rfl rfl dX10_isEnd_8 ?_
    refine zcg_0_2 (pc := 9) hC hinX10_isEnd_X10 flX10_isEnd_18 dX10_isEnd_9 ?_
    refine zr_iload_n (pc := 12) hC 1 rfl rfl dX10_isEnd_12 ?_
    obtain ⟨i3, h⟩ := zgd h
    refine zcl_3 (pc := 13) hC i3 dX10_isEnd_13 ?_
    refine zr_if_le (pc := 14) (tgt := 21) hC dX10_isEnd_14 (by decide) (fun c4 => ?_) (fun c4 => ?_)
    · replace h := zip h c4
      refine zr_iconst (pc := 21) hC zki_0 dX10_isEnd_21 ?_
      obtain rfl := Option.some.inj h
      exact zr_zret hC hR (by decide) ⟨rfl, rfl⟩ (Nat.le_refl _) (Nat.le_refl _) dX10_isEnd_22
    · replace h := zin h c4
      refine zr_iconst (pc := 17) hC zki_1 dX10_isEnd_17 ?_
      refine zr_goto (pc := 18) (tgt := 22) hC dX10_isEnd_18 (by decide) ?_
      obtain rfl := Option.some.inj h
      exact zr_zret hC hR (by decide) ⟨rfl, rfl⟩ (Nat.le_refl _) (Nat.le_refl _) dX10_isEnd_22
/-! X10_timesOf -/
theorem hyX10_timesOf : yX10_timesOf.cls = RX10 ∧ yX10_timesOf.cls ≠ "java/lang/invoke/MethodHandle" ∧ yX10_timesOf.cls ≠ "java/lang/invoke/VarHandle" ∧ (parseMethodDescriptor yX10_timesOf.desc).map (fun d => d.parameters.length) = some 1 := by decide +kernel
theorem flX10_timesOf_43 : Cond.fieldLink RX10 43 "BeforeTheEnd$Tree" "times" "[J" ∈ wsX10_timesOf := by decide +kernel
theorem hinX10_timesOf_X10 : ∀ w ∈ wsX100, w ∈ wsX10_timesOf := fun _ h => List.mem_cons_of_mem _ (List.mem_append_right _ h)
def xX10_timesOf (pT : zM) (v1 : Int32) : Option Int64 :=
  (xX10_has pT v1).bind fun q1 =>
  if q1 = 0 then
  (some (0 : Int64))
  else
  if (v1 < 0 ∨ 24 ≤ v1.toNatClampNeg) then none else
  some (pT.2 11 v1.toNatClampNeg)
set_option maxHeartbeats 4000000 in
set_option maxRecDepth 100000 in
theorem tX10_timesOf {κ : Nat → ClassId} {tg : Nat} {S : zEn} {ad : Nat → Nat} (hEk : zEk (zE tg S)) {pT : zM} {pR : zM} {pX : zM} {pF : zM} {pB : zM} {pP : zP} {v1 : Int32} {res : Int64} (h : xX10_timesOf pT v1 = some res) (l : Launch) (D : va_G) : zCT (zE tg S) D vwCl (zty κ) l yX10_timesOf wsX10_timesOf ({ frames := 1, cells := 0, slots := 0, locals := 21 } : Room) 0 0 [.ref (ad 0), .int v1] (zwC κ ad pT pR pX pF pB pP) (zPd (some (.long res)) (zwC κ ad pT pR pX pF pB pP)) := by
  refine zCT.of (cc := cX10_timesOf) (maxL := 2) (ret := (some .long)) (by decide) rfl (Nat.le_of_ble_eq_true rfl) ?_
  intro X hC hR
  unfold xX10_timesOf at h
  refine zV.sub (lv' := [(0, .ref (ad 0)), (1, .int v1)]) [0, 1] rfl ?_
  refine zr_aload_n (pc := 0) hC 0 rfl rfl dX10_timesOf_0 ?_
  refine zr_iload_n (pc := 1) hC 1 rfl rfl dX10_timesOf_1 ?_
  obtain ⟨q1, hq1, h⟩ := zbd h
  refine zr_cVi (pc := 2) hC hEk [.int v1] [] 0 1 (fun l D => tX10_has hEk hq1 l D) gX10_timesOf_X10_has rfl rfl rfl ⟨Nat.le_of_ble_eq_true rfl, Nat.le_of_ble_eq_true rfl⟩ hyX10_has (zNC (by decide)) entC_0 rfl rfl rfl (Nat.le_of_ble_eq_true rfl) ⟨Nat.le_of_ble_eq_true rfl, Nat.le_of_ble_eq_true rfl⟩ dX10_timesOf_2 ?_
  refine zr_if_eq (pc := 5) (tgt := 17) hC dX10_timesOf_5 (by decide) (fun c2 => ?_) (fun c2 => ?_)
  · replace h := zip h c2
    refine zr_lconst (pc := 17) hC zkl_0 dX10_timesOf_17 ?_
    obtain rfl := Option.some.inj h
    exact zr_lret hC hR ⟨rfl, rfl⟩ (Nat.le_refl _) (Nat.le_refl _) dX10_timesOf_18
  · replace h := zin h c2
    refine zr_aload_n (pc := 8) hC 0 rfl rfl dX10_timesOf_8 ?_
    refine zcg_0_10 (pc := 9) hC hinX10_timesOf_X10 flX10_timesOf_43 dX10_timesOf_9 ?_
    refine zr_iload_n (pc := 12) hC 1 rfl rfl dX10_timesOf_12 ?_
    obtain ⟨i3, h⟩ := zgd h
    refine zcl_11 (pc := 13) hC i3 dX10_timesOf_13 ?_
    refine zr_goto (pc := 14) (tgt := 18) hC dX10_timesOf_14 (by decide) ?_
    obtain rfl := Option.some.inj h
    exact zr_lret hC hR ⟨rfl, rfl⟩ (Nat.le_refl _) (Nat.le_refl _) dX10_timesOf_18
/-! X6_total -/
theorem hyX6_total : yX6_total.cls = RX6 ∧ yX6_total.cls ≠ "java/lang/invoke/MethodHandle" ∧ yX6_total.cls ≠ "java/lang/invoke/VarHandle" ∧ (parseMethodDescriptor yX6_total.desc).map (fun d => d.parameters.length) = some 2 := by decide +kernel
theorem flX6_total_37 : Cond.fieldLink RX6 37 "BeforeTheEnd$Race" "winner" "I" ∈ wsX6_total := by decide +kernel
theorem flX6_total_67 : Cond.fieldLink RX6 67 "BeforeTheEnd$Race" "tree" "LBeforeTheEnd$Tree;" ∈ wsX6_total := by decide +kernel
theorem hinX6_total_X6 : ∀ w ∈ wsX60, w ∈ wsX6_total := fun _ h => List.mem_cons_of_mem _ (List.mem_append_left _ (List.mem_append_left _ (List.mem_append_left _ (List.mem_append_left _ (List.mem_append_left _ (List.mem_append_left _ (List.mem_append_left _ (List.mem_append_right _ h))))))))
theorem hinX6_total_X10 : ∀ w ∈ wsX100, w ∈ wsX6_total := fun _ h => List.mem_cons_of_mem _ (List.mem_append_left _ (List.mem_append_left _ (List.mem_append_left _ (List.mem_append_left _ (List.mem_append_left _ (List.mem_append_left _ (List.mem_append_right _ h)))))))
theorem hinX6_total_X0 : ∀ w ∈ wsX00, w ∈ wsX6_total := fun _ h => List.mem_cons_of_mem _ (List.mem_append_left _ (List.mem_append_left _ (List.mem_append_left _ (List.mem_append_left _ (List.mem_append_left _ (List.mem_append_right _ h))))))
theorem hinX6_total_X1 : ∀ w ∈ wsX10, w ∈ wsX6_total := fun _ h => List.mem_cons_of_mem _ (List.mem_append_left _ (List.mem_append_left _ (List.mem_append_left _ (List.mem_append_left _ (List.mem_append_right _ h)))))
theorem hinX6_total_X2 : ∀ w ∈ wsX20, w ∈ wsX6_total := fun _ h => List.mem_cons_of_mem _ (List.mem_append_left _ (List.mem_append_left _ (List.mem_append_left _ (List.mem_append_right _ h))))
theorem hinX6_total_X4 : ∀ w ∈ wsX40, w ∈ wsX6_total := fun _ h => List.mem_cons_of_mem _ (List.mem_append_left _ (List.mem_append_left _ (List.mem_append_right _ h)))
theorem hinX6_total_X7 : ∀ w ∈ wsX70, w ∈ wsX6_total := fun _ h => List.mem_cons_of_mem _ (List.mem_append_left _ (List.mem_append_right _ h))
theorem hinX6_total_X9 : ∀ w ∈ wsX90, w ∈ wsX6_total := fun _ h => List.mem_cons_of_mem _ (List.mem_append_right _ h)
def xX6_total_b57_5 (pT : zM) (pR : zM) (pP : zP) (v1 : Int32) (v2 : Int32) (v3 : Int64) (v5 : Int32) : Option ((zM × Int64 × Int32) ⊕ (zM × Int64)) :=
  if v1 = (1 : Int32) then
  ((xX10_timesOf pT v5).bind fun q7 =>
  (xX6_gainOf pR v2).bind fun q8 =>
  zlet (v3 + (q7 * q8.toInt64)) fun z9 =>
  if v1 = (2 : Int32) then
  (if (pR.1 62 8) = (-9 : Int32) then
  ((xX10_timesOf pT v5).bind fun q13 =>
  zlet (z9 + q13) fun z14 =>
  some (.inl (pR, z14, (v5 + (1 : Int32)))))
  else
  some (.inl (pR, z9, (v5 + (1 : Int32)))))
  else
  some (.inl (pR, z9, (v5 + (1 : Int32)))))
  else
  if v1 = (2 : Int32) then
  (if (pR.1 62 8) = (-9 : Int32) then
  ((xX10_timesOf pT v5).bind fun q4 =>
  zlet (v3 + q4) fun z5 =>
  some (.inl (pR, z5, (v5 + (1 : Int32)))))
  else
  some (.inl (pR, v3, (v5 + (1 : Int32)))))
  else
  some (.inl (pR, v3, (v5 + (1 : Int32))))
set_option maxHeartbeats 4000000 in
set_option maxRecDepth 100000 in
theorem tX6_total_b57_5 {κ : Nat → ClassId} {tg : Nat} {S : zEn} {ad : Nat → Nat} {X : zX} {pX : zM} {pF : zM} {pB : zM} {pT : zM} {pR : zM} {pP : zP} {v1 : Int32} {v2 : Int32} {v3 : Int64} {v5 : Int32} {r : ((zM × Int64 × Int32) ⊕ (zM × Int64))} (hC : zC X cX6_total RX6 wsX6_total vwCl (zty κ) (zE tg S) 6 ({ frames := 4, cells := 0, slots := 0, locals := 98 } : Room)) (hEk : zEk (zE tg S)) (hin : ∀ (x0' : zM) (x1' : Int64) (x2' : Int32), r = .inl (x0', x1', x2') → zV X 0 0 (zwC κ ad pT x0' pX pF pB pP) [(0, .ref (ad 62)), (1, .int v1), (2, .int v2), (3, .long x1'), (5, .int x2')] [] 5) (hout0 : ∀ (x0' : zM) (x1' : Int64), r = .inr (x0', x1') → zV X 0 0 (zwC κ ad pT x0' pX pF pB pP) [(3, .long x1')] [] 113) (h : xX6_total_b57_5 pT pR pP v1 v2 v3 v5  = some r) : zV X 0 0 (zwC κ ad pT pR pX pF pB pP) [(0, .ref (ad 62)), (1, .int v1), (2, .int v2), (3, .long v3), (5, .int v5)] [] 57 := by
  unfold xX6_total_b57_5 at h
  refine zr_iload_n (pc := 57) hC 1 rfl rfl dX6_total_57 ?_
  refine zr_iconst (pc := 58) hC zki_1 dX6_total_58 ?_
  refine zr_icmp_ne (pc := 59) (tgt := 81) hC dX6_total_59 (by decide) (fun c1 => ?_) (fun c1 => ?_)
  · replace h := zin h c1
    refine zr_iload_n (pc := 81) hC 1 rfl rfl dX6_total_81 ?_
    refine zr_iconst (pc := 82) hC zki_2 dX6_total_82 ?_
    refine zr_icmp_ne (pc := 83) (tgt := 107) hC dX6_total_83 (by decide) (fun c2 => ?_) (fun c2 => ?_)
    · replace h := zin h c2
      refine zr_iinc (pc := 107) (k := 4) (lv' := [(5, .int (v5 + (1 : Int32))), (0, .ref (ad 62)), (1, .int v1), (2, .int v2), (3, .long v3)]) hC zki_1 (by decide) rfl rfl dX6_total_107 ?_
      refine zr_goto (pc := 110) (tgt := 5) hC dX6_total_110 (by decide) ?_
      obtain rfl := Option.some.inj h
      exact zV.sub (lv' := [(0, .ref (ad 62)), (1, .int v1), (2, .int v2), (3, .long v3), (5, .int (v5 + (1 : Int32)))]) [1, 2, 3, 4, 0] rfl (hin pR v3 (v5 + (1 : Int32)) rfl)
    · replace h := zip h c2
      refine zr_aload_n (pc := 86) hC 0 rfl rfl dX6_total_86 ?_
      refine zcg_62_8 (pc := 87) hC hinX6_total_X6 flX6_total_37 dX6_total_87 ?_
      refine zr_bipush (pc := 90) hC zkb_m9 dX6_total_90 ?_
      refine zr_icmp_ne (pc := 92) (tgt := 107) hC dX6_total_92 (by decide) (fun c3 => ?_) (fun c3 => ?_)
      · replace h := zin h c3
        refine zr_iinc (pc := 107) (k := 4) (lv' := [(5, .int (v5 + (1 : Int32))), (0, .ref (ad 62)), (1, .int v1), (2, .int v2), (3, .long v3)]) hC zki_1 (by decide) rfl rfl dX6_total_107 ?_
        refine zr_goto (pc := 110) (tgt := 5) hC dX6_total_110 (by decide) ?_
        obtain rfl := Option.some.inj h
        exact zV.sub (lv' := [(0, .ref (ad 62)), (1, .int v1), (2, .int v2), (3, .long v3), (5, .int (v5 + (1 : Int32)))]) [1, 2, 3, 4, 0] rfl (hin pR v3 (v5 + (1 : Int32)) rfl)
      · replace h := zip h c3
        refine zr_lload_n (pc := 95) hC 3 rfl rfl dX6_total_95 ?_
        refine zr_aload_n (pc := 96) hC 0 rfl rfl dX6_total_96 ?_
        refine zcg_62_0 (pc := 97) hC hinX6_total_X6 flX6_total_67 dX6_total_97 ?_
        refine zr_iload (pc := 100) hC 4 rfl dX6_total_100 ?_
        obtain ⟨q4, hq4, h⟩ := zbd h
        refine zr_cVl (pc := 102) hC hEk [.int v5] [.long v3] 0 1 (fun l D => tX10_timesOf hEk hq4 l D) gX6_total_X10_timesOf rfl rfl rfl ⟨Nat.le_of_ble_eq_true rfl, Nat.le_of_ble_eq_true rfl⟩ hyX10_timesOf (zNC (by decide)) entC_0 rfl rfl rfl (Nat.le_of_ble_eq_true rfl) ⟨Nat.le_of_ble_eq_true rfl, Nat.le_of_ble_eq_true rfl⟩ dX6_total_102 ?_
        refine zr_ladd (pc := 105) hC dX6_total_105 ?_
        obtain ⟨z5, e6, h⟩ := zle h
        refine zr_topl e6 ?_
        refine zr_lstore_n (pc := 106) (lv' := [(3, .long z5), (0, .ref (ad 62)), (1, .int v1), (2, .int v2), (5, .int v5)]) hC rfl (by decide) rfl dX6_total_106 ?_
        refine zr_iinc (pc := 107) (k := 4) (lv' := [(5, .int (v5 + (1 : Int32))), (3, .long z5), (0, .ref (ad 62)), (1, .int v1), (2, .int v2)]) hC zki_1 (by decide) rfl rfl dX6_total_107 ?_
        refine zr_goto (pc := 110) (tgt := 5) hC dX6_total_110 (by decide) ?_
        obtain rfl := Option.some.inj h
        exact zV.sub (lv' := [(0, .ref (ad 62)), (1, .int v1), (2, .int v2), (3, .long z5), (5, .int (v5 + (1 : Int32)))]) [2, 3, 4, 1, 0] rfl (hin pR z5 (v5 + (1 : Int32)) rfl)
  · replace h := zip h c1
    refine zr_lload_n (pc := 62) hC 3 rfl rfl dX6_total_62 ?_
    refine zr_aload_n (pc := 63) hC 0 rfl rfl dX6_total_63 ?_
    refine zcg_62_0 (pc := 64) hC hinX6_total_X6 flX6_total_67 dX6_total_64 ?_
    refine zr_iload (pc := 67) hC 4 rfl dX6_total_67 ?_
    obtain ⟨q7, hq7, h⟩ := zbd h
    refine zr_cVl (pc := 69) hC hEk [.int v5] [.long v3] 0 1 (fun l D => tX10_timesOf hEk hq7 l D) gX6_total_X10_timesOf rfl rfl rfl ⟨Nat.le_of_ble_eq_true rfl, Nat.le_of_ble_eq_true rfl⟩ hyX10_timesOf (zNC (by decide)) entC_0 rfl rfl rfl (Nat.le_of_ble_eq_true rfl) ⟨Nat.le_of_ble_eq_true rfl, Nat.le_of_ble_eq_true rfl⟩ dX6_total_69 ?_
    refine zr_aload_n (pc := 72) hC 0 rfl rfl dX6_total_72 ?_
    refine zr_iload_n (pc := 73) hC 2 rfl rfl dX6_total_73 ?_
    obtain ⟨q8, hq8, h⟩ := zbd h
    refine zr_cVi (pc := 74) hC hEk [.int v2] [.long q7, .long v3] 62 1 (fun l D => tX6_gainOf hEk hq8 l D) gX6_total_X6_gainOf rfl rfl rfl ⟨Nat.le_of_ble_eq_true rfl, Nat.le_of_ble_eq_true rfl⟩ hyX6_gainOf (zNC (by decide)) entC_62 rfl rfl rfl (Nat.le_of_ble_eq_true rfl) ⟨Nat.le_of_ble_eq_true rfl, Nat.le_of_ble_eq_true rfl⟩ dX6_total_74 ?_
    refine zr_i2l (pc := 77) hC dX6_total_77 ?_
    refine zr_lmul (pc := 78) hC dX6_total_78 ?_
    refine zr_ladd (pc := 79) hC dX6_total_79 ?_
    obtain ⟨z9, e10, h⟩ := zle h
    refine zr_topl e10 ?_
    refine zr_lstore_n (pc := 80) (lv' := [(3, .long z9), (0, .ref (ad 62)), (1, .int v1), (2, .int v2), (5, .int v5)]) hC rfl (by decide) rfl dX6_total_80 ?_
    refine zr_iload_n (pc := 81) hC 2 rfl rfl dX6_total_81 ?_
    refine zr_iconst (pc := 82) hC zki_2 dX6_total_82 ?_
    refine zr_icmp_ne (pc := 83) (tgt := 107) hC dX6_total_83 (by decide) (fun c11 => ?_) (fun c11 => ?_)
    · replace h := zin h c11
      refine zr_iinc (pc := 107) (k := 4) (lv' := [(5, .int (v5 + (1 : Int32))), (3, .long z9), (0, .ref (ad 62)), (1, .int v1), (2, .int v2)]) hC zki_1 (by decide) rfl rfl dX6_total_107 ?_
      refine zr_goto (pc := 110) (tgt := 5) hC dX6_total_110 (by decide) ?_
      obtain rfl := Option.some.inj h
      exact zV.sub (lv' := [(0, .ref (ad 62)), (1, .int v1), (2, .int v2), (3, .long z9), (5, .int (v5 + (1 : Int32)))]) [2, 3, 4, 1, 0] rfl (hin pR z9 (v5 + (1 : Int32)) rfl)
    · replace h := zip h c11
      refine zr_aload_n (pc := 86) hC 1 rfl rfl dX6_total_86 ?_
      refine zcg_62_8 (pc := 87) hC hinX6_total_X6 flX6_total_37 dX6_total_87 ?_
      refine zr_bipush (pc := 90) hC zkb_m9 dX6_total_90 ?_
      refine zr_icmp_ne (pc := 92) (tgt := 107) hC dX6_total_92 (by decide) (fun c12 => ?_) (fun c12 => ?_)
      · replace h := zin h c12
        refine zr_iinc (pc := 107) (k := 4) (lv' := [(5, .int (v5 + (1 : Int32))), (3, .long z9), (0, .ref (ad 62)), (1, .int v1), (2, .int v2)]) hC zki_1 (by decide) rfl rfl dX6_total_107 ?_
        refine zr_goto (pc := 110) (tgt := 5) hC dX6_total_110 (by decide) ?_
        obtain rfl := Option.some.inj h
        exact zV.sub (lv' := [(0, .ref (ad 62)), (1, .int v1), (2, .int v2), (3, .long z9), (5, .int (v5 + (1 : Int32)))]) [2, 3, 4, 1, 0] rfl (hin pR z9 (v5 + (1 : Int32)) rfl)
      · replace h := zip h c12
        refine zr_lload_n (pc := 95) hC 0 rfl rfl dX6_total_95 ?_
        refine zr_aload_n (pc := 96) hC 1 rfl rfl dX6_total_96 ?_
        refine zcg_62_0 (pc := 97) hC hinX6_total_X6 flX6_total_67 dX6_total_97 ?_
        refine zr_iload (pc := 100) hC 4 rfl dX6_total_100 ?_
        obtain ⟨q13, hq13, h⟩ := zbd h
        refine zr_cVl (pc := 102) hC hEk [.int v5] [.long z9] 0 1 (fun l D => tX10_timesOf hEk hq13 l D) gX6_total_X10_timesOf rfl rfl rfl ⟨Nat.le_of_ble_eq_true rfl, Nat.le_of_ble_eq_true rfl⟩ hyX10_timesOf (zNC (by decide)) entC_0 rfl rfl rfl (Nat.le_of_ble_eq_true rfl) ⟨Nat.le_of_ble_eq_true rfl, Nat.le_of_ble_eq_true rfl⟩ dX6_total_102 ?_
        refine zr_ladd (pc := 105) hC dX6_total_105 ?_
        obtain ⟨z14, e15, h⟩ := zle h
        refine zr_topl e15 ?_
        refine zr_lstore_n (pc := 106) (lv' := [(3, .long z14), (0, .ref (ad 62)), (1, .int v1), (2, .int v2), (5, .int v5)]) hC rfl (by decide) rfl dX6_total_106 ?_
        refine zr_iinc (pc := 107) (k := 4) (lv' := [(5, .int (v5 + (1 : Int32))), (3, .long z14), (0, .ref (ad 62)), (1, .int v1), (2, .int v2)]) hC zki_1 (by decide) rfl rfl dX6_total_107 ?_
        refine zr_goto (pc := 110) (tgt := 5) hC dX6_total_110 (by decide) ?_
        obtain rfl := Option.some.inj h
        exact zV.sub (lv' := [(0, .ref (ad 62)), (1, .int v1), (2, .int v2), (3, .long z14), (5, .int (v5 + (1 : Int32)))]) [2, 3, 4, 1, 0] rfl (hin pR z14 (v5 + (1 : Int32)) rfl)
def xX6_total_L5 (pT : zM) (pP : zP) (v1 : Int32) (v2 : Int32) (w0 : zM) (w1 : Int64) (w2 : Int32) : Option ((zM × Int64 × Int32) ⊕ (zM × Int64)) :=
  if (24 : Int32) ≤ w2 then
  (some (.inr (w0, w1)))
  else
  (xX10_isEnd pT w2).bind fun q2 =>
  if q2 = 0 then
  (some (.inl (w0, w1, (w2 + (1 : Int32)))))
  else
  (xX6_runTo pT w0 pP w2).bind fun q4 =>
  if v1 = 0 then
  (if (q4.1 62 8) = v2 then
  ((xX10_timesOf pT w2).bind fun q7 =>
  zlet (w1 + q7) fun z8 =>
  xX6_total_b57_5 pT q4 pP v1 v2 z8 w2)
  else
  xX6_total_b57_5 pT q4 pP v1 v2 w1 w2)
  else
  xX6_total_b57_5 pT q4 pP v1 v2 w1 w2
set_option maxHeartbeats 4000000 in
set_option maxRecDepth 100000 in
theorem tX6_total_L5 {κ : Nat → ClassId} {tg : Nat} {S : zEn} {ad : Nat → Nat} {X : zX} {pX : zM} {pF : zM} {pB : zM} {pT : zM} {pP : zP} {v1 : Int32} {v2 : Int32} {w0 : zM} {w1 : Int64} {w2 : Int32} {r : ((zM × Int64 × Int32) ⊕ (zM × Int64))} (hC : zC X cX6_total RX6 wsX6_total vwCl (zty κ) (zE tg S) 6 ({ frames := 4, cells := 0, slots := 0, locals := 98 } : Room)) (hEk : zEk (zE tg S)) (hin : ∀ (x0' : zM) (x1' : Int64) (x2' : Int32), r = .inl (x0', x1', x2') → zV X 0 0 (zwC κ ad pT x0' pX pF pB pP) [(0, .ref (ad 62)), (1, .int v1), (2, .int v2), (3, .long x1'), (5, .int x2')] [] 5) (hout0 : ∀ (x0' : zM) (x1' : Int64), r = .inr (x0', x1') → zV X 0 0 (zwC κ ad pT x0' pX pF pB pP) [(3, .long x1')] [] 113) (h : xX6_total_L5 pT pP v1 v2 w0 w1 w2 = some r) : zV X 0 0 (zwC κ ad pT w0 pX pF pB pP) [(0, .ref (ad 62)), (1, .int v1), (2, .int v2), (3, .long w1), (5, .int w2)] [] 5 := by
  unfold xX6_total_L5 at h
  refine zr_iload (pc := 5) hC 4 rfl dX6_total_5 ?_
  refine zr_bipush (pc := 7) hC zkb_24 dX6_total_7 ?_
  refine zr_icmp_ge (pc := 9) (tgt := 113) hC dX6_total_9 (by decide) (fun c1 => ?_) (fun c1 => ?_)
  · replace h := zip h c1
    obtain rfl := Option.some.inj h
    exact zV.sub (lv' := [(3, .long w1)]) [3] rfl (hout0 w0 w1 rfl)
  · replace h := zin h c1
    refine zr_aload_n (pc := 12) hC 0 rfl rfl dX6_total_12 ?_
    refine zcg_62_0 (pc := 13) hC hinX6_total_X6 flX6_total_67 dX6_total_13 ?_
    refine zr_iload (pc := 16) hC 4 rfl dX6_total_16 ?_
    obtain ⟨q2, hq2, h⟩ := zbd h
    refine zr_cVi (pc := 18) hC hEk [.int w2] [] 0 1 (fun l D => tX10_isEnd hEk hq2 l D) gX6_total_X10_isEnd rfl rfl rfl ⟨Nat.le_of_ble_eq_true rfl, Nat.le_of_ble_eq_true rfl⟩ hyX10_isEnd (zNC (by decide)) entC_0 rfl rfl rfl (Nat.le_of_ble_eq_true rfl) ⟨Nat.le_of_ble_eq_true rfl, Nat.le_of_ble_eq_true rfl⟩ dX6_total_18 ?_
    refine zr_if_ne (pc := 21) (tgt := 27) hC dX6_total_21 (by decide) (fun c3 => ?_) (fun c3 => ?_)
    · replace h := zin h c3
      refine zr_aload_n (pc := 27) hC 0 rfl rfl dX6_total_27 ?_
      refine zr_iload (pc := 28) hC 4 rfl dX6_total_28 ?_
      obtain ⟨q4, hq4, h⟩ := zbd h
      refine zr_cVv (pc := 30) hC hEk [.int w2] [] 62 1 (fun l D => tX6_runTo hEk hq4 l D) gX6_total_X6_runTo rfl rfl rfl ⟨Nat.le_of_ble_eq_true rfl, Nat.le_of_ble_eq_true rfl⟩ hyX6_runTo (zNC (by decide)) entC_62 rfl rfl rfl (Nat.le_of_ble_eq_true rfl) ⟨Nat.le_of_ble_eq_true rfl, Nat.le_of_ble_eq_true rfl⟩ dX6_total_30 ?_
      refine zr_iload_n (pc := 33) hC 1 rfl rfl dX6_total_33 ?_
      refine zr_if_ne (pc := 34) (tgt := 57) hC dX6_total_34 (by decide) (fun c5 => ?_) (fun c5 => ?_)
      · replace h := zin h c5
        exact zV.sub (lv' := [(0, .ref (ad 62)), (1, .int v1), (2, .int v2), (3, .long w1), (5, .int w2)]) [0, 1, 2, 3, 4] rfl (tX6_total_b57_5 hC hEk hin hout0 h)
      · replace h := zip h c5
        refine zr_aload_n (pc := 37) hC 0 rfl rfl dX6_total_37 ?_
        refine zcg_62_8 (pc := 38) hC hinX6_total_X6 flX6_total_37 dX6_total_38 ?_
        refine zr_iload_n (pc := 41) hC 2 rfl rfl dX6_total_41 ?_
        refine zr_icmp_ne (pc := 42) (tgt := 57) hC dX6_total_42 (by decide) (fun c6 => ?_) (fun c6 => ?_)
        · replace h := zin h c6
          exact zV.sub (lv' := [(0, .ref (ad 62)), (1, .int v1), (2, .int v2), (3, .long w1), (5, .int w2)]) [0, 1, 2, 3, 4] rfl (tX6_total_b57_5 hC hEk hin hout0 h)
        · replace h := zip h c6
          refine zr_lload_n (pc := 45) hC 3 rfl rfl dX6_total_45 ?_
          refine zr_aload_n (pc := 46) hC 0 rfl rfl dX6_total_46 ?_
          refine zcg_62_0 (pc := 47) hC hinX6_total_X6 flX6_total_67 dX6_total_47 ?_
          refine zr_iload (pc := 50) hC 4 rfl dX6_total_50 ?_
          obtain ⟨q7, hq7, h⟩ := zbd h
          refine zr_cVl (pc := 52) hC hEk [.int w2] [.long w1] 0 1 (fun l D => tX10_timesOf hEk hq7 l D) gX6_total_X10_timesOf rfl rfl rfl ⟨Nat.le_of_ble_eq_true rfl, Nat.le_of_ble_eq_true rfl⟩ hyX10_timesOf (zNC (by decide)) entC_0 rfl rfl rfl (Nat.le_of_ble_eq_true rfl) ⟨Nat.le_of_ble_eq_true rfl, Nat.le_of_ble_eq_true rfl⟩ dX6_total_52 ?_
          refine zr_ladd (pc := 55) hC dX6_total_55 ?_
          obtain ⟨z8, e9, h⟩ := zle h
          refine zr_topl e9 ?_
          refine zr_lstore_n (pc := 56) (lv' := [(3, .long z8), (0, .ref (ad 62)), (1, .int v1), (2, .int v2), (5, .int w2)]) hC rfl (by decide) rfl dX6_total_56 ?_
          exact zV.sub (lv' := [(0, .ref (ad 62)), (1, .int v1), (2, .int v2), (3, .long z8), (5, .int w2)]) [1, 2, 3, 0, 4] rfl (tX6_total_b57_5 hC hEk hin hout0 h)
    · replace h := zip h c3
      refine zr_goto (pc := 24) (tgt := 107) hC dX6_total_24 (by decide) ?_
      refine zr_iinc (pc := 107) (k := 4) (lv' := [(5, .int (w2 + (1 : Int32))), (0, .ref (ad 62)), (1, .int v1), (2, .int v2), (3, .long w1)]) hC zki_1 (by decide) rfl rfl dX6_total_107 ?_
      refine zr_goto (pc := 110) (tgt := 5) hC dX6_total_110 (by decide) ?_
      obtain rfl := Option.some.inj h
      exact zV.sub (lv' := [(0, .ref (ad 62)), (1, .int v1), (2, .int v2), (3, .long w1), (5, .int (w2 + (1 : Int32)))]) [1, 2, 3, 4, 0] rfl (hin w0 w1 (w2 + (1 : Int32)) rfl)
def xX6_total (pT : zM) (pR : zM) (pP : zP) (v1 : Int32) (v2 : Int32) : Option (Int64 × zM) :=
  (x_it (fun a9 => xX6_total_L5 pT pP v1 v2 a9.1 a9.2.1 a9.2.2) zFU (pR, (0 : Int64), (1 : Int32))).bind fun q1 =>
  some (q1.2, q1.1)
set_option maxHeartbeats 4000000 in
set_option maxRecDepth 100000 in
theorem tX6_total {κ : Nat → ClassId} {tg : Nat} {S : zEn} {ad : Nat → Nat} (hEk : zEk (zE tg S)) {pT : zM} {pR : zM} {pX : zM} {pF : zM} {pB : zM} {pP : zP} {v1 : Int32} {v2 : Int32} {res : (Int64 × zM)} (h : xX6_total pT pR pP v1 v2 = some res) (l : Launch) (D : va_G) : zCT (zE tg S) D vwCl (zty κ) l yX6_total wsX6_total ({ frames := 4, cells := 0, slots := 0, locals := 98 } : Room) 0 0 [.ref (ad 62), .int v1, .int v2] (zwC κ ad pT pR pX pF pB pP) (zPd (some (.long res.1)) (zwC κ ad pT res.2 pX pF pB pP)) := by
  refine zCT.of (cc := cX6_total) (maxL := 6) (ret := (some .long)) (by decide) rfl (Nat.le_of_ble_eq_true rfl) ?_
  intro X hC hR
  unfold xX6_total at h
  refine zV.sub (lv' := [(0, .ref (ad 62)), (1, .int v1), (2, .int v2)]) [0, 1, 2] rfl ?_
  refine zr_lconst (pc := 0) hC zkl_0 dX6_total_0 ?_
  refine zr_lstore_n (pc := 1) (lv' := [(3, .long (0 : Int64)), (0, .ref (ad 62)), (1, .int v1), (2, .int v2)]) hC rfl (by decide) rfl dX6_total_1 ?_
  refine zr_iconst (pc := 2) hC zki_1 dX6_total_2 ?_
  refine zr_istore (pc := 3) (lv' := [(5, .int (1 : Int32)), (3, .long (0 : Int64)), (0, .ref (ad 62)), (1, .int v1), (2, .int v2)]) hC (by decide) rfl dX6_total_3 ?_
  obtain ⟨q1, hq1, h⟩ := zbd h
  refine zV.sub (lv' := [(0, .ref (ad 62)), (1, .int v1), (2, .int v2), (3, .long (0 : Int64)), (5, .int (1 : Int32))]) [2, 3, 4, 1, 0] rfl ?_
  refine zit3 (Wp := fun (y0 : zM) (y1 : Int64) (y2 : Int32) => zV X 0 0 (zwC κ ad pT y0 pX pF pB pP) [(0, .ref (ad 62)), (1, .int v1), (2, .int v2), (3, .long y1), (5, .int y2)] [] 5) (Ex := fun (b9 : (zM × Int64)) => zV X 0 0 (zwC κ ad pT b9.1 pX pF pB pP) [(3, .long b9.2)] [] 113) (fun y0 y1 y2 r9 hr hin hout => tX6_total_L5 hC hEk hin (fun z0 z1 e9 => hout (z0, z1) e9) hr) zFU pR (0 : Int64) (1 : Int32) q1 hq1 ?_
  show zV X 0 0 (zwC κ ad pT q1.1 pX pF pB pP) [(3, .long q1.2)] [] 113
  refine zr_lload_n (pc := 113) hC 0 rfl rfl dX6_total_113 ?_
  obtain rfl := Option.some.inj h
  exact zr_lret hC hR ⟨rfl, rfl⟩ (Nat.le_refl _) (Nat.le_refl _) dX6_total_114
/-! X6_dullTotal -/
theorem hyX6_dullTotal : yX6_dullTotal.cls = RX6 ∧ yX6_dullTotal.cls ≠ "java/lang/invoke/MethodHandle" ∧ yX6_dullTotal.cls ≠ "java/lang/invoke/VarHandle" ∧ (parseMethodDescriptor yX6_dullTotal.desc).map (fun d => d.parameters.length) = some 0 := by decide +kernel
theorem flX6_dullTotal_17 : Cond.fieldLink RX6 17 "BeforeTheEnd$Race" "count" "I" ∈ wsX6_dullTotal := by decide +kernel
theorem flX6_dullTotal_28 : Cond.fieldLink RX6 28 "BeforeTheEnd$Race" "calm" "[I" ∈ wsX6_dullTotal := by decide +kernel
theorem flX6_dullTotal_67 : Cond.fieldLink RX6 67 "BeforeTheEnd$Race" "tree" "LBeforeTheEnd$Tree;" ∈ wsX6_dullTotal := by decide +kernel
theorem hinX6_dullTotal_X6 : ∀ w ∈ wsX60, w ∈ wsX6_dullTotal := fun _ h => List.mem_cons_of_mem _ (List.mem_append_left _ (List.mem_append_right _ h))
theorem hinX6_dullTotal_X10 : ∀ w ∈ wsX100, w ∈ wsX6_dullTotal := fun _ h => List.mem_cons_of_mem _ (List.mem_append_right _ h)
def xX6_dullTotal_L4 (pT : zM) (pR : zM) (w0 : Int32) (w1 : Int32) : Option ((Int32 × Int32) ⊕ Int32) :=
  if (4 : Int32) ≤ w1 then
  (some (.inr w0))
  else
  if (pR.1 62 2) ≤ w1 then
  (some (.inr w0))
  else
  if (w1 < 0 ∨ 4 ≤ w1.toNatClampNeg) then none else
  zlet (w0 ||| (pR.1 66 w1.toNatClampNeg)) fun z4 =>
  some (.inl (z4, (w1 + (1 : Int32))))
set_option maxHeartbeats 4000000 in
set_option maxRecDepth 100000 in
theorem tX6_dullTotal_L4 {κ : Nat → ClassId} {tg : Nat} {S : zEn} {ad : Nat → Nat} {X : zX} {pX : zM} {pF : zM} {pB : zM} {pP : zP} {pT : zM} {pR : zM} {w0 : Int32} {w1 : Int32} {r : ((Int32 × Int32) ⊕ Int32)} (hC : zC X cX6_dullTotal RX6 wsX6_dullTotal vwCl (zty κ) (zE tg S) 6 ({ frames := 2, cells := 0, slots := 0, locals := 42 } : Room)) (hEk : zEk (zE tg S)) (hin : ∀ (x0' : Int32) (x1' : Int32), r = .inl (x0', x1') → zV X 0 0 (zwC κ ad pT pR pX pF pB pP) [(0, .ref (ad 62)), (1, .int x0'), (2, .int x1')] [] 4) (hout0 : ∀ (x0' : Int32), r = .inr x0' → zV X 0 0 (zwC κ ad pT pR pX pF pB pP) [(0, .ref (ad 62)), (1, .int x0')] [] 32) (h : xX6_dullTotal_L4 pT pR  w0 w1 = some r) : zV X 0 0 (zwC κ ad pT pR pX pF pB pP) [(0, .ref (ad 62)), (1, .int w0), (2, .int w1)] [] 4 := by
  unfold xX6_dullTotal_L4 at h
  refine zr_iload_n (pc := 4) hC 2 rfl rfl dX6_dullTotal_4 ?_
  refine zr_iconst (pc := 5) hC zki_4 dX6_dullTotal_5 ?_
  refine zr_icmp_ge (pc := 6) (tgt := 32) hC dX6_dullTotal_6 (by decide) (fun c1 => ?_) (fun c1 => ?_)
  · replace h := zip h c1
    obtain rfl := Option.some.inj h
    exact zV.sub (lv' := [(0, .ref (ad 62)), (1, .int w0)]) [0, 1] rfl (hout0 w0 rfl)
  · replace h := zin h c1
    refine zr_iload_n (pc := 9) hC 2 rfl rfl dX6_dullTotal_9 ?_
    refine zr_aload_n (pc := 10) hC 0 rfl rfl dX6_dullTotal_10 ?_
    refine zcg_62_2 (pc := 11) hC hinX6_dullTotal_X6 flX6_dullTotal_17 dX6_dullTotal_11 ?_
    refine zr_icmp_ge (pc := 14) (tgt := 32) hC dX6_dullTotal_14 (by decide) (fun c2 => ?_) (fun c2 => ?_)
    · replace h := zip h c2
      obtain rfl := Option.some.inj h
      exact zV.sub (lv' := [(0, .ref (ad 62)), (1, .int w0)]) [0, 1] rfl (hout0 w0 rfl)
    · replace h := zin h c2
      refine zr_iload_n (pc := 17) hC 1 rfl rfl dX6_dullTotal_17 ?_
      refine zr_aload_n (pc := 18) hC 0 rfl rfl dX6_dullTotal_18 ?_
      refine zcg_62_5 (pc := 19) hC hinX6_dullTotal_X6 flX6_dullTotal_28 dX6_dullTotal_19 ?_
      refine zr_iload_n (pc := 22) hC 2 rfl rfl dX6_dullTotal_22 ?_
      obtain ⟨i3, h⟩ := zgd h
      refine zcl_66 (pc := 23) hC i3 dX6_dullTotal_23 ?_
      refine zr_ior (pc := 24) hC dX6_dullTotal_24 ?_
      obtain ⟨z4, e5, h⟩ := zle h
      refine zr_topi e5 ?_
      refine zr_istore_n (pc := 25) (lv' := [(1, .int z4), (0, .ref (ad 62)), (2, .int w1)]) hC rfl (by decide) rfl dX6_dullTotal_25 ?_
      refine zr_iinc (pc := 26) (k := 2) (lv' := [(2, .int (w1 + (1 : Int32))), (1, .int z4), (0, .ref (ad 62))]) hC zki_1 (by decide) rfl rfl dX6_dullTotal_26 ?_
      refine zr_goto (pc := 29) (tgt := 4) hC dX6_dullTotal_29 (by decide) ?_
      obtain rfl := Option.some.inj h
      exact zV.sub (lv' := [(0, .ref (ad 62)), (1, .int z4), (2, .int (w1 + (1 : Int32)))]) [2, 1, 0] rfl (hin z4 (w1 + (1 : Int32)) rfl)
def xX6_dullTotal_L37 (pT : zM) (pR : zM) (v1 : Int32) (w0 : Int64) (w1 : Int32) : Option ((Int64 × Int32) ⊕ Int64) :=
  if (24 : Int32) ≤ w1 then
  (some (.inr w0))
  else
  (xX10_wayTo pT w1).bind fun q2 =>
  zlet (q2 &&& (((1 : Int32) <<< (w1 &&& 31)) ^^^ (-1 : Int32))) fun z3 =>
  (xX10_isEnd pT w1).bind fun q5 =>
  if q5 = 0 then
  (some (.inl (w0, (w1 + (1 : Int32)))))
  else
  if (z3 &&& v1) = 0 then
  ((xX10_timesOf pT w1).bind fun q8 =>
  zlet (w0 + q8) fun z9 =>
  some (.inl (z9, (w1 + (1 : Int32)))))
  else
  some (.inl (w0, (w1 + (1 : Int32))))
set_option maxHeartbeats 4000000 in
set_option maxRecDepth 100000 in
theorem tX6_dullTotal_L37 {κ : Nat → ClassId} {tg : Nat} {S : zEn} {ad : Nat → Nat} {X : zX} {pX : zM} {pF : zM} {pB : zM} {pP : zP} {pT : zM} {pR : zM} {v1 : Int32} {w0 : Int64} {w1 : Int32} {r : ((Int64 × Int32) ⊕ Int64)} (hC : zC X cX6_dullTotal RX6 wsX6_dullTotal vwCl (zty κ) (zE tg S) 6 ({ frames := 2, cells := 0, slots := 0, locals := 42 } : Room)) (hEk : zEk (zE tg S)) (hin : ∀ (x0' : Int64) (x1' : Int32), r = .inl (x0', x1') → zV X 0 0 (zwC κ ad pT pR pX pF pB pP) [(0, .ref (ad 62)), (1, .int v1), (2, .long x0'), (4, .int x1')] [] 37) (hout0 : ∀ (x0' : Int64), r = .inr x0' → zV X 0 0 (zwC κ ad pT pR pX pF pB pP) [(2, .long x0')] [] 99) (h : xX6_dullTotal_L37 pT pR v1 w0 w1 = some r) : zV X 0 0 (zwC κ ad pT pR pX pF pB pP) [(0, .ref (ad 62)), (1, .int v1), (2, .long w0), (4, .int w1)] [] 37 := by
  unfold xX6_dullTotal_L37 at h
  refine zr_iload (pc := 37) hC 3 rfl dX6_dullTotal_37 ?_
  refine zr_bipush (pc := 39) hC zkb_24 dX6_dullTotal_39 ?_
  refine zr_icmp_ge (pc := 41) (tgt := 99) hC dX6_dullTotal_41 (by decide) (fun c1 => ?_) (fun c1 => ?_)
  · replace h := zip h c1
    obtain rfl := Option.some.inj h
    exact zV.sub (lv' := [(2, .long w0)]) [2] rfl (hout0 w0 rfl)
  · replace h := zin h c1
    refine zr_aload_n (pc := 44) hC 0 rfl rfl dX6_dullTotal_44 ?_
    refine zcg_62_0 (pc := 45) hC hinX6_dullTotal_X6 flX6_dullTotal_67 dX6_dullTotal_45 ?_
    refine zr_iload (pc := 48) hC 3 rfl dX6_dullTotal_48 ?_
    obtain ⟨q2, hq2, h⟩ := zbd h
    refine zr_cVi (pc := 50) hC hEk [.int w1] [] 0 1 (fun l D => tX10_wayTo hEk hq2 l D) gX6_dullTotal_X10_wayTo rfl rfl rfl ⟨Nat.le_of_ble_eq_true rfl, Nat.le_of_ble_eq_true rfl⟩ hyX10_wayTo (zNC (by decide)) entC_0 rfl rfl rfl (Nat.le_of_ble_eq_true rfl) ⟨Nat.le_of_ble_eq_true rfl, Nat.le_of_ble_eq_true rfl⟩ dX6_dullTotal_50 ?_
    refine zr_iconst (pc := 53) hC zki_1 dX6_dullTotal_53 ?_
    refine zr_iload (pc := 54) hC 3 rfl dX6_dullTotal_54 ?_
    refine zr_ishl (pc := 56) hC dX6_dullTotal_56 ?_
    refine zr_iconst (pc := 57) hC zki_m1 dX6_dullTotal_57 ?_
    refine zr_ixor (pc := 58) hC dX6_dullTotal_58 ?_
    refine zr_iand (pc := 59) hC dX6_dullTotal_59 ?_
    obtain ⟨z3, e4, h⟩ := zle h
    refine zr_topi e4 ?_
    refine zr_istore (pc := 60) (lv' := [(5, .int z3), (0, .ref (ad 62)), (1, .int v1), (2, .long w0), (4, .int w1)]) hC (by decide) rfl dX6_dullTotal_60 ?_
    refine zr_aload_n (pc := 62) hC 1 rfl rfl dX6_dullTotal_62 ?_
    refine zcg_62_0 (pc := 63) hC hinX6_dullTotal_X6 flX6_dullTotal_67 dX6_dullTotal_63 ?_
    refine zr_iload (pc := 66) hC 4 rfl dX6_dullTotal_66 ?_
    obtain ⟨q5, hq5, h⟩ := zbd h
    refine zr_cVi (pc := 68) hC hEk [.int w1] [] 0 1 (fun l D => tX10_isEnd hEk hq5 l D) gX6_dullTotal_X10_isEnd rfl rfl rfl ⟨Nat.le_of_ble_eq_true rfl, Nat.le_of_ble_eq_true rfl⟩ hyX10_isEnd (zNC (by decide)) entC_0 rfl rfl rfl (Nat.le_of_ble_eq_true rfl) ⟨Nat.le_of_ble_eq_true rfl, Nat.le_of_ble_eq_true rfl⟩ dX6_dullTotal_68 ?_
    refine zr_if_eq (pc := 71) (tgt := 93) hC dX6_dullTotal_71 (by decide) (fun c6 => ?_) (fun c6 => ?_)
    · replace h := zip h c6
      refine zr_iinc (pc := 93) (k := 4) (lv' := [(4, .int (w1 + (1 : Int32))), (5, .int z3), (0, .ref (ad 62)), (1, .int v1), (2, .long w0)]) hC zki_1 (by decide) rfl rfl dX6_dullTotal_93 ?_
      refine zr_goto (pc := 96) (tgt := 37) hC dX6_dullTotal_96 (by decide) ?_
      obtain rfl := Option.some.inj h
      exact zV.sub (lv' := [(0, .ref (ad 62)), (1, .int v1), (2, .long w0), (4, .int (w1 + (1 : Int32)))]) [2, 3, 4, 0] rfl (hin w0 (w1 + (1 : Int32)) rfl)
    · replace h := zin h c6
      refine zr_iload (pc := 74) hC 0 rfl dX6_dullTotal_74 ?_
      refine zr_iload_n (pc := 76) hC 2 rfl rfl dX6_dullTotal_76 ?_
      refine zr_iand (pc := 77) hC dX6_dullTotal_77 ?_
      refine zr_if_ne (pc := 78) (tgt := 93) hC dX6_dullTotal_78 (by decide) (fun c7 => ?_) (fun c7 => ?_)
      · replace h := zin h c7
        refine zr_iinc (pc := 93) (k := 4) (lv' := [(4, .int (w1 + (1 : Int32))), (5, .int z3), (0, .ref (ad 62)), (1, .int v1), (2, .long w0)]) hC zki_1 (by decide) rfl rfl dX6_dullTotal_93 ?_
        refine zr_goto (pc := 96) (tgt := 37) hC dX6_dullTotal_96 (by decide) ?_
        obtain rfl := Option.some.inj h
        exact zV.sub (lv' := [(0, .ref (ad 62)), (1, .int v1), (2, .long w0), (4, .int (w1 + (1 : Int32)))]) [2, 3, 4, 0] rfl (hin w0 (w1 + (1 : Int32)) rfl)
      · replace h := zip h c7
        refine zr_lload_n (pc := 81) hC 3 rfl rfl dX6_dullTotal_81 ?_
        refine zr_aload_n (pc := 82) hC 1 rfl rfl dX6_dullTotal_82 ?_
        refine zcg_62_0 (pc := 83) hC hinX6_dullTotal_X6 flX6_dullTotal_67 dX6_dullTotal_83 ?_
        refine zr_iload (pc := 86) hC 4 rfl dX6_dullTotal_86 ?_
        obtain ⟨q8, hq8, h⟩ := zbd h
        refine zr_cVl (pc := 88) hC hEk [.int w1] [.long w0] 0 1 (fun l D => tX10_timesOf hEk hq8 l D) gX6_dullTotal_X10_timesOf rfl rfl rfl ⟨Nat.le_of_ble_eq_true rfl, Nat.le_of_ble_eq_true rfl⟩ hyX10_timesOf (zNC (by decide)) entC_0 rfl rfl rfl (Nat.le_of_ble_eq_true rfl) ⟨Nat.le_of_ble_eq_true rfl, Nat.le_of_ble_eq_true rfl⟩ dX6_dullTotal_88 ?_
        refine zr_ladd (pc := 91) hC dX6_dullTotal_91 ?_
        obtain ⟨z9, e10, h⟩ := zle h
        refine zr_topl e10 ?_
        refine zr_lstore_n (pc := 92) (lv' := [(2, .long z9), (5, .int z3), (0, .ref (ad 62)), (1, .int v1), (4, .int w1)]) hC rfl (by decide) rfl dX6_dullTotal_92 ?_
        refine zr_iinc (pc := 93) (k := 4) (lv' := [(4, .int (w1 + (1 : Int32))), (2, .long z9), (5, .int z3), (0, .ref (ad 62)), (1, .int v1)]) hC zki_1 (by decide) rfl rfl dX6_dullTotal_93 ?_
        refine zr_goto (pc := 96) (tgt := 37) hC dX6_dullTotal_96 (by decide) ?_
        obtain rfl := Option.some.inj h
        exact zV.sub (lv' := [(0, .ref (ad 62)), (1, .int v1), (2, .long z9), (4, .int (w1 + (1 : Int32)))]) [3, 4, 1, 0] rfl (hin z9 (w1 + (1 : Int32)) rfl)
def xX6_dullTotal (pT : zM) (pR : zM)  : Option Int64 :=
  (x_it (fun a9 => xX6_dullTotal_L4 pT pR a9.1 a9.2) zFU ((0 : Int32), (0 : Int32))).bind fun q1 =>
  (x_it (fun a9 => xX6_dullTotal_L37 pT pR q1 a9.1 a9.2) zFU ((0 : Int64), (1 : Int32))).bind fun q2 =>
  some q2
set_option maxHeartbeats 4000000 in
set_option maxRecDepth 100000 in
theorem tX6_dullTotal {κ : Nat → ClassId} {tg : Nat} {S : zEn} {ad : Nat → Nat} (hEk : zEk (zE tg S)) {pT : zM} {pR : zM} {pX : zM} {pF : zM} {pB : zM} {pP : zP}  {res : Int64} (h : xX6_dullTotal pT pR  = some res) (l : Launch) (D : va_G) : zCT (zE tg S) D vwCl (zty κ) l yX6_dullTotal wsX6_dullTotal ({ frames := 2, cells := 0, slots := 0, locals := 42 } : Room) 0 0 [.ref (ad 62)] (zwC κ ad pT pR pX pF pB pP) (zPd (some (.long res)) (zwC κ ad pT pR pX pF pB pP)) := by
  refine zCT.of (cc := cX6_dullTotal) (maxL := 6) (ret := (some .long)) (by decide) rfl (Nat.le_of_ble_eq_true rfl) ?_
  intro X hC hR
  unfold xX6_dullTotal at h
  refine zV.sub (lv' := [(0, .ref (ad 62))]) [0] rfl ?_
  refine zr_iconst (pc := 0) hC zki_0 dX6_dullTotal_0 ?_
  refine zr_istore_n (pc := 1) (lv' := [(1, .int (0 : Int32)), (0, .ref (ad 62))]) hC rfl (by decide) rfl dX6_dullTotal_1 ?_
  refine zr_iconst (pc := 2) hC zki_0 dX6_dullTotal_2 ?_
  refine zr_istore_n (pc := 3) (lv' := [(2, .int (0 : Int32)), (1, .int (0 : Int32)), (0, .ref (ad 62))]) hC rfl (by decide) rfl dX6_dullTotal_3 ?_
  obtain ⟨q1, hq1, h⟩ := zbd h
  refine zV.sub (lv' := [(0, .ref (ad 62)), (1, .int (0 : Int32)), (2, .int (0 : Int32))]) [2, 1, 0] rfl ?_
  refine zit2 (Wp := fun (y0 : Int32) (y1 : Int32) => zV X 0 0 (zwC κ ad pT pR pX pF pB pP) [(0, .ref (ad 62)), (1, .int y0), (2, .int y1)] [] 4) (Ex := fun (b9 : Int32) => zV X 0 0 (zwC κ ad pT pR pX pF pB pP) [(0, .ref (ad 62)), (1, .int b9)] [] 32) (fun y0 y1 r9 hr hin hout => tX6_dullTotal_L4 hC hEk hin (fun z0 e9 => hout z0 e9) hr) zFU (0 : Int32) (0 : Int32) q1 hq1 ?_
  show zV X 0 0 (zwC κ ad pT pR pX pF pB pP) [(0, .ref (ad 62)), (1, .int q1)] [] 32
  refine zr_lconst (pc := 32) hC zkl_0 dX6_dullTotal_32 ?_
  refine zr_lstore_n (pc := 33) (lv' := [(2, .long (0 : Int64)), (0, .ref (ad 62)), (1, .int q1)]) hC rfl (by decide) rfl dX6_dullTotal_33 ?_
  refine zr_iconst (pc := 34) hC zki_1 dX6_dullTotal_34 ?_
  refine zr_istore (pc := 35) (lv' := [(4, .int (1 : Int32)), (2, .long (0 : Int64)), (0, .ref (ad 62)), (1, .int q1)]) hC (by decide) rfl dX6_dullTotal_35 ?_
  obtain ⟨q2, hq2, h⟩ := zbd h
  refine zV.sub (lv' := [(0, .ref (ad 62)), (1, .int q1), (2, .long (0 : Int64)), (4, .int (1 : Int32))]) [2, 3, 1, 0] rfl ?_
  refine zit2 (Wp := fun (y0 : Int64) (y1 : Int32) => zV X 0 0 (zwC κ ad pT pR pX pF pB pP) [(0, .ref (ad 62)), (1, .int q1), (2, .long y0), (4, .int y1)] [] 37) (Ex := fun (b9 : Int64) => zV X 0 0 (zwC κ ad pT pR pX pF pB pP) [(2, .long b9)] [] 99) (fun y0 y1 r9 hr hin hout => tX6_dullTotal_L37 hC hEk hin (fun z0 e9 => hout z0 e9) hr) zFU (0 : Int64) (1 : Int32) q2 hq2 ?_
  show zV X 0 0 (zwC κ ad pT pR pX pF pB pP) [(2, .long q2)] [] 99
  refine zr_lload_n (pc := 99) hC 0 rfl rfl dX6_dullTotal_99 ?_
  obtain rfl := Option.some.inj h
  exact zr_lret hC hR ⟨rfl, rfl⟩ (Nat.le_refl _) (Nat.le_refl _) dX6_dullTotal_100
