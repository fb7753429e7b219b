/-! X6_tryReply -/
theorem hyX6_tryReply : yX6_tryReply.cls = RX6 ∧ yX6_tryReply.cls ≠ "java/lang/invoke/MethodHandle" ∧ yX6_tryReply.cls ≠ "java/lang/invoke/VarHandle" ∧ (parseMethodDescriptor yX6_tryReply.desc).map (fun d => d.parameters.length) = some 2 := by decide +kernel
theorem flX6_tryReply_25 : Cond.fieldLink RX6 25 "BeforeTheEnd$Race" "guessing" "[I" ∈ wsX6_tryReply := by decide +kernel
theorem flX6_tryReply_28 : Cond.fieldLink RX6 28 "BeforeTheEnd$Race" "calm" "[I" ∈ wsX6_tryReply := by decide +kernel
theorem flX6_tryReply_31 : Cond.fieldLink RX6 31 "BeforeTheEnd$Race" "stirred" "[I" ∈ wsX6_tryReply := by decide +kernel
theorem flX6_tryReply_57 : Cond.fieldLink RX6 57 "BeforeTheEnd$Race" "replySet" "I" ∈ wsX6_tryReply := by decide +kernel
theorem flX6_tryReply_60 : Cond.fieldLink RX6 60 "BeforeTheEnd$Race" "replyWorth" "J" ∈ wsX6_tryReply := by decide +kernel
theorem hinX6_tryReply_X6 : ∀ w ∈ wsX60, w ∈ wsX6_tryReply := fun _ h => List.mem_cons_of_mem _ (List.mem_append_left _ (List.mem_append_left _ (List.mem_append_left _ (List.mem_append_left _ (List.mem_append_left _ (List.mem_append_left _ (List.mem_append_left _ (List.mem_append_right _ h))))))))
theorem hinX6_tryReply_X10 : ∀ w ∈ wsX100, w ∈ wsX6_tryReply := fun _ h => List.mem_cons_of_mem _ (List.mem_append_left _ (List.mem_append_left _ (List.mem_append_left _ (List.mem_append_left _ (List.mem_append_left _ (List.mem_append_left _ (List.mem_append_right _ h)))))))
theorem hinX6_tryReply_X0 : ∀ w ∈ wsX00, w ∈ wsX6_tryReply := fun _ h => List.mem_cons_of_mem _ (List.mem_append_left _ (List.mem_append_left _ (List.mem_append_left _ (List.mem_append_left _ (List.mem_append_left _ (List.mem_append_right _ h))))))
theorem hinX6_tryReply_X1 : ∀ w ∈ wsX10, w ∈ wsX6_tryReply := fun _ h => List.mem_cons_of_mem _ (List.mem_append_left _ (List.mem_append_left _ (List.mem_append_left _ (List.mem_append_left _ (List.mem_append_right _ h)))))
theorem hinX6_tryReply_X2 : ∀ w ∈ wsX20, w ∈ wsX6_tryReply := fun _ h => List.mem_cons_of_mem _ (List.mem_append_left _ (List.mem_append_left _ (List.mem_append_left _ (List.mem_append_right _ h))))
theorem hinX6_tryReply_X4 : ∀ w ∈ wsX40, w ∈ wsX6_tryReply := fun _ h => List.mem_cons_of_mem _ (List.mem_append_left _ (List.mem_append_left _ (List.mem_append_right _ h)))
theorem hinX6_tryReply_X7 : ∀ w ∈ wsX70, w ∈ wsX6_tryReply := fun _ h => List.mem_cons_of_mem _ (List.mem_append_left _ (List.mem_append_right _ h))
theorem hinX6_tryReply_X9 : ∀ w ∈ wsX90, w ∈ wsX6_tryReply := fun _ h => List.mem_cons_of_mem _ (List.mem_append_right _ h)
def xX6_tryReply (pT : zM) (pR : zM) (pP : zP) (v1 : Int32) (v2 : Int32) : Option zM :=
  if v1 < 0 then
  (some pR)
  else
  if v1 < (4 : Int32) then
  (if (v1 < 0 ∨ 4 ≤ v1.toNatClampNeg) then none else
  if (v2 &&& ((pR.1 65 v1.toNatClampNeg) ^^^ (-1 : Int32))) = 0 then
  (zlet (zsi pR 66 v1.toNatClampNeg v2) fun M5 =>
  zlet (zsi M5 67 v1.toNatClampNeg v2) fun M7 =>
  (xX6_total pT M7 pP (1 : Int32) v1).bind fun q9 =>
  if (lg_cmp q9.1 (q9.2.2 62 15)) ≤ 0 then
  (some q9.2)
  else
  zlet (zsj q9.2 62 15 q9.1) fun M11 =>
  zlet (zsi M11 62 14 v2) fun M13 =>
  some M13)
  else
  some pR)
  else
  some pR
set_option maxHeartbeats 4000000 in
set_option maxRecDepth 100000 in
theorem tX6_tryReply {κ : Nat → ClassId} {tg : Nat} {S : zEn} {ad : Nat → Nat} (hEk : zEk (zE tg S)) {pT : zM} {pR : zM} {pX : zM} {pF : zM} {pB : zM} {pP : zP} {v1 : Int32} {v2 : Int32} {res : zM} (h : xX6_tryReply pT pR pP v1 v2 = some res) (l : Launch) (D : va_G) : zCT (zE tg S) D vwCl (zty κ) l yX6_tryReply wsX6_tryReply ({ frames := 5, cells := 0, slots := 0, locals := 123 } : Room) 0 0 [.ref (ad 62), .int v1, .int v2] (zwC κ ad pT pR pX pF pB pP) (zPd none (zwC κ ad pT res pX pF pB pP)) := by
  refine zCT.of (cc := cX6_tryReply) (maxL := 5) (ret := none) (by decide) rfl (Nat.le_of_ble_eq_true rfl) ?_
  intro X hC hR
  unfold xX6_tryReply at h
  refine zV.sub (lv' := [(0, .ref (ad 62)), (1, .int v1), (2, .int v2)]) [0, 1, 2] rfl ?_
  refine zr_iload_n (pc := 0) hC 1 rfl rfl dX6_tryReply_0 ?_
  refine zr_if_lt (pc := 1) (tgt := 9) hC dX6_tryReply_1 (by decide) (fun c1 => ?_) (fun c1 => ?_)
  · replace h := zip h c1
    obtain rfl := Option.some.inj h
    exact zr_vret hC hR ⟨rfl, rfl⟩ (Nat.le_refl _) (Nat.le_refl _) dX6_tryReply_9
  · replace h := zin h c1
    refine zr_iload_n (pc := 4) hC 1 rfl rfl dX6_tryReply_4 ?_
    refine zr_iconst (pc := 5) hC zki_4 dX6_tryReply_5 ?_
    refine zr_icmp_lt (pc := 6) (tgt := 10) hC dX6_tryReply_6 (by decide) (fun c2 => ?_) (fun c2 => ?_)
    · replace h := zip h c2
      refine zr_iload_n (pc := 10) hC 2 rfl rfl dX6_tryReply_10 ?_
      refine zr_aload_n (pc := 11) hC 0 rfl rfl dX6_tryReply_11 ?_
      refine zcg_62_4 (pc := 12) hC hinX6_tryReply_X6 flX6_tryReply_25 dX6_tryReply_12 ?_
      refine zr_iload_n (pc := 15) hC 1 rfl rfl dX6_tryReply_15 ?_
      obtain ⟨i3, h⟩ := zgd h
      refine zcl_65 (pc := 16) hC i3 dX6_tryReply_16 ?_
      refine zr_iconst (pc := 17) hC zki_m1 dX6_tryReply_17 ?_
      refine zr_ixor (pc := 18) hC dX6_tryReply_18 ?_
      refine zr_iand (pc := 19) hC dX6_tryReply_19 ?_
      refine zr_if_eq (pc := 20) (tgt := 24) hC dX6_tryReply_20 (by decide) (fun c4 => ?_) (fun c4 => ?_)
      · replace h := zip h c4
        refine zr_aload_n (pc := 24) hC 0 rfl rfl dX6_tryReply_24 ?_
        refine zcg_62_5 (pc := 25) hC hinX6_tryReply_X6 flX6_tryReply_28 dX6_tryReply_25 ?_
        refine zr_iload_n (pc := 28) hC 1 rfl rfl dX6_tryReply_28 ?_
        refine zr_iload_n (pc := 29) hC 2 rfl rfl dX6_tryReply_29 ?_
        obtain ⟨M5, e6, h⟩ := zle h
        refine zcs_66 (pc := 30) hC i3 e6 dX6_tryReply_30 ?_
        refine zr_aload_n (pc := 31) hC 0 rfl rfl dX6_tryReply_31 ?_
        refine zcg_62_6 (pc := 32) hC hinX6_tryReply_X6 flX6_tryReply_31 dX6_tryReply_32 ?_
        refine zr_iload_n (pc := 35) hC 1 rfl rfl dX6_tryReply_35 ?_
        refine zr_iload_n (pc := 36) hC 2 rfl rfl dX6_tryReply_36 ?_
        obtain ⟨M7, e8, h⟩ := zle h
        refine zcs_67 (pc := 37) hC i3 e8 dX6_tryReply_37 ?_
        refine zr_aload_n (pc := 38) hC 0 rfl rfl dX6_tryReply_38 ?_
        refine zr_iconst (pc := 39) hC zki_1 dX6_tryReply_39 ?_
        refine zr_iload_n (pc := 40) hC 1 rfl rfl dX6_tryReply_40 ?_
        obtain ⟨q9, hq9, h⟩ := zbd h
        refine zr_cVl (pc := 41) hC hEk [.int (1 : Int32), .int v1] [] 62 2 (fun l D => tX6_total hEk hq9 l D) gX6_tryReply_X6_total rfl rfl rfl ⟨Nat.le_of_ble_eq_true rfl, Nat.le_of_ble_eq_true rfl⟩ hyX6_total (zNC (by decide)) entC_62 rfl rfl rfl (Nat.le_of_ble_eq_true rfl) ⟨Nat.le_of_ble_eq_true rfl, Nat.le_of_ble_eq_true rfl⟩ dX6_tryReply_41 ?_
        refine zr_lstore_n (pc := 44) (lv' := [(3, .long q9.1), (0, .ref (ad 62)), (1, .int v1), (2, .int v2)]) hC rfl (by decide) rfl dX6_tryReply_44 ?_
        refine zr_lload_n (pc := 45) hC 0 rfl rfl dX6_tryReply_45 ?_
        refine zr_aload_n (pc := 46) hC 1 rfl rfl dX6_tryReply_46 ?_
        refine zcg_62_15 (pc := 47) hC hinX6_tryReply_X6 flX6_tryReply_60 dX6_tryReply_47 ?_
        refine zr_lcmp (pc := 50) hC dX6_tryReply_50 ?_
        refine zr_if_le (pc := 51) (tgt := 64) hC dX6_tryReply_51 (by decide) (fun c10 => ?_) (fun c10 => ?_)
        · replace h := zip h c10
          obtain rfl := Option.some.inj h
          exact zr_vret hC hR ⟨rfl, rfl⟩ (Nat.le_refl _) (Nat.le_refl _) dX6_tryReply_64
        · replace h := zin h c10
          refine zr_aload_n (pc := 54) hC 1 rfl rfl dX6_tryReply_54 ?_
          refine zr_lload_n (pc := 55) hC 0 rfl rfl dX6_tryReply_55 ?_
          obtain ⟨M11, e12, h⟩ := zle h
          refine zcp_62_15 (pc := 56) hC hinX6_tryReply_X6 flX6_tryReply_60 e12 dX6_tryReply_56 ?_
          refine zr_aload_n (pc := 59) hC 1 rfl rfl dX6_tryReply_59 ?_
          refine zr_iload_n (pc := 60) hC 3 rfl rfl dX6_tryReply_60 ?_
          obtain ⟨M13, e14, h⟩ := zle h
          refine zcp_62_14 (pc := 61) hC hinX6_tryReply_X6 flX6_tryReply_57 e14 dX6_tryReply_61 ?_
          obtain rfl := Option.some.inj h
          exact zr_vret hC hR ⟨rfl, rfl⟩ (Nat.le_refl _) (Nat.le_refl _) dX6_tryReply_64
      · replace h := zin h c4
        obtain rfl := Option.some.inj h
        exact zr_vret hC hR ⟨rfl, rfl⟩ (Nat.le_refl _) (Nat.le_refl _) dX6_tryReply_23
    · replace h := zin h c2
      obtain rfl := Option.some.inj h
      exact zr_vret hC hR ⟨rfl, rfl⟩ (Nat.le_refl _) (Nat.le_refl _) dX6_tryReply_9
/-! X6_bestReply -/
theorem hyX6_bestReply : yX6_bestReply.cls = RX6 ∧ yX6_bestReply.cls ≠ "java/lang/invoke/MethodHandle" ∧ yX6_bestReply.cls ≠ "java/lang/invoke/VarHandle" ∧ (parseMethodDescriptor yX6_bestReply.desc).map (fun d => d.parameters.length) = some 2 := by decide +kernel
theorem flX6_bestReply_148 : Jvm.Cond.constantLong RX6 148 (-4000000000000000000) ∈ wsX6_bestReply := by decide +kernel
theorem flX6_bestReply_57 : Cond.fieldLink RX6 57 "BeforeTheEnd$Race" "replySet" "I" ∈ wsX6_bestReply := by decide +kernel
theorem flX6_bestReply_60 : Cond.fieldLink RX6 60 "BeforeTheEnd$Race" "replyWorth" "J" ∈ wsX6_bestReply := by decide +kernel
theorem hinX6_bestReply_X6 : ∀ w ∈ wsX60, w ∈ wsX6_bestReply := fun _ h => List.mem_cons_of_mem _ (List.mem_append_left _ (List.mem_append_left _ (List.mem_append_left _ (List.mem_append_left _ (List.mem_append_left _ (List.mem_append_left _ (List.mem_append_left _ (List.mem_append_right _ h))))))))
theorem hinX6_bestReply_X0 : ∀ w ∈ wsX00, w ∈ wsX6_bestReply := fun _ h => List.mem_cons_of_mem _ (List.mem_append_left _ (List.mem_append_left _ (List.mem_append_left _ (List.mem_append_left _ (List.mem_append_left _ (List.mem_append_left _ (List.mem_append_right _ h)))))))
theorem hinX6_bestReply_X1 : ∀ w ∈ wsX10, w ∈ wsX6_bestReply := fun _ h => List.mem_cons_of_mem _ (List.mem_append_left _ (List.mem_append_left _ (List.mem_append_left _ (List.mem_append_left _ (List.mem_append_left _ (List.mem_append_right _ h))))))
theorem hinX6_bestReply_X2 : ∀ w ∈ wsX20, w ∈ wsX6_bestReply := fun _ h => List.mem_cons_of_mem _ (List.mem_append_left _ (List.mem_append_left _ (List.mem_append_left _ (List.mem_append_left _ (List.mem_append_right _ h)))))
theorem hinX6_bestReply_X4 : ∀ w ∈ wsX40, w ∈ wsX6_bestReply := fun _ h => List.mem_cons_of_mem _ (List.mem_append_left _ (List.mem_append_left _ (List.mem_append_left _ (List.mem_append_right _ h))))
theorem hinX6_bestReply_X7 : ∀ w ∈ wsX70, w ∈ wsX6_bestReply := fun _ h => List.mem_cons_of_mem _ (List.mem_append_left _ (List.mem_append_left _ (List.mem_append_right _ h)))
theorem hinX6_bestReply_X9 : ∀ w ∈ wsX90, w ∈ wsX6_bestReply := fun _ h => List.mem_cons_of_mem _ (List.mem_append_left _ (List.mem_append_right _ h))
theorem hinX6_bestReply_X10 : ∀ w ∈ wsX100, w ∈ wsX6_bestReply := fun _ h => List.mem_cons_of_mem _ (List.mem_append_right _ h)
def xX6_bestReply_L24 (pT : zM) (pP : zP) (v1 : Int32) (v2 : Int32) (w0 : zM) (w1 : Int32) : Option ((zM × Int32) ⊕ zM) :=
  if (24 : Int32) ≤ w1 then
  (some (.inr w0))
  else
  if v2 < (1 : Int32) then
  (some (.inr w0))
  else
  (xX6_tryReply pT w0 pP v1 ((1 : Int32) <<< (w1 &&& 31))).bind fun q3 =>
  some (.inl (q3, (w1 + (1 : Int32))))
set_option maxHeartbeats 4000000 in
set_option maxRecDepth 100000 in
theorem tX6_bestReply_L24 {κ : Nat → ClassId} {tg : Nat} {S : zEn} {ad : Nat → Nat} {X : zX} {pX : zM} {pF : zM} {pB : zM} {pT : zM} {pP : zP} {v1 : Int32} {v2 : Int32} {w0 : zM} {w1 : Int32} {r : ((zM × Int32) ⊕ zM)} (hC : zC X cX6_bestReply RX6 wsX6_bestReply vwCl (zty κ) (zE tg S) 5 ({ frames := 6, cells := 0, slots := 0, locals := 147 } : Room)) (hEk : zEk (zE tg S)) (hin : ∀ (x0' : zM) (x1' : Int32), r = .inl (x0', x1') → zV X 0 0 (zwC κ ad pT x0' pX pF pB pP) [(0, .ref (ad 62)), (1, .int v1), (2, .int v2), (3, .int x1')] [] 24) (hout0 : ∀ (x0' : zM), r = .inr x0' → zV X 0 0 (zwC κ ad pT x0' pX pF pB pP) [(0, .ref (ad 62)), (1, .int v1), (2, .int v2)] [] 49) (h : xX6_bestReply_L24 pT pP v1 v2 w0 w1 = some r) : zV X 0 0 (zwC κ ad pT w0 pX pF pB pP) [(0, .ref (ad 62)), (1, .int v1), (2, .int v2), (3, .int w1)] [] 24 := by
  unfold xX6_bestReply_L24 at h
  refine zr_iload_n (pc := 24) hC 3 rfl rfl dX6_bestReply_24 ?_
  refine zr_bipush (pc := 25) hC zkb_24 dX6_bestReply_25 ?_
  refine zr_icmp_ge (pc := 27) (tgt := 49) hC dX6_bestReply_27 (by decide) (fun c1 => ?_) (fun c1 => ?_)
  · replace h := zip h c1
    obtain rfl := Option.some.inj h
    exact zV.sub (lv' := [(0, .ref (ad 62)), (1, .int v1), (2, .int v2)]) [0, 1, 2] rfl (hout0 w0 rfl)
  · replace h := zin h c1
    refine zr_iload_n (pc := 30) hC 2 rfl rfl dX6_bestReply_30 ?_
    refine zr_iconst (pc := 31) hC zki_1 dX6_bestReply_31 ?_
    refine zr_icmp_lt (pc := 32) (tgt := 49) hC dX6_bestReply_32 (by decide) (fun c2 => ?_) (fun c2 => ?_)
    · replace h := zip h c2
      obtain rfl := Option.some.inj h
      exact zV.sub (lv' := [(0, .ref (ad 62)), (1, .int v1), (2, .int v2)]) [0, 1, 2] rfl (hout0 w0 rfl)
    · replace h := zin h c2
      refine zr_aload_n (pc := 35) hC 0 rfl rfl dX6_bestReply_35 ?_
      refine zr_iload_n (pc := 36) hC 1 rfl rfl dX6_bestReply_36 ?_
      refine zr_iconst (pc := 37) hC zki_1 dX6_bestReply_37 ?_
      refine zr_iload_n (pc := 38) hC 3 rfl rfl dX6_bestReply_38 ?_
      refine zr_ishl (pc := 39) hC dX6_bestReply_39 ?_
      obtain ⟨q3, hq3, h⟩ := zbd h
      refine zr_cVv (pc := 40) hC hEk [.int v1, .int ((1 : Int32) <<< (w1 &&& 31))] [] 62 2 (fun l D => tX6_tryReply hEk hq3 l D) gX6_bestReply_X6_tryReply rfl rfl rfl ⟨Nat.le_of_ble_eq_true rfl, Nat.le_of_ble_eq_true rfl⟩ hyX6_tryReply (zNC (by decide)) entC_62 rfl rfl rfl (Nat.le_of_ble_eq_true rfl) ⟨Nat.le_of_ble_eq_true rfl, Nat.le_of_ble_eq_true rfl⟩ dX6_bestReply_40 ?_
      refine zr_iinc (pc := 43) (k := 3) (lv' := [(3, .int (w1 + (1 : Int32))), (0, .ref (ad 62)), (1, .int v1), (2, .int v2)]) hC zki_1 (by decide) rfl rfl dX6_bestReply_43 ?_
      refine zr_goto (pc := 46) (tgt := 24) hC dX6_bestReply_46 (by decide) ?_
      obtain rfl := Option.some.inj h
      exact zV.sub (lv' := [(0, .ref (ad 62)), (1, .int v1), (2, .int v2), (3, .int (w1 + (1 : Int32)))]) [1, 2, 3, 0] rfl (hin q3 (w1 + (1 : Int32)) rfl)
def xX6_bestReply_L65_L51 (pT : zM) (pP : zP) (v1 : Int32) (v2 : Int32) (v3 : Int32) (w0 : zM) (w1 : Int32) : Option ((zM × Int32) ⊕ zM) :=
  if v3 ≤ w1 then
  (some (.inr w0))
  else
  (xX6_tryReply pT w0 pP v1 (((1 : Int32) <<< (v3 &&& 31)) ||| ((1 : Int32) <<< (w1 &&& 31)))).bind fun q2 =>
  some (.inl (q2, (w1 + (1 : Int32))))
set_option maxHeartbeats 4000000 in
set_option maxRecDepth 100000 in
theorem tX6_bestReply_L65_L51 {κ : Nat → ClassId} {tg : Nat} {S : zEn} {ad : Nat → Nat} {X : zX} {pX : zM} {pF : zM} {pB : zM} {pT : zM} {pP : zP} {v1 : Int32} {v2 : Int32} {v3 : Int32} {w0 : zM} {w1 : Int32} {r : ((zM × Int32) ⊕ zM)} (hC : zC X cX6_bestReply RX6 wsX6_bestReply vwCl (zty κ) (zE tg S) 5 ({ frames := 6, cells := 0, slots := 0, locals := 147 } : Room)) (hEk : zEk (zE tg S)) (hin : ∀ (x0' : zM) (x1' : Int32), r = .inl (x0', x1') → zV X 0 0 (zwC κ ad pT x0' pX pF pB pP) [(0, .ref (ad 62)), (1, .int v1), (2, .int v2), (3, .int v3), (4, .int x1')] [] 65) (hout0 : ∀ (x0' : zM), r = .inr x0' → zV X 0 0 (zwC κ ad pT x0' pX pF pB pP) [(0, .ref (ad 62)), (1, .int v1), (2, .int v2), (3, .int v3)] [] 90) (h : xX6_bestReply_L65_L51 pT pP v1 v2 v3 w0 w1 = some r) : zV X 0 0 (zwC κ ad pT w0 pX pF pB pP) [(0, .ref (ad 62)), (1, .int v1), (2, .int v2), (3, .int v3), (4, .int w1)] [] 65 := by
  unfold xX6_bestReply_L65_L51 at h
  refine zr_iload (pc := 65) hC 4 rfl dX6_bestReply_65 ?_
  refine zr_iload_n (pc := 67) hC 3 rfl rfl dX6_bestReply_67 ?_
  refine zr_icmp_ge (pc := 68) (tgt := 90) hC dX6_bestReply_68 (by decide) (fun c1 => ?_) (fun c1 => ?_)
  · replace h := zip h c1
    obtain rfl := Option.some.inj h
    exact zV.sub (lv' := [(0, .ref (ad 62)), (1, .int v1), (2, .int v2), (3, .int v3)]) [0, 1, 2, 3] rfl (hout0 w0 rfl)
  · replace h := zin h c1
    refine zr_aload_n (pc := 71) hC 0 rfl rfl dX6_bestReply_71 ?_
    refine zr_iload_n (pc := 72) hC 1 rfl rfl dX6_bestReply_72 ?_
    refine zr_iconst (pc := 73) hC zki_1 dX6_bestReply_73 ?_
    refine zr_iload_n (pc := 74) hC 3 rfl rfl dX6_bestReply_74 ?_
    refine zr_ishl (pc := 75) hC dX6_bestReply_75 ?_
    refine zr_iconst (pc := 76) hC zki_1 dX6_bestReply_76 ?_
    refine zr_iload (pc := 77) hC 4 rfl dX6_bestReply_77 ?_
    refine zr_ishl (pc := 79) hC dX6_bestReply_79 ?_
    refine zr_ior (pc := 80) hC dX6_bestReply_80 ?_
    obtain ⟨q2, hq2, h⟩ := zbd h
    refine zr_cVv (pc := 81) hC hEk [.int v1, .int (((1 : Int32) <<< (v3 &&& 31)) ||| ((1 : Int32) <<< (w1 &&& 31)))] [] 62 2 (fun l D => tX6_tryReply hEk hq2 l D) gX6_bestReply_X6_tryReply rfl rfl rfl ⟨Nat.le_of_ble_eq_true rfl, Nat.le_of_ble_eq_true rfl⟩ hyX6_tryReply (zNC (by decide)) entC_62 rfl rfl rfl (Nat.le_of_ble_eq_true rfl) ⟨Nat.le_of_ble_eq_true rfl, Nat.le_of_ble_eq_true rfl⟩ dX6_bestReply_81 ?_
    refine zr_iinc (pc := 84) (k := 4) (lv' := [(4, .int (w1 + (1 : Int32))), (0, .ref (ad 62)), (1, .int v1), (2, .int v2), (3, .int v3)]) hC zki_1 (by decide) rfl rfl dX6_bestReply_84 ?_
    refine zr_goto (pc := 87) (tgt := 65) hC dX6_bestReply_87 (by decide) ?_
    obtain rfl := Option.some.inj h
    exact zV.sub (lv' := [(0, .ref (ad 62)), (1, .int v1), (2, .int v2), (3, .int v3), (4, .int (w1 + (1 : Int32)))]) [1, 2, 3, 4, 0] rfl (hin q2 (w1 + (1 : Int32)) rfl)
def xX6_bestReply_L51 (pT : zM) (pP : zP) (v1 : Int32) (v2 : Int32) (w0 : zM) (w1 : Int32) : Option ((zM × Int32) ⊕ zM) :=
  if (24 : Int32) ≤ w1 then
  (some (.inr w0))
  else
  if v2 < (2 : Int32) then
  (some (.inr w0))
  else
  (x_it (fun a9 => xX6_bestReply_L65_L51 pT pP v1 v2 w1 a9.1 a9.2) zFU (w0, (1 : Int32))).bind fun q3 =>
  some (.inl (q3, (w1 + (1 : Int32))))
set_option maxHeartbeats 4000000 in
set_option maxRecDepth 100000 in
theorem tX6_bestReply_L51 {κ : Nat → ClassId} {tg : Nat} {S : zEn} {ad : Nat → Nat} {X : zX} {pX : zM} {pF : zM} {pB : zM} {pT : zM} {pP : zP} {v1 : Int32} {v2 : Int32} {w0 : zM} {w1 : Int32} {r : ((zM × Int32) ⊕ zM)} (hC : zC X cX6_bestReply RX6 wsX6_bestReply vwCl (zty κ) (zE tg S) 5 ({ frames := 6, cells := 0, slots := 0, locals := 147 } : Room)) (hEk : zEk (zE tg S)) (hin : ∀ (x0' : zM) (x1' : Int32), r = .inl (x0', x1') → zV X 0 0 (zwC κ ad pT x0' pX pF pB pP) [(0, .ref (ad 62)), (1, .int v1), (2, .int v2), (3, .int x1')] [] 51) (hout0 : ∀ (x0' : zM), r = .inr x0' → zV X 0 0 (zwC κ ad pT x0' pX pF pB pP) [(0, .ref (ad 62))] [] 96) (h : xX6_bestReply_L51 pT pP v1 v2 w0 w1 = some r) : zV X 0 0 (zwC κ ad pT w0 pX pF pB pP) [(0, .ref (ad 62)), (1, .int v1), (2, .int v2), (3, .int w1)] [] 51 := by
  unfold xX6_bestReply_L51 at h
  refine zr_iload_n (pc := 51) hC 3 rfl rfl dX6_bestReply_51 ?_
  refine zr_bipush (pc := 52) hC zkb_24 dX6_bestReply_52 ?_
  refine zr_icmp_ge (pc := 54) (tgt := 96) hC dX6_bestReply_54 (by decide) (fun c1 => ?_) (fun c1 => ?_)
  · replace h := zip h c1
    obtain rfl := Option.some.inj h
    exact zV.sub (lv' := [(0, .ref (ad 62))]) [0] rfl (hout0 w0 rfl)
  · replace h := zin h c1
    refine zr_iload_n (pc := 57) hC 2 rfl rfl dX6_bestReply_57 ?_
    refine zr_iconst (pc := 58) hC zki_2 dX6_bestReply_58 ?_
    refine zr_icmp_lt (pc := 59) (tgt := 96) hC dX6_bestReply_59 (by decide) (fun c2 => ?_) (fun c2 => ?_)
    · replace h := zip h c2
      obtain rfl := Option.some.inj h
      exact zV.sub (lv' := [(0, .ref (ad 62))]) [0] rfl (hout0 w0 rfl)
    · replace h := zin h c2
      refine zr_iconst (pc := 62) hC zki_1 dX6_bestReply_62 ?_
      refine zr_istore (pc := 63) (lv' := [(4, .int (1 : Int32)), (0, .ref (ad 62)), (1, .int v1), (2, .int v2), (3, .int w1)]) hC (by decide) rfl dX6_bestReply_63 ?_
      obtain ⟨q3, hq3, h⟩ := zbd h
      refine zV.sub (lv' := [(0, .ref (ad 62)), (1, .int v1), (2, .int v2), (3, .int w1), (4, .int (1 : Int32))]) [1, 2, 3, 4, 0] rfl ?_
      refine zit2 (Wp := fun (y0 : zM) (y1 : Int32) => zV X 0 0 (zwC κ ad pT y0 pX pF pB pP) [(0, .ref (ad 62)), (1, .int v1), (2, .int v2), (3, .int w1), (4, .int y1)] [] 65) (Ex := fun (b9 : zM) => zV X 0 0 (zwC κ ad pT b9 pX pF pB pP) [(0, .ref (ad 62)), (1, .int v1), (2, .int v2), (3, .int w1)] [] 90) (fun y0 y1 r9 hr hin hout => tX6_bestReply_L65_L51 hC hEk hin (fun z0 e9 => hout z0 e9) hr) zFU w0 (1 : Int32) q3 hq3 ?_
      show zV X 0 0 (zwC κ ad pT q3 pX pF pB pP) [(0, .ref (ad 62)), (1, .int v1), (2, .int v2), (3, .int w1)] [] 90
      refine zr_iinc (pc := 90) (k := 3) (lv' := [(3, .int (w1 + (1 : Int32))), (0, .ref (ad 62)), (1, .int v1), (2, .int v2)]) hC zki_1 (by decide) rfl rfl dX6_bestReply_90 ?_
      refine zr_goto (pc := 93) (tgt := 51) hC dX6_bestReply_93 (by decide) ?_
      obtain rfl := Option.some.inj h
      exact zV.sub (lv' := [(0, .ref (ad 62)), (1, .int v1), (2, .int v2), (3, .int (w1 + (1 : Int32)))]) [1, 2, 3, 0] rfl (hin q3 (w1 + (1 : Int32)) rfl)
def xX6_bestReply (pT : zM) (pR : zM) (pP : zP) (v1 : Int32) (v2 : Int32) : Option (Int32 × zM) :=
  (xX6_prepare pT pR pP).bind fun q1 =>
  zlet (zsi q1 62 14 (0 : Int32)) fun M2 =>
  zlet (zsj M2 62 15 (-4000000000000000000 : Int64)) fun M4 =>
  (xX6_tryReply pT M4 pP v1 (0 : Int32)).bind fun q6 =>
  (x_it (fun a9 => xX6_bestReply_L24 pT pP v1 v2 a9.1 a9.2) zFU (q6, (1 : Int32))).bind fun q7 =>
  (x_it (fun a9 => xX6_bestReply_L51 pT pP v1 v2 a9.1 a9.2) zFU (q7, (2 : Int32))).bind fun q8 =>
  some ((q8.1 62 14), q8)
set_option maxHeartbeats 4000000 in
set_option maxRecDepth 100000 in
theorem tX6_bestReply {κ : Nat → ClassId} {tg : Nat} {S : zEn} {ad : Nat → Nat} (hEk : zEk (zE tg S)) {pT : zM} {pR : zM} {pX : zM} {pF : zM} {pB : zM} {pP : zP} {v1 : Int32} {v2 : Int32} {res : (Int32 × zM)} (h : xX6_bestReply pT pR pP v1 v2 = some res) (l : Launch) (D : va_G) : zCT (zE tg S) D vwCl (zty κ) l yX6_bestReply wsX6_bestReply ({ frames := 6, cells := 0, slots := 0, locals := 147 } : Room) 0 0 [.ref (ad 62), .int v1, .int v2] (zwC κ ad pT pR pX pF pB pP) (zPd (some (.int res.1)) (zwC κ ad pT res.2 pX pF pB pP)) := by
  refine zCT.of (cc := cX6_bestReply) (maxL := 5) (ret := (some .int)) (by decide) rfl (Nat.le_of_ble_eq_true rfl) ?_
  intro X hC hR
  unfold xX6_bestReply at h
  refine zV.sub (lv' := [(0, .ref (ad 62)), (1, .int v1), (2, .int v2)]) [0, 1, 2] rfl ?_
  refine zr_aload_n (pc := 0) hC 0 rfl rfl dX6_bestReply_0 ?_
  obtain ⟨q1, hq1, h⟩ := zbd h
  refine zr_cVv (pc := 1) hC hEk [] [] 62 0 (fun l D => tX6_prepare hEk hq1 l D) gX6_bestReply_X6_prepare rfl rfl rfl ⟨Nat.le_of_ble_eq_true rfl, Nat.le_of_ble_eq_true rfl⟩ hyX6_prepare (zNC (by decide)) entC_62 rfl rfl rfl (Nat.le_of_ble_eq_true rfl) ⟨Nat.le_of_ble_eq_true rfl, Nat.le_of_ble_eq_true rfl⟩ dX6_bestReply_1 ?_
  refine zr_aload_n (pc := 4) hC 0 rfl rfl dX6_bestReply_4 ?_
  refine zr_iconst (pc := 5) hC zki_0 dX6_bestReply_5 ?_
  obtain ⟨M2, e3, h⟩ := zle h
  refine zcp_62_14 (pc := 6) hC hinX6_bestReply_X6 flX6_bestReply_57 e3 dX6_bestReply_6 ?_
  refine zr_aload_n (pc := 9) hC 0 rfl rfl dX6_bestReply_9 ?_
  refine zr_ldc2 (pc := 10) hC flX6_bestReply_148 dX6_bestReply_10 ?_
  obtain ⟨M4, e5, h⟩ := zle h
  refine zcp_62_15 (pc := 13) hC hinX6_bestReply_X6 flX6_bestReply_60 e5 dX6_bestReply_13 ?_
  refine zr_aload_n (pc := 16) hC 0 rfl rfl dX6_bestReply_16 ?_
  refine zr_iload_n (pc := 17) hC 1 rfl rfl dX6_bestReply_17 ?_
  refine zr_iconst (pc := 18) hC zki_0 dX6_bestReply_18 ?_
  obtain ⟨q6, hq6, h⟩ := zbd h
  refine zr_cVv (pc := 19) hC hEk [.int v1, .int (0 : Int32)] [] 62 2 (fun l D => tX6_tryReply hEk hq6 l D) gX6_bestReply_X6_tryReply rfl rfl rfl ⟨Nat.le_of_ble_eq_true rfl, Nat.le_of_ble_eq_true rfl⟩ hyX6_tryReply (zNC (by decide)) entC_62 rfl rfl rfl (Nat.le_of_ble_eq_true rfl) ⟨Nat.le_of_ble_eq_true rfl, Nat.le_of_ble_eq_true rfl⟩ dX6_bestReply_19 ?_
  refine zr_iconst (pc := 22) hC zki_1 dX6_bestReply_22 ?_
  refine zr_istore_n (pc := 23) (lv' := [(3, .int (1 : Int32)), (0, .ref (ad 62)), (1, .int v1), (2, .int v2)]) hC rfl (by decide) rfl dX6_bestReply_23 ?_
  obtain ⟨q7, hq7, h⟩ := zbd h
  refine zV.sub (lv' := [(0, .ref (ad 62)), (1, .int v1), (2, .int v2), (3, .int (1 : Int32))]) [1, 2, 3, 0] rfl ?_
  refine zit2 (Wp := fun (y0 : zM) (y1 : Int32) => zV X 0 0 (zwC κ ad pT y0 pX pF pB pP) [(0, .ref (ad 62)), (1, .int v1), (2, .int v2), (3, .int y1)] [] 24) (Ex := fun (b9 : zM) => zV X 0 0 (zwC κ ad pT b9 pX pF pB pP) [(0, .ref (ad 62)), (1, .int v1), (2, .int v2)] [] 49) (fun y0 y1 r9 hr hin hout => tX6_bestReply_L24 hC hEk hin (fun z0 e9 => hout z0 e9) hr) zFU q6 (1 : Int32) q7 hq7 ?_
  show zV X 0 0 (zwC κ ad pT q7 pX pF pB pP) [(0, .ref (ad 62)), (1, .int v1), (2, .int v2)] [] 49
  refine zr_iconst (pc := 49) hC zki_2 dX6_bestReply_49 ?_
  refine zr_istore_n (pc := 50) (lv' := [(3, .int (2 : Int32)), (0, .ref (ad 62)), (1, .int v1), (2, .int v2)]) hC rfl (by decide) rfl dX6_bestReply_50 ?_
  obtain ⟨q8, hq8, h⟩ := zbd h
  refine zV.sub (lv' := [(0, .ref (ad 62)), (1, .int v1), (2, .int v2), (3, .int (2 : Int32))]) [1, 2, 3, 0] rfl ?_
  refine zit2 (Wp := fun (y0 : zM) (y1 : Int32) => zV X 0 0 (zwC κ ad pT y0 pX pF pB pP) [(0, .ref (ad 62)), (1, .int v1), (2, .int v2), (3, .int y1)] [] 51) (Ex := fun (b9 : zM) => zV X 0 0 (zwC κ ad pT b9 pX pF pB pP) [(0, .ref (ad 62))] [] 96) (fun y0 y1 r9 hr hin hout => tX6_bestReply_L51 hC hEk hin (fun z0 e9 => hout z0 e9) hr) zFU q7 (2 : Int32) q8 hq8 ?_
  show zV X 0 0 (zwC κ ad pT q8 pX pF pB pP) [(0, .ref (ad 62))] [] 96
  refine zr_aload_n (pc := 96) hC 0 rfl rfl dX6_bestReply_96 ?_
  refine zcg_62_14 (pc := 97) hC hinX6_bestReply_X6 flX6_bestReply_57 dX6_bestReply_97 ?_
  obtain rfl := Option.some.inj h
  exact zr_iret hC hR ⟨rfl, rfl⟩ (Nat.le_refl _) (Nat.le_refl _) dX6_bestReply_100
/-! X10_belowOf -/
theorem hyX10_belowOf : yX10_belowOf.cls = RX10 ∧ yX10_belowOf.cls ≠ "java/lang/invoke/MethodHandle" ∧ yX10_belowOf.cls ≠ "java/lang/invoke/VarHandle" ∧ (parseMethodDescriptor yX10_belowOf.desc).map (fun d => d.parameters.length) = some 1 := by decide +kernel
theorem flX10_belowOf_36 : Cond.fieldLink RX10 36 "BeforeTheEnd$Tree" "below" "[J" ∈ wsX10_belowOf := by decide +kernel
theorem hinX10_belowOf_X10 : ∀ w ∈ wsX100, w ∈ wsX10_belowOf := fun _ h => List.mem_cons_of_mem _ (List.mem_append_right _ h)
def xX10_belowOf (pT : zM) (v1 : Int32) : Option Int64 :=
  (xX10_has pT v1).bind fun q1 =>
  if q1 = 0 then
  (some (1 : Int64))
  else
  if (v1 < 0 ∨ 24 ≤ v1.toNatClampNeg) then none else
  some (pT.2 9 v1.toNatClampNeg)
set_option maxHeartbeats 4000000 in
set_option maxRecDepth 100000 in
theorem tX10_belowOf {κ : Nat → ClassId} {tg : Nat} {S : zEn} {ad : Nat → Nat} (hEk : zEk (zE tg S)) {pT : zM} {pR : zM} {pX : zM} {pF : zM} {pB : zM} {pP : zP} {v1 : Int32} {res : Int64} (h : xX10_belowOf pT v1 = some res) (l : Launch) (D : va_G) : zCT (zE tg S) D vwCl (zty κ) l yX10_belowOf wsX10_belowOf ({ frames := 1, cells := 0, slots := 0, locals := 21 } : Room) 0 0 [.ref (ad 0), .int v1] (zwC κ ad pT pR pX pF pB pP) (zPd (some (.long res)) (zwC κ ad pT pR pX pF pB pP)) := by
  refine zCT.of (cc := cX10_belowOf) (maxL := 2) (ret := (some .long)) (by decide) rfl (Nat.le_of_ble_eq_true rfl) ?_
  intro X hC hR
  unfold xX10_belowOf at h
  refine zV.sub (lv' := [(0, .ref (ad 0)), (1, .int v1)]) [0, 1] rfl ?_
  refine zr_aload_n (pc := 0) hC 0 rfl rfl dX10_belowOf_0 ?_
  refine zr_iload_n (pc := 1) hC 1 rfl rfl dX10_belowOf_1 ?_
  obtain ⟨q1, hq1, h⟩ := zbd h
  refine zr_cVi (pc := 2) hC hEk [.int v1] [] 0 1 (fun l D => tX10_has hEk hq1 l D) gX10_belowOf_X10_has rfl rfl rfl ⟨Nat.le_of_ble_eq_true rfl, Nat.le_of_ble_eq_true rfl⟩ hyX10_has (zNC (by decide)) entC_0 rfl rfl rfl (Nat.le_of_ble_eq_true rfl) ⟨Nat.le_of_ble_eq_true rfl, Nat.le_of_ble_eq_true rfl⟩ dX10_belowOf_2 ?_
  refine zr_if_eq (pc := 5) (tgt := 17) hC dX10_belowOf_5 (by decide) (fun c2 => ?_) (fun c2 => ?_)
  · replace h := zip h c2
    refine zr_lconst (pc := 17) hC zkl_1 dX10_belowOf_17 ?_
    obtain rfl := Option.some.inj h
    exact zr_lret hC hR ⟨rfl, rfl⟩ (Nat.le_refl _) (Nat.le_refl _) dX10_belowOf_18
  · replace h := zin h c2
    refine zr_aload_n (pc := 8) hC 0 rfl rfl dX10_belowOf_8 ?_
    refine zcg_0_8 (pc := 9) hC hinX10_belowOf_X10 flX10_belowOf_36 dX10_belowOf_9 ?_
    refine zr_iload_n (pc := 12) hC 1 rfl rfl dX10_belowOf_12 ?_
    obtain ⟨i3, h⟩ := zgd h
    refine zcl_9 (pc := 13) hC i3 dX10_belowOf_13 ?_
    refine zr_goto (pc := 14) (tgt := 18) hC dX10_belowOf_14 (by decide) ?_
    obtain rfl := Option.some.inj h
    exact zr_lret hC hR ⟨rfl, rfl⟩ (Nat.le_refl _) (Nat.le_refl _) dX10_belowOf_18
/-! X6_leastWrong -/
theorem hyX6_leastWrong : yX6_leastWrong.cls = RX6 ∧ yX6_leastWrong.cls ≠ "java/lang/invoke/MethodHandle" ∧ yX6_leastWrong.cls ≠ "java/lang/invoke/VarHandle" ∧ (parseMethodDescriptor yX6_leastWrong.desc).map (fun d => d.parameters.length) = some 1 := by decide +kernel
theorem flX6_leastWrong_165 : Jvm.Cond.constantLong RX6 165 (100) ∈ wsX6_leastWrong := by decide +kernel
theorem flX6_leastWrong_21 : Cond.fieldLink RX6 21 "BeforeTheEnd$Race" "point" "[I" ∈ wsX6_leastWrong := by decide +kernel
theorem flX6_leastWrong_67 : Cond.fieldLink RX6 67 "BeforeTheEnd$Race" "tree" "LBeforeTheEnd$Tree;" ∈ wsX6_leastWrong := by decide +kernel
theorem hinX6_leastWrong_X6 : ∀ w ∈ wsX60, w ∈ wsX6_leastWrong := fun _ h => List.mem_cons_of_mem _ (List.mem_append_left _ (List.mem_append_left _ (List.mem_append_left _ (List.mem_append_left _ (List.mem_append_left _ (List.mem_append_left _ (List.mem_append_left _ (List.mem_append_right _ h))))))))
theorem hinX6_leastWrong_X0 : ∀ w ∈ wsX00, w ∈ wsX6_leastWrong := fun _ h => List.mem_cons_of_mem _ (List.mem_append_left _ (List.mem_append_left _ (List.mem_append_left _ (List.mem_append_left _ (List.mem_append_left _ (List.mem_append_left _ (List.mem_append_right _ h)))))))
theorem hinX6_leastWrong_X1 : ∀ w ∈ wsX10, w ∈ wsX6_leastWrong := fun _ h => List.mem_cons_of_mem _ (List.mem_append_left _ (List.mem_append_left _ (List.mem_append_left _ (List.mem_append_left _ (List.mem_append_left _ (List.mem_append_right _ h))))))
theorem hinX6_leastWrong_X2 : ∀ w ∈ wsX20, w ∈ wsX6_leastWrong := fun _ h => List.mem_cons_of_mem _ (List.mem_append_left _ (List.mem_append_left _ (List.mem_append_left _ (List.mem_append_left _ (List.mem_append_right _ h)))))
theorem hinX6_leastWrong_X4 : ∀ w ∈ wsX40, w ∈ wsX6_leastWrong := fun _ h => List.mem_cons_of_mem _ (List.mem_append_left _ (List.mem_append_left _ (List.mem_append_left _ (List.mem_append_right _ h))))
theorem hinX6_leastWrong_X7 : ∀ w ∈ wsX70, w ∈ wsX6_leastWrong := fun _ h => List.mem_cons_of_mem _ (List.mem_append_left _ (List.mem_append_left _ (List.mem_append_right _ h)))
theorem hinX6_leastWrong_X9 : ∀ w ∈ wsX90, w ∈ wsX6_leastWrong := fun _ h => List.mem_cons_of_mem _ (List.mem_append_left _ (List.mem_append_right _ h))
theorem hinX6_leastWrong_X10 : ∀ w ∈ wsX100, w ∈ wsX6_leastWrong := fun _ h => List.mem_cons_of_mem _ (List.mem_append_right _ h)
def xX6_leastWrong_L13 (pT : zM) (pP : zP) (v1 : Int32) (v2 : Int32) (w0 : zM) (w1 : Int32) (w2 : Int32) : Option ((zM × Int32 × Int32) ⊕ (zM × Int32)) :=
  if (zGP (1 : Int32)) < w2 then
  (some (.inr (w0, w1)))
  else
  if w1 = (-9 : Int32) then
  (zlet (zsi w0 64 (1 : Int32).toNatClampNeg w2) fun M3 =>
  (xX6_prepare pT M3 pP).bind fun q5 =>
  (xX6_dullTotal pT q5).bind fun q6 =>
  (xX10_belowOf pT (0 : Int32)).bind fun q7 =>
  if (lg_cmp (q6 * (100 : Int64)) (v1.toInt64 * q7)) < 0 then
  (some (.inl (q5, w1, (w2 + (1 : Int32)))))
  else
  some (.inl (q5, w2, (w2 + (1 : Int32)))))
  else
  some (.inr (w0, w1))
set_option maxHeartbeats 4000000 in
set_option maxRecDepth 100000 in
theorem tX6_leastWrong_L13 {κ : Nat → ClassId} {tg : Nat} {S : zEn} {ad : Nat → Nat} {X : zX} {pX : zM} {pF : zM} {pB : zM} {pT : zM} {pP : zP} {v1 : Int32} {v2 : Int32} {w0 : zM} {w1 : Int32} {w2 : Int32} {r : ((zM × Int32 × Int32) ⊕ (zM × Int32))} (hC : zC X cX6_leastWrong RX6 wsX6_leastWrong vwCl (zty κ) (zE tg S) 5 ({ frames := 6, cells := 0, slots := 0, locals := 141 } : Room)) (hEk : zEk (zE tg S)) (hin : ∀ (x0' : zM) (x1' : Int32) (x2' : Int32), r = .inl (x0', x1', x2') → zV X 0 0 (zwC κ ad pT x0' pX pF pB pP) [(0, .ref (ad 62)), (1, .int v1), (2, .int v2), (3, .int x1'), (4, .int x2')] [] 13) (hout0 : ∀ (x0' : zM) (x1' : Int32), r = .inr (x0', x1') → zV X 0 0 (zwC κ ad pT x0' pX pF pB pP) [(0, .ref (ad 62)), (2, .int v2), (3, .int x1')] [] 73) (h : xX6_leastWrong_L13 pT pP v1 v2 w0 w1 w2 = some r) : zV X 0 0 (zwC κ ad pT w0 pX pF pB pP) [(0, .ref (ad 62)), (1, .int v1), (2, .int v2), (3, .int w1), (4, .int w2)] [] 13 := by
  unfold xX6_leastWrong_L13 at h
  refine zr_iload (pc := 13) hC 4 rfl dX6_leastWrong_13 ?_
  refine zsg_getN (pc := 15) hC hEk dX6_leastWrong_15 ?_
  refine zr_iconst (pc := 18) hC zki_1 dX6_leastWrong_18 ?_
  refine zsg_ld (pc := 19) hC hEk (by decide) dX6_leastWrong_19 ?_
  refine zr_icmp_gt (pc := 20) (tgt := 73) hC dX6_leastWrong_20 (by decide) (fun c1 => ?_) (fun c1 => ?_)
  · replace h := zip h c1
    obtain rfl := Option.some.inj h
    exact zV.sub (lv' := [(0, .ref (ad 62)), (2, .int v2), (3, .int w1)]) [0, 2, 3] rfl (hout0 w0 w1 rfl)
  · replace h := zin h c1
    refine zr_iload_n (pc := 23) hC 3 rfl rfl dX6_leastWrong_23 ?_
    refine zr_bipush (pc := 24) hC zkb_m9 dX6_leastWrong_24 ?_
    refine zr_icmp_ne (pc := 26) (tgt := 73) hC dX6_leastWrong_26 (by decide) (fun c2 => ?_) (fun c2 => ?_)
    · replace h := zin h c2
      obtain rfl := Option.some.inj h
      exact zV.sub (lv' := [(0, .ref (ad 62)), (2, .int v2), (3, .int w1)]) [0, 2, 3] rfl (hout0 w0 w1 rfl)
    · replace h := zip h c2
      refine zr_aload_n (pc := 29) hC 0 rfl rfl dX6_leastWrong_29 ?_
      refine zcg_62_3 (pc := 30) hC hinX6_leastWrong_X6 flX6_leastWrong_21 dX6_leastWrong_30 ?_
      refine zr_iconst (pc := 33) hC zki_1 dX6_leastWrong_33 ?_
      refine zr_iload (pc := 34) hC 4 rfl dX6_leastWrong_34 ?_
      obtain ⟨M3, e4, h⟩ := zle h
      refine zcs_64 (pc := 36) hC (by decide) e4 dX6_leastWrong_36 ?_
      refine zr_aload_n (pc := 37) hC 0 rfl rfl dX6_leastWrong_37 ?_
      obtain ⟨q5, hq5, h⟩ := zbd h
      refine zr_cVv (pc := 38) hC hEk [] [] 62 0 (fun l D => tX6_prepare hEk hq5 l D) gX6_leastWrong_X6_prepare rfl rfl rfl ⟨Nat.le_of_ble_eq_true rfl, Nat.le_of_ble_eq_true rfl⟩ hyX6_prepare (zNC (by decide)) entC_62 rfl rfl rfl (Nat.le_of_ble_eq_true rfl) ⟨Nat.le_of_ble_eq_true rfl, Nat.le_of_ble_eq_true rfl⟩ dX6_leastWrong_38 ?_
      refine zr_aload_n (pc := 41) hC 0 rfl rfl dX6_leastWrong_41 ?_
      obtain ⟨q6, hq6, h⟩ := zbd h
      refine zr_cVl (pc := 42) hC hEk [] [] 62 0 (fun l D => tX6_dullTotal hEk hq6 l D) gX6_leastWrong_X6_dullTotal rfl rfl rfl ⟨Nat.le_of_ble_eq_true rfl, Nat.le_of_ble_eq_true rfl⟩ hyX6_dullTotal (zNC (by decide)) entC_62 rfl rfl rfl (Nat.le_of_ble_eq_true rfl) ⟨Nat.le_of_ble_eq_true rfl, Nat.le_of_ble_eq_true rfl⟩ dX6_leastWrong_42 ?_
      refine zr_ldc2 (pc := 45) hC flX6_leastWrong_165 dX6_leastWrong_45 ?_
      refine zr_lmul (pc := 48) hC dX6_leastWrong_48 ?_
      refine zr_iload_n (pc := 49) hC 1 rfl rfl dX6_leastWrong_49 ?_
      refine zr_i2l (pc := 50) hC dX6_leastWrong_50 ?_
      refine zr_aload_n (pc := 51) hC 0 rfl rfl dX6_leastWrong_51 ?_
      refine zcg_62_0 (pc := 52) hC hinX6_leastWrong_X6 flX6_leastWrong_67 dX6_leastWrong_52 ?_
      refine zr_iconst (pc := 55) hC zki_0 dX6_leastWrong_55 ?_
      obtain ⟨q7, hq7, h⟩ := zbd h
      refine zr_cVl (pc := 56) hC hEk [.int (0 : Int32)] [.long v1.toInt64, .long (q6 * (100 : Int64))] 0 1 (fun l D => tX10_belowOf hEk hq7 l D) gX6_leastWrong_X10_belowOf rfl rfl rfl ⟨Nat.le_of_ble_eq_true rfl, Nat.le_of_ble_eq_true rfl⟩ hyX10_belowOf (zNC (by decide)) entC_0 rfl rfl rfl (Nat.le_of_ble_eq_true rfl) ⟨Nat.le_of_ble_eq_true rfl, Nat.le_of_ble_eq_true rfl⟩ dX6_leastWrong_56 ?_
      refine zr_lmul (pc := 59) hC dX6_leastWrong_59 ?_
      refine zr_lcmp (pc := 60) hC dX6_leastWrong_60 ?_
      refine zr_if_lt (pc := 61) (tgt := 67) hC dX6_leastWrong_61 (by decide) (fun c8 => ?_) (fun c8 => ?_)
      · replace h := zip h c8
        refine zr_iinc (pc := 67) (k := 4) (lv' := [(4, .int (w2 + (1 : Int32))), (0, .ref (ad 62)), (1, .int v1), (2, .int v2), (3, .int w1)]) hC zki_1 (by decide) rfl rfl dX6_leastWrong_67 ?_
        refine zr_goto (pc := 70) (tgt := 13) hC dX6_leastWrong_70 (by decide) ?_
        obtain rfl := Option.some.inj h
        exact zV.sub (lv' := [(0, .ref (ad 62)), (1, .int v1), (2, .int v2), (3, .int w1), (4, .int (w2 + (1 : Int32)))]) [1, 2, 3, 4, 0] rfl (hin q5 w1 (w2 + (1 : Int32)) rfl)
      · replace h := zin h c8
        refine zr_iload (pc := 64) hC 4 rfl dX6_leastWrong_64 ?_
        refine zr_istore_n (pc := 66) (lv' := [(3, .int w2), (0, .ref (ad 62)), (1, .int v1), (2, .int v2), (4, .int w2)]) hC rfl (by decide) rfl dX6_leastWrong_66 ?_
        refine zr_iinc (pc := 67) (k := 4) (lv' := [(4, .int (w2 + (1 : Int32))), (3, .int w2), (0, .ref (ad 62)), (1, .int v1), (2, .int v2)]) hC zki_1 (by decide) rfl rfl dX6_leastWrong_67 ?_
        refine zr_goto (pc := 70) (tgt := 13) hC dX6_leastWrong_70 (by decide) ?_
        obtain rfl := Option.some.inj h
        exact zV.sub (lv' := [(0, .ref (ad 62)), (1, .int v1), (2, .int v2), (3, .int w2), (4, .int (w2 + (1 : Int32)))]) [2, 3, 4, 1, 0] rfl (hin q5 w2 (w2 + (1 : Int32)) rfl)
def xX6_leastWrong (pT : zM) (pR : zM) (pP : zP) (v1 : Int32) : Option (Int32 × zM) :=
  zlet (pR.1 64 (1 : Int32).toNatClampNeg) fun z1 =>
  (x_it (fun a9 => xX6_leastWrong_L13 pT pP v1 z1 a9.1 a9.2.1 a9.2.2) zFU (pR, (-9 : Int32), (0 : Int32))).bind fun q3 =>
  zlet (zsi q3.1 64 (1 : Int32).toNatClampNeg z1) fun M4 =>
  some (q3.2, M4)
set_option maxHeartbeats 4000000 in
set_option maxRecDepth 100000 in
theorem tX6_leastWrong {κ : Nat → ClassId} {tg : Nat} {S : zEn} {ad : Nat → Nat} (hEk : zEk (zE tg S)) {pT : zM} {pR : zM} {pX : zM} {pF : zM} {pB : zM} {pP : zP} {v1 : Int32} {res : (Int32 × zM)} (h : xX6_leastWrong pT pR pP v1 = some res) (l : Launch) (D : va_G) : zCT (zE tg S) D vwCl (zty κ) l yX6_leastWrong wsX6_leastWrong ({ frames := 6, cells := 0, slots := 0, locals := 141 } : Room) 0 0 [.ref (ad 62), .int v1] (zwC κ ad pT pR pX pF pB pP) (zPd (some (.int res.1)) (zwC κ ad pT res.2 pX pF pB pP)) := by
  refine zCT.of (cc := cX6_leastWrong) (maxL := 5) (ret := (some .int)) (by decide) rfl (Nat.le_of_ble_eq_true rfl) ?_
  intro X hC hR
  unfold xX6_leastWrong at h
  refine zV.sub (lv' := [(0, .ref (ad 62)), (1, .int v1)]) [0, 1] rfl ?_
  refine zr_aload_n (pc := 0) hC 0 rfl rfl dX6_leastWrong_0 ?_
  refine zcg_62_3 (pc := 1) hC hinX6_leastWrong_X6 flX6_leastWrong_21 dX6_leastWrong_1 ?_
  refine zr_iconst (pc := 4) hC zki_1 dX6_leastWrong_4 ?_
  refine zcl_64 (pc := 5) hC (by decide) dX6_leastWrong_5 ?_
  obtain ⟨z1, e2, h⟩ := zle h
  refine zr_topi e2 ?_
  refine zr_istore_n (pc := 6) (lv' := [(2, .int z1), (0, .ref (ad 62)), (1, .int v1)]) hC rfl (by decide) rfl dX6_leastWrong_6 ?_
  refine zr_bipush (pc := 7) hC zkb_m9 dX6_leastWrong_7 ?_
  refine zr_istore_n (pc := 9) (lv' := [(3, .int (-9 : Int32)), (2, .int z1), (0, .ref (ad 62)), (1, .int v1)]) hC rfl (by decide) rfl dX6_leastWrong_9 ?_
  refine zr_iconst (pc := 10) hC zki_0 dX6_leastWrong_10 ?_
  refine zr_istore (pc := 11) (lv' := [(4, .int (0 : Int32)), (3, .int (-9 : Int32)), (2, .int z1), (0, .ref (ad 62)), (1, .int v1)]) hC (by decide) rfl dX6_leastWrong_11 ?_
  obtain ⟨q3, hq3, h⟩ := zbd h
  refine zV.sub (lv' := [(0, .ref (ad 62)), (1, .int v1), (2, .int z1), (3, .int (-9 : Int32)), (4, .int (0 : Int32))]) [3, 4, 2, 1, 0] rfl ?_
  refine zit3 (Wp := fun (y0 : zM) (y1 : Int32) (y2 : Int32) => zV X 0 0 (zwC κ ad pT y0 pX pF pB pP) [(0, .ref (ad 62)), (1, .int v1), (2, .int z1), (3, .int y1), (4, .int y2)] [] 13) (Ex := fun (b9 : (zM × Int32)) => zV X 0 0 (zwC κ ad pT b9.1 pX pF pB pP) [(0, .ref (ad 62)), (2, .int z1), (3, .int b9.2)] [] 73) (fun y0 y1 y2 r9 hr hin hout => tX6_leastWrong_L13 hC hEk hin (fun z0 z1 e9 => hout (z0, z1) e9) hr) zFU pR (-9 : Int32) (0 : Int32) q3 hq3 ?_
  show zV X 0 0 (zwC κ ad pT q3.1 pX pF pB pP) [(0, .ref (ad 62)), (2, .int z1), (3, .int q3.2)] [] 73
  refine zr_aload_n (pc := 73) hC 0 rfl rfl dX6_leastWrong_73 ?_
  refine zcg_62_3 (pc := 74) hC hinX6_leastWrong_X6 flX6_leastWrong_21 dX6_leastWrong_74 ?_
  refine zr_iconst (pc := 77) hC zki_1 dX6_leastWrong_77 ?_
  refine zr_iload_n (pc := 78) hC 1 rfl rfl dX6_leastWrong_78 ?_
  obtain ⟨M4, e5, h⟩ := zle h
  refine zcs_64 (pc := 79) hC (by decide) e5 dX6_leastWrong_79 ?_
  refine zr_iload_n (pc := 80) hC 2 rfl rfl dX6_leastWrong_80 ?_
  obtain rfl := Option.some.inj h
  exact zr_iret hC hR ⟨rfl, rfl⟩ (Nat.le_refl _) (Nat.le_refl _) dX6_leastWrong_81
/-! X6_bestEarly -/
theorem hyX6_bestEarly : yX6_bestEarly.cls = RX6 ∧ yX6_bestEarly.cls ≠ "java/lang/invoke/MethodHandle" ∧ yX6_bestEarly.cls ≠ "java/lang/invoke/VarHandle" ∧ (parseMethodDescriptor yX6_bestEarly.desc).map (fun d => d.parameters.length) = some 1 := by decide +kernel
theorem flX6_bestEarly_170 : Jvm.Cond.constantLong RX6 170 (-1) ∈ wsX6_bestEarly := by decide +kernel
theorem flX6_bestEarly_21 : Cond.fieldLink RX6 21 "BeforeTheEnd$Race" "point" "[I" ∈ wsX6_bestEarly := by decide +kernel
theorem hinX6_bestEarly_X6 : ∀ w ∈ wsX60, w ∈ wsX6_bestEarly := fun _ h => List.mem_cons_of_mem _ (List.mem_append_left _ (List.mem_append_left _ (List.mem_append_left _ (List.mem_append_left _ (List.mem_append_left _ (List.mem_append_left _ (List.mem_append_left _ (List.mem_append_right _ h))))))))
theorem hinX6_bestEarly_X0 : ∀ w ∈ wsX00, w ∈ wsX6_bestEarly := fun _ h => List.mem_cons_of_mem _ (List.mem_append_left _ (List.mem_append_left _ (List.mem_append_left _ (List.mem_append_left _ (List.mem_append_left _ (List.mem_append_left _ (List.mem_append_right _ h)))))))
theorem hinX6_bestEarly_X1 : ∀ w ∈ wsX10, w ∈ wsX6_bestEarly := fun _ h => List.mem_cons_of_mem _ (List.mem_append_left _ (List.mem_append_left _ (List.mem_append_left _ (List.mem_append_left _ (List.mem_append_left _ (List.mem_append_right _ h))))))
theorem hinX6_bestEarly_X2 : ∀ w ∈ wsX20, w ∈ wsX6_bestEarly := fun _ h => List.mem_cons_of_mem _ (List.mem_append_left _ (List.mem_append_left _ (List.mem_append_left _ (List.mem_append_left _ (List.mem_append_right _ h)))))
theorem hinX6_bestEarly_X4 : ∀ w ∈ wsX40, w ∈ wsX6_bestEarly := fun _ h => List.mem_cons_of_mem _ (List.mem_append_left _ (List.mem_append_left _ (List.mem_append_left _ (List.mem_append_right _ h))))
theorem hinX6_bestEarly_X7 : ∀ w ∈ wsX70, w ∈ wsX6_bestEarly := fun _ h => List.mem_cons_of_mem _ (List.mem_append_left _ (List.mem_append_left _ (List.mem_append_right _ h)))
theorem hinX6_bestEarly_X9 : ∀ w ∈ wsX90, w ∈ wsX6_bestEarly := fun _ h => List.mem_cons_of_mem _ (List.mem_append_left _ (List.mem_append_right _ h))
theorem hinX6_bestEarly_X10 : ∀ w ∈ wsX100, w ∈ wsX6_bestEarly := fun _ h => List.mem_cons_of_mem _ (List.mem_append_right _ h)
def xX6_bestEarly_L17 (pT : zM) (pP : zP) (v1 : Int32) (v2 : Int32) (w0 : zM) (w1 : Int32) (w2 : Int64) (w3 : Int32) : Option ((zM × Int32 × Int64 × Int32) ⊕ (zM × Int32)) :=
  if (zGP (2 : Int32)) < w3 then
  (some (.inr (w0, w1)))
  else
  zlet (zsi w0 64 (2 : Int32).toNatClampNeg w3) fun M2 =>
  (xX6_prepare pT M2 pP).bind fun q4 =>
  (xX6_total pT q4 pP (0 : Int32) v1).bind fun q5 =>
  if (lg_cmp q5.1 w2) ≤ 0 then
  (some (.inl (q5.2, w1, w2, (w3 + (1 : Int32)))))
  else
  some (.inl (q5.2, w3, q5.1, (w3 + (1 : Int32))))
set_option maxHeartbeats 4000000 in
set_option maxRecDepth 100000 in
theorem tX6_bestEarly_L17 {κ : Nat → ClassId} {tg : Nat} {S : zEn} {ad : Nat → Nat} {X : zX} {pX : zM} {pF : zM} {pB : zM} {pT : zM} {pP : zP} {v1 : Int32} {v2 : Int32} {w0 : zM} {w1 : Int32} {w2 : Int64} {w3 : Int32} {r : ((zM × Int32 × Int64 × Int32) ⊕ (zM × Int32))} (hC : zC X cX6_bestEarly RX6 wsX6_bestEarly vwCl (zty κ) (zE tg S) 9 ({ frames := 6, cells := 0, slots := 0, locals := 141 } : Room)) (hEk : zEk (zE tg S)) (hin : ∀ (x0' : zM) (x1' : Int32) (x2' : Int64) (x3' : Int32), r = .inl (x0', x1', x2', x3') → zV X 0 0 (zwC κ ad pT x0' pX pF pB pP) [(0, .ref (ad 62)), (1, .int v1), (2, .int v2), (3, .int x1'), (4, .long x2'), (6, .int x3')] [] 17) (hout0 : ∀ (x0' : zM) (x1' : Int32), r = .inr (x0', x1') → zV X 0 0 (zwC κ ad pT x0' pX pF pB pP) [(0, .ref (ad 62)), (2, .int v2), (3, .int x1')] [] 68) (h : xX6_bestEarly_L17 pT pP v1 v2 w0 w1 w2 w3 = some r) : zV X 0 0 (zwC κ ad pT w0 pX pF pB pP) [(0, .ref (ad 62)), (1, .int v1), (2, .int v2), (3, .int w1), (4, .long w2), (6, .int w3)] [] 17 := by
  unfold xX6_bestEarly_L17 at h
  refine zr_iload (pc := 17) hC 5 rfl dX6_bestEarly_17 ?_
  refine zsg_getN (pc := 19) hC hEk dX6_bestEarly_19 ?_
  refine zr_iconst (pc := 22) hC zki_2 dX6_bestEarly_22 ?_
  refine zsg_ld (pc := 23) hC hEk (by decide) dX6_bestEarly_23 ?_
  refine zr_icmp_gt (pc := 24) (tgt := 68) hC dX6_bestEarly_24 (by decide) (fun c1 => ?_) (fun c1 => ?_)
  · replace h := zip h c1
    obtain rfl := Option.some.inj h
    exact zV.sub (lv' := [(0, .ref (ad 62)), (2, .int v2), (3, .int w1)]) [0, 2, 3] rfl (hout0 w0 w1 rfl)
  · replace h := zin h c1
    refine zr_aload_n (pc := 27) hC 0 rfl rfl dX6_bestEarly_27 ?_
    refine zcg_62_3 (pc := 28) hC hinX6_bestEarly_X6 flX6_bestEarly_21 dX6_bestEarly_28 ?_
    refine zr_iconst (pc := 31) hC zki_2 dX6_bestEarly_31 ?_
    refine zr_iload (pc := 32) hC 5 rfl dX6_bestEarly_32 ?_
    obtain ⟨M2, e3, h⟩ := zle h
    refine zcs_64 (pc := 34) hC (by decide) e3 dX6_bestEarly_34 ?_
    refine zr_aload_n (pc := 35) hC 0 rfl rfl dX6_bestEarly_35 ?_
    obtain ⟨q4, hq4, h⟩ := zbd h
    refine zr_cVv (pc := 36) hC hEk [] [] 62 0 (fun l D => tX6_prepare hEk hq4 l D) gX6_bestEarly_X6_prepare rfl rfl rfl ⟨Nat.le_of_ble_eq_true rfl, Nat.le_of_ble_eq_true rfl⟩ hyX6_prepare (zNC (by decide)) entC_62 rfl rfl rfl (Nat.le_of_ble_eq_true rfl) ⟨Nat.le_of_ble_eq_true rfl, Nat.le_of_ble_eq_true rfl⟩ dX6_bestEarly_36 ?_
    refine zr_aload_n (pc := 39) hC 0 rfl rfl dX6_bestEarly_39 ?_
    refine zr_iconst (pc := 40) hC zki_0 dX6_bestEarly_40 ?_
    refine zr_iload_n (pc := 41) hC 1 rfl rfl dX6_bestEarly_41 ?_
    obtain ⟨q5, hq5, h⟩ := zbd h
    refine zr_cVl (pc := 42) hC hEk [.int (0 : Int32), .int v1] [] 62 2 (fun l D => tX6_total hEk hq5 l D) gX6_bestEarly_X6_total rfl rfl rfl ⟨Nat.le_of_ble_eq_true rfl, Nat.le_of_ble_eq_true rfl⟩ hyX6_total (zNC (by decide)) entC_62 rfl rfl rfl (Nat.le_of_ble_eq_true rfl) ⟨Nat.le_of_ble_eq_true rfl, Nat.le_of_ble_eq_true rfl⟩ dX6_bestEarly_42 ?_
    refine zr_lstore (pc := 45) (lv' := [(7, .long q5.1), (0, .ref (ad 62)), (1, .int v1), (2, .int v2), (3, .int w1), (4, .long w2), (6, .int w3)]) hC (by decide) rfl dX6_bestEarly_45 ?_
    refine zr_lload (pc := 47) hC 0 rfl dX6_bestEarly_47 ?_
    refine zr_lload (pc := 49) hC 5 rfl dX6_bestEarly_49 ?_
    refine zr_lcmp (pc := 51) hC dX6_bestEarly_51 ?_
    refine zr_if_le (pc := 52) (tgt := 62) hC dX6_bestEarly_52 (by decide) (fun c6 => ?_) (fun c6 => ?_)
    · replace h := zip h c6
      refine zr_iinc (pc := 62) (k := 6) (lv' := [(6, .int (w3 + (1 : Int32))), (7, .long q5.1), (0, .ref (ad 62)), (1, .int v1), (2, .int v2), (3, .int w1), (4, .long w2)]) hC zki_1 (by decide) rfl rfl dX6_bestEarly_62 ?_
      refine zr_goto (pc := 65) (tgt := 17) hC dX6_bestEarly_65 (by decide) ?_
      obtain rfl := Option.some.inj h
      exact zV.sub (lv' := [(0, .ref (ad 62)), (1, .int v1), (2, .int v2), (3, .int w1), (4, .long w2), (6, .int (w3 + (1 : Int32)))]) [2, 3, 4, 5, 6, 0] rfl (hin q5.2 w1 w2 (w3 + (1 : Int32)) rfl)
    · replace h := zin h c6
      refine zr_lload (pc := 55) hC 0 rfl dX6_bestEarly_55 ?_
      refine zr_lstore (pc := 57) (lv' := [(4, .long q5.1), (7, .long q5.1), (0, .ref (ad 62)), (1, .int v1), (2, .int v2), (3, .int w1), (6, .int w3)]) hC (by decide) rfl dX6_bestEarly_57 ?_
      refine zr_iload (pc := 59) hC 6 rfl dX6_bestEarly_59 ?_
      refine zr_istore_n (pc := 61) (lv' := [(3, .int w3), (4, .long q5.1), (7, .long q5.1), (0, .ref (ad 62)), (1, .int v1), (2, .int v2), (6, .int w3)]) hC rfl (by decide) rfl dX6_bestEarly_61 ?_
      refine zr_iinc (pc := 62) (k := 6) (lv' := [(6, .int (w3 + (1 : Int32))), (3, .int w3), (4, .long q5.1), (7, .long q5.1), (0, .ref (ad 62)), (1, .int v1), (2, .int v2)]) hC zki_1 (by decide) rfl rfl dX6_bestEarly_62 ?_
      refine zr_goto (pc := 65) (tgt := 17) hC dX6_bestEarly_65 (by decide) ?_
      obtain rfl := Option.some.inj h
      exact zV.sub (lv' := [(0, .ref (ad 62)), (1, .int v1), (2, .int v2), (3, .int w3), (4, .long q5.1), (6, .int (w3 + (1 : Int32)))]) [4, 5, 6, 1, 2, 0] rfl (hin q5.2 w3 q5.1 (w3 + (1 : Int32)) rfl)
def xX6_bestEarly (pT : zM) (pR : zM) (pP : zP) (v1 : Int32) : Option (Int32 × zM) :=
  zlet (pR.1 64 (2 : Int32).toNatClampNeg) fun z1 =>
  (x_it (fun a9 => xX6_bestEarly_L17 pT pP v1 z1 a9.1 a9.2.1 a9.2.2.1 a9.2.2.2) zFU (pR, (0 : Int32), (-1 : Int64), (0 : Int32))).bind fun q3 =>
  zlet (zsi q3.1 64 (2 : Int32).toNatClampNeg z1) fun M4 =>
  some (q3.2, M4)
set_option maxHeartbeats 4000000 in
set_option maxRecDepth 100000 in
theorem tX6_bestEarly {κ : Nat → ClassId} {tg : Nat} {S : zEn} {ad : Nat → Nat} (hEk : zEk (zE tg S)) {pT : zM} {pR : zM} {pX : zM} {pF : zM} {pB : zM} {pP : zP} {v1 : Int32} {res : (Int32 × zM)} (h : xX6_bestEarly pT pR pP v1 = some res) (l : Launch) (D : va_G) : zCT (zE tg S) D vwCl (zty κ) l yX6_bestEarly wsX6_bestEarly ({ frames := 6, cells := 0, slots := 0, locals := 141 } : Room) 0 0 [.ref (ad 62), .int v1] (zwC κ ad pT pR pX pF pB pP) (zPd (some (.int res.1)) (zwC κ ad pT res.2 pX pF pB pP)) := by
  refine zCT.of (cc := cX6_bestEarly) (maxL := 9) (ret := (some .int)) (by decide) rfl (Nat.le_of_ble_eq_true rfl) ?_
  intro X hC hR
  unfold xX6_bestEarly at h
  refine zV.sub (lv' := [(0, .ref (ad 62)), (1, .int v1)]) [0, 1] rfl ?_
  refine zr_aload_n (pc := 0) hC 0 rfl rfl dX6_bestEarly_0 ?_
  refine zcg_62_3 (pc := 1) hC hinX6_bestEarly_X6 flX6_bestEarly_21 dX6_bestEarly_1 ?_
  refine zr_iconst (pc := 4) hC zki_2 dX6_bestEarly_4 ?_
  refine zcl_64 (pc := 5) hC (by decide) dX6_bestEarly_5 ?_
  obtain ⟨z1, e2, h⟩ := zle h
  refine zr_topi e2 ?_
  refine zr_istore_n (pc := 6) (lv' := [(2, .int z1), (0, .ref (ad 62)), (1, .int v1)]) hC rfl (by decide) rfl dX6_bestEarly_6 ?_
  refine zr_iconst (pc := 7) hC zki_0 dX6_bestEarly_7 ?_
  refine zr_istore_n (pc := 8) (lv' := [(3, .int (0 : Int32)), (2, .int z1), (0, .ref (ad 62)), (1, .int v1)]) hC rfl (by decide) rfl dX6_bestEarly_8 ?_
  refine zr_ldc2 (pc := 9) hC flX6_bestEarly_170 dX6_bestEarly_9 ?_
  refine zr_lstore (pc := 12) (lv' := [(4, .long (-1 : Int64)), (3, .int (0 : Int32)), (2, .int z1), (0, .ref (ad 62)), (1, .int v1)]) hC (by decide) rfl dX6_bestEarly_12 ?_
  refine zr_iconst (pc := 14) hC zki_0 dX6_bestEarly_14 ?_
  refine zr_istore (pc := 15) (lv' := [(6, .int (0 : Int32)), (4, .long (-1 : Int64)), (3, .int (0 : Int32)), (2, .int z1), (0, .ref (ad 62)), (1, .int v1)]) hC (by decide) rfl dX6_bestEarly_15 ?_
  obtain ⟨q3, hq3, h⟩ := zbd h
  refine zV.sub (lv' := [(0, .ref (ad 62)), (1, .int v1), (2, .int z1), (3, .int (0 : Int32)), (4, .long (-1 : Int64)), (6, .int (0 : Int32))]) [4, 5, 3, 2, 1, 0] rfl ?_
  refine zit4 (Wp := fun (y0 : zM) (y1 : Int32) (y2 : Int64) (y3 : Int32) => zV X 0 0 (zwC κ ad pT y0 pX pF pB pP) [(0, .ref (ad 62)), (1, .int v1), (2, .int z1), (3, .int y1), (4, .long y2), (6, .int y3)] [] 17) (Ex := fun (b9 : (zM × Int32)) => zV X 0 0 (zwC κ ad pT b9.1 pX pF pB pP) [(0, .ref (ad 62)), (2, .int z1), (3, .int b9.2)] [] 68) (fun y0 y1 y2 y3 r9 hr hin hout => tX6_bestEarly_L17 hC hEk hin (fun z0 z1 e9 => hout (z0, z1) e9) hr) zFU pR (0 : Int32) (-1 : Int64) (0 : Int32) q3 hq3 ?_
  show zV X 0 0 (zwC κ ad pT q3.1 pX pF pB pP) [(0, .ref (ad 62)), (2, .int z1), (3, .int q3.2)] [] 68
  refine zr_aload_n (pc := 68) hC 0 rfl rfl dX6_bestEarly_68 ?_
  refine zcg_62_3 (pc := 69) hC hinX6_bestEarly_X6 flX6_bestEarly_21 dX6_bestEarly_69 ?_
  refine zr_iconst (pc := 72) hC zki_2 dX6_bestEarly_72 ?_
  refine zr_iload_n (pc := 73) hC 1 rfl rfl dX6_bestEarly_73 ?_
  obtain ⟨M4, e5, h⟩ := zle h
  refine zcs_64 (pc := 74) hC (by decide) e5 dX6_bestEarly_74 ?_
  refine zr_iload_n (pc := 75) hC 2 rfl rfl dX6_bestEarly_75 ?_
  obtain rfl := Option.some.inj h
  exact zr_iret hC hR ⟨rfl, rfl⟩ (Nat.le_refl _) (Nat.le_refl _) dX6_bestEarly_76
/-! X10_nextsOf -/
theorem hyX10_nextsOf : yX10_nextsOf.cls = RX10 ∧ yX10_nextsOf.cls ≠ "java/lang/invoke/MethodHandle" ∧ yX10_nextsOf.cls ≠ "java/lang/invoke/VarHandle" ∧ (parseMethodDescriptor yX10_nextsOf.desc).map (fun d => d.parameters.length) = some 1 := by decide +kernel
theorem flX10_nextsOf_24 : Cond.fieldLink RX10 24 "BeforeTheEnd$Tree" "nexts" "[I" ∈ wsX10_nextsOf := by decide +kernel
theorem hinX10_nextsOf_X10 : ∀ w ∈ wsX100, w ∈ wsX10_nextsOf := fun _ h => List.mem_cons_of_mem _ (List.mem_append_right _ h)
def xX10_nextsOf (pT : zM) (v1 : Int32) : Option Int32 :=
  (xX10_has pT v1).bind fun q1 =>
  if q1 = 0 then
  (some (0 : Int32))
  else
  if (v1 < 0 ∨ 24 ≤ v1.toNatClampNeg) then none else
  some (pT.1 5 v1.toNatClampNeg)
set_option maxHeartbeats 4000000 in
set_option maxRecDepth 100000 in
theorem tX10_nextsOf {κ : Nat → ClassId} {tg : Nat} {S : zEn} {ad : Nat → Nat} (hEk : zEk (zE tg S)) {pT : zM} {pR : zM} {pX : zM} {pF : zM} {pB : zM} {pP : zP} {v1 : Int32} {res : Int32} (h : xX10_nextsOf pT v1 = some res) (l : Launch) (D : va_G) : zCT (zE tg S) D vwCl (zty κ) l yX10_nextsOf wsX10_nextsOf ({ frames := 1, cells := 0, slots := 0, locals := 21 } : Room) 0 0 [.ref (ad 0), .int v1] (zwC κ ad pT pR pX pF pB pP) (zPd (some (.int res)) (zwC κ ad pT pR pX pF pB pP)) := by
  refine zCT.of (cc := cX10_nextsOf) (maxL := 2) (ret := (some .int)) (by decide) rfl (Nat.le_of_ble_eq_true rfl) ?_
  intro X hC hR
  unfold xX10_nextsOf at h
  refine zV.sub (lv' := [(0, .ref (ad 0)), (1, .int v1)]) [0, 1] rfl ?_
  refine zr_aload_n (pc := 0) hC 0 rfl rfl dX10_nextsOf_0 ?_
  refine zr_iload_n (pc := 1) hC 1 rfl rfl dX10_nextsOf_1 ?_
  obtain ⟨q1, hq1, h⟩ := zbd h
  refine zr_cVi (pc := 2) hC hEk [.int v1] [] 0 1 (fun l D => tX10_has hEk hq1 l D) gX10_nextsOf_X10_has rfl rfl rfl ⟨Nat.le_of_ble_eq_true rfl, Nat.le_of_ble_eq_true rfl⟩ hyX10_has (zNC (by decide)) entC_0 rfl rfl rfl (Nat.le_of_ble_eq_true rfl) ⟨Nat.le_of_ble_eq_true rfl, Nat.le_of_ble_eq_true rfl⟩ dX10_nextsOf_2 ?_
  refine zr_if_eq (pc := 5) (tgt := 17) hC dX10_nextsOf_5 (by decide) (fun c2 => ?_) (fun c2 => ?_)
  · replace h := zip h c2
    refine zr_iconst (pc := 17) hC zki_0 dX10_nextsOf_17 ?_
    obtain rfl := Option.some.inj h
    exact zr_iret hC hR ⟨rfl, rfl⟩ (Nat.le_refl _) (Nat.le_refl _) dX10_nextsOf_18
  · replace h := zin h c2
    refine zr_aload_n (pc := 8) hC 0 rfl rfl dX10_nextsOf_8 ?_
    refine zcg_0_4 (pc := 9) hC hinX10_nextsOf_X10 flX10_nextsOf_24 dX10_nextsOf_9 ?_
    refine zr_iload_n (pc := 12) hC 1 rfl rfl dX10_nextsOf_12 ?_
    obtain ⟨i3, h⟩ := zgd h
    refine zcl_5 (pc := 13) hC i3 dX10_nextsOf_13 ?_
    refine zr_goto (pc := 14) (tgt := 18) hC dX10_nextsOf_14 (by decide) ?_
    obtain rfl := Option.some.inj h
    exact zr_iret hC hR ⟨rfl, rfl⟩ (Nat.le_refl _) (Nat.le_refl _) dX10_nextsOf_18
/-! X10_nextSumOf -/
theorem hyX10_nextSumOf : yX10_nextSumOf.cls = RX10 ∧ yX10_nextSumOf.cls ≠ "java/lang/invoke/MethodHandle" ∧ yX10_nextSumOf.cls ≠ "java/lang/invoke/VarHandle" ∧ (parseMethodDescriptor yX10_nextSumOf.desc).map (fun d => d.parameters.length) = some 1 := by decide +kernel
theorem flX10_nextSumOf_27 : Cond.fieldLink RX10 27 "BeforeTheEnd$Tree" "nextSum" "[I" ∈ wsX10_nextSumOf := by decide +kernel
theorem hinX10_nextSumOf_X10 : ∀ w ∈ wsX100, w ∈ wsX10_nextSumOf := fun _ h => List.mem_cons_of_mem _ (List.mem_append_right _ h)
def xX10_nextSumOf (pT : zM) (v1 : Int32) : Option Int32 :=
  (xX10_has pT v1).bind fun q1 =>
  if q1 = 0 then
  (some (0 : Int32))
  else
  if (v1 < 0 ∨ 24 ≤ v1.toNatClampNeg) then none else
  some (pT.1 6 v1.toNatClampNeg)
set_option maxHeartbeats 4000000 in
set_option maxRecDepth 100000 in
theorem tX10_nextSumOf {κ : Nat → ClassId} {tg : Nat} {S : zEn} {ad : Nat → Nat} (hEk : zEk (zE tg S)) {pT : zM} {pR : zM} {pX : zM} {pF : zM} {pB : zM} {pP : zP} {v1 : Int32} {res : Int32} (h : xX10_nextSumOf pT v1 = some res) (l : Launch) (D : va_G) : zCT (zE tg S) D vwCl (zty κ) l yX10_nextSumOf wsX10_nextSumOf ({ frames := 1, cells := 0, slots := 0, locals := 21 } : Room) 0 0 [.ref (ad 0), .int v1] (zwC κ ad pT pR pX pF pB pP) (zPd (some (.int res)) (zwC κ ad pT pR pX pF pB pP)) := by
  refine zCT.of (cc := cX10_nextSumOf) (maxL := 2) (ret := (some .int)) (by decide) rfl (Nat.le_of_ble_eq_true rfl) ?_
  intro X hC hR
  unfold xX10_nextSumOf at h
  refine zV.sub (lv' := [(0, .ref (ad 0)), (1, .int v1)]) [0, 1] rfl ?_
  refine zr_aload_n (pc := 0) hC 0 rfl rfl dX10_nextSumOf_0 ?_
  refine zr_iload_n (pc := 1) hC 1 rfl rfl dX10_nextSumOf_1 ?_
  obtain ⟨q1, hq1, h⟩ := zbd h
  refine zr_cVi (pc := 2) hC hEk [.int v1] [] 0 1 (fun l D => tX10_has hEk hq1 l D) gX10_nextSumOf_X10_has rfl rfl rfl ⟨Nat.le_of_ble_eq_true rfl, Nat.le_of_ble_eq_true rfl⟩ hyX10_has (zNC (by decide)) entC_0 rfl rfl rfl (Nat.le_of_ble_eq_true rfl) ⟨Nat.le_of_ble_eq_true rfl, Nat.le_of_ble_eq_true rfl⟩ dX10_nextSumOf_2 ?_
  refine zr_if_eq (pc := 5) (tgt := 17) hC dX10_nextSumOf_5 (by decide) (fun c2 => ?_) (fun c2 => ?_)
  · replace h := zip h c2
    refine zr_iconst (pc := 17) hC zki_0 dX10_nextSumOf_17 ?_
    obtain rfl := Option.some.inj h
    exact zr_iret hC hR ⟨rfl, rfl⟩ (Nat.le_refl _) (Nat.le_refl _) dX10_nextSumOf_18
  · replace h := zin h c2
    refine zr_aload_n (pc := 8) hC 0 rfl rfl dX10_nextSumOf_8 ?_
    refine zcg_0_5 (pc := 9) hC hinX10_nextSumOf_X10 flX10_nextSumOf_27 dX10_nextSumOf_9 ?_
    refine zr_iload_n (pc := 12) hC 1 rfl rfl dX10_nextSumOf_12 ?_
    obtain ⟨i3, h⟩ := zgd h
    refine zcl_6 (pc := 13) hC i3 dX10_nextSumOf_13 ?_
    refine zr_goto (pc := 14) (tgt := 18) hC dX10_nextSumOf_14 (by decide) ?_
    obtain rfl := Option.some.inj h
    exact zr_iret hC hR ⟨rfl, rfl⟩ (Nat.le_refl _) (Nat.le_refl _) dX10_nextSumOf_18
/-! X6_draw -/
theorem hyX6_draw : yX6_draw.cls = RX6 ∧ yX6_draw.cls ≠ "java/lang/invoke/MethodHandle" ∧ yX6_draw.cls ≠ "java/lang/invoke/VarHandle" ∧ (parseMethodDescriptor yX6_draw.desc).map (fun d => d.parameters.length) = some 1 := by decide +kernel
theorem flX6_draw_184 : Jvm.Cond.constant RX6 184 (1664525) ∈ wsX6_draw := by decide +kernel
theorem flX6_draw_185 : Jvm.Cond.constant RX6 185 (1013904223) ∈ wsX6_draw := by decide +kernel
theorem flX6_draw_186 : Jvm.Cond.constant RX6 186 (2147483647) ∈ wsX6_draw := by decide +kernel
theorem flX6_draw_64 : Cond.fieldLink RX6 64 "BeforeTheEnd$Race" "seed" "I" ∈ wsX6_draw := by decide +kernel
theorem hinX6_draw_X6 : ∀ w ∈ wsX60, w ∈ wsX6_draw := fun _ h => List.mem_cons_of_mem _ (List.mem_append_right _ h)
def xX6_draw (pR : zM) (v1 : Int32) : Option (Int32 × zM) :=
  zlet (zsi pR 62 16 (((pR.1 62 16) * (1664525 : Int32)) + (1013904223 : Int32))) fun M1 =>
  if 0 < v1 then
  (if v1 = 0 then none else
  some (((((M1.1 62 16) &&& (2147483647 : Int32)) / (256 : Int32)) - (((M1.1 62 16) &&& (2147483647 : Int32)) / (256 : Int32)) / v1 * v1), M1))
  else
  some ((0 : Int32), M1)
set_option maxHeartbeats 4000000 in
set_option maxRecDepth 100000 in
theorem tX6_draw {κ : Nat → ClassId} {tg : Nat} {S : zEn} {ad : Nat → Nat} (hEk : zEk (zE tg S)) {pT : zM} {pR : zM} {pX : zM} {pF : zM} {pB : zM} {pP : zP} {v1 : Int32} {res : (Int32 × zM)} (h : xX6_draw pR v1 = some res) (l : Launch) (D : va_G) : zCT (zE tg S) D vwCl (zty κ) l yX6_draw wsX6_draw ({ frames := 0, cells := 0, slots := 0, locals := 0 } : Room) 0 0 [.ref (ad 62), .int v1] (zwC κ ad pT pR pX pF pB pP) (zPd (some (.int res.1)) (zwC κ ad pT res.2 pX pF pB pP)) := by
  refine zCT.of (cc := cX6_draw) (maxL := 2) (ret := (some .int)) (by decide) rfl (Nat.le_of_ble_eq_true rfl) ?_
  intro X hC hR
  unfold xX6_draw at h
  refine zV.sub (lv' := [(0, .ref (ad 62)), (1, .int v1)]) [0, 1] rfl ?_
  refine zr_aload_n (pc := 0) hC 0 rfl rfl dX6_draw_0 ?_
  refine zr_aload_n (pc := 1) hC 0 rfl rfl dX6_draw_1 ?_
  refine zcg_62_16 (pc := 2) hC hinX6_draw_X6 flX6_draw_64 dX6_draw_2 ?_
  refine zr_ldc (pc := 5) hC flX6_draw_184 dX6_draw_5 ?_
  refine zr_imul (pc := 7) hC dX6_draw_7 ?_
  refine zr_ldc (pc := 8) hC flX6_draw_185 dX6_draw_8 ?_
  refine zr_iadd (pc := 10) hC dX6_draw_10 ?_
  obtain ⟨M1, e2, h⟩ := zle h
  refine zcp_62_16 (pc := 11) hC hinX6_draw_X6 flX6_draw_64 e2 dX6_draw_11 ?_
  refine zr_iload_n (pc := 14) hC 1 rfl rfl dX6_draw_14 ?_
  refine zr_if_gt (pc := 15) (tgt := 22) hC dX6_draw_15 (by decide) (fun c3 => ?_) (fun c3 => ?_)
  · replace h := zip h c3
    refine zr_aload_n (pc := 22) hC 0 rfl rfl dX6_draw_22 ?_
    refine zcg_62_16 (pc := 23) hC hinX6_draw_X6 flX6_draw_64 dX6_draw_23 ?_
    refine zr_ldc (pc := 26) hC flX6_draw_186 dX6_draw_26 ?_
    refine zr_iand (pc := 28) hC dX6_draw_28 ?_
    refine zr_sipush (pc := 29) hC zks_256 dX6_draw_29 ?_
    refine zr_idiv (pc := 32) hC (by decide) dX6_draw_32 ?_
    refine zr_iload_n (pc := 33) hC 1 rfl rfl dX6_draw_33 ?_
    obtain ⟨n4, h⟩ := zgd h
    refine zr_irem (pc := 34) hC n4 dX6_draw_34 ?_
    obtain rfl := Option.some.inj h
    exact zr_iret hC hR ⟨rfl, rfl⟩ (Nat.le_refl _) (Nat.le_refl _) dX6_draw_35
  · replace h := zin h c3
    refine zr_iconst (pc := 18) hC zki_0 dX6_draw_18 ?_
    refine zr_goto (pc := 19) (tgt := 35) hC dX6_draw_19 (by decide) ?_
    obtain rfl := Option.some.inj h
    exact zr_iret hC hR ⟨rfl, rfl⟩ (Nat.le_refl _) (Nat.le_refl _) dX6_draw_35
/-! X10_nextBy -/
theorem hyX10_nextBy : yX10_nextBy.cls = RX10 ∧ yX10_nextBy.cls ≠ "java/lang/invoke/MethodHandle" ∧ yX10_nextBy.cls ≠ "java/lang/invoke/VarHandle" ∧ (parseMethodDescriptor yX10_nextBy.desc).map (fun d => d.parameters.length) = some 2 := by decide +kernel
theorem flX10_nextBy_15 : Cond.fieldLink RX10 15 "BeforeTheEnd$Tree" "weight" "[I" ∈ wsX10_nextBy := by decide +kernel
theorem flX10_nextBy_54 : Cond.fieldLink RX10 54 "BeforeTheEnd$Tree" "count" "I" ∈ wsX10_nextBy := by decide +kernel
theorem flX10_nextBy_9 : Cond.fieldLink RX10 9 "BeforeTheEnd$Tree" "parent" "[I" ∈ wsX10_nextBy := by decide +kernel
theorem hinX10_nextBy_X10 : ∀ w ∈ wsX100, w ∈ wsX10_nextBy := fun _ h => List.mem_cons_of_mem _ (List.mem_append_right _ h)
def xX10_nextBy_L5 (pT : zM) (v1 : Int32) (v2 : Int32) (w0 : Int32) (w1 : Int32) : Option ((Int32 × Int32) ⊕ (Int32 ⊕ Unit)) :=
  if (24 : Int32) ≤ w1 then
  (some (.inr (.inr ())))
  else
  if (pT.1 0 13) ≤ w1 then
  (some (.inr (.inr ())))
  else
  if (w1 < 0 ∨ 24 ≤ w1.toNatClampNeg) then none else
  if (pT.1 1 w1.toNatClampNeg) = v1 then
  (zlet (w0 + (pT.1 2 w1.toNatClampNeg)) fun z5 =>
  if z5 ≤ v2 then
  (some (.inl (z5, (w1 + (1 : Int32)))))
  else
  some (.inr (.inl w1)))
  else
  some (.inl (w0, (w1 + (1 : Int32))))
set_option maxHeartbeats 4000000 in
set_option maxRecDepth 100000 in
theorem tX10_nextBy_L5 {κ : Nat → ClassId} {tg : Nat} {S : zEn} {ad : Nat → Nat} {X : zX} {pR : zM} {pX : zM} {pF : zM} {pB : zM} {pP : zP} {pT : zM} {v1 : Int32} {v2 : Int32} {w0 : Int32} {w1 : Int32} {r : ((Int32 × Int32) ⊕ (Int32 ⊕ Unit))} (hC : zC X cX10_nextBy RX10 wsX10_nextBy vwCl (zty κ) (zE tg S) 5 ({ frames := 0, cells := 0, slots := 0, locals := 0 } : Room)) (hEk : zEk (zE tg S)) (hin : ∀ (x0' : Int32) (x1' : Int32), r = .inl (x0', x1') → zV X 0 0 (zwC κ ad pT pR pX pF pB pP) [(0, .ref (ad 0)), (1, .int v1), (2, .int v2), (3, .int x0'), (4, .int x1')] [] 5) (hout0 : ∀ (x0' : Int32), r = .inr (.inl x0') → zV X 0 0 (zwC κ ad pT pR pX pF pB pP) [(4, .int x0')] [] 50) (hout1 : r = .inr (.inr ()) → zV X 0 0 (zwC κ ad pT pR pX pF pB pP) [] [] 59) (h : xX10_nextBy_L5 pT v1 v2 w0 w1 = some r) : zV X 0 0 (zwC κ ad pT pR pX pF pB pP) [(0, .ref (ad 0)), (1, .int v1), (2, .int v2), (3, .int w0), (4, .int w1)] [] 5 := by
  unfold xX10_nextBy_L5 at h
  refine zr_iload (pc := 5) hC 4 rfl dX10_nextBy_5 ?_
  refine zr_bipush (pc := 7) hC zkb_24 dX10_nextBy_7 ?_
  refine zr_icmp_ge (pc := 9) (tgt := 59) hC dX10_nextBy_9 (by decide) (fun c1 => ?_) (fun c1 => ?_)
  · replace h := zip h c1
    obtain rfl := Option.some.inj h
    exact zV.sub (lv' := []) [] rfl (hout1  rfl)
  · replace h := zin h c1
    refine zr_iload (pc := 12) hC 4 rfl dX10_nextBy_12 ?_
    refine zr_aload_n (pc := 14) hC 0 rfl rfl dX10_nextBy_14 ?_
    refine zcg_0_13 (pc := 15) hC hinX10_nextBy_X10 flX10_nextBy_54 dX10_nextBy_15 ?_
    refine zr_icmp_ge (pc := 18) (tgt := 59) hC dX10_nextBy_18 (by decide) (fun c2 => ?_) (fun c2 => ?_)
    · replace h := zip h c2
      obtain rfl := Option.some.inj h
      exact zV.sub (lv' := []) [] rfl (hout1  rfl)
    · replace h := zin h c2
      refine zr_aload_n (pc := 21) hC 0 rfl rfl dX10_nextBy_21 ?_
      refine zcg_0_0 (pc := 22) hC hinX10_nextBy_X10 flX10_nextBy_9 dX10_nextBy_22 ?_
      refine zr_iload (pc := 25) hC 4 rfl dX10_nextBy_25 ?_
      obtain ⟨i3, h⟩ := zgd h
      refine zcl_1 (pc := 27) hC i3 dX10_nextBy_27 ?_
      refine zr_iload_n (pc := 28) hC 1 rfl rfl dX10_nextBy_28 ?_
      refine zr_icmp_eq (pc := 29) (tgt := 35) hC dX10_nextBy_29 (by decide) (fun c4 => ?_) (fun c4 => ?_)
      · replace h := zip h c4
        refine zr_iload_n (pc := 35) hC 3 rfl rfl dX10_nextBy_35 ?_
        refine zr_aload_n (pc := 36) hC 0 rfl rfl dX10_nextBy_36 ?_
        refine zcg_0_1 (pc := 37) hC hinX10_nextBy_X10 flX10_nextBy_15 dX10_nextBy_37 ?_
        refine zr_iload (pc := 40) hC 4 rfl dX10_nextBy_40 ?_
        refine zcl_2 (pc := 42) hC i3 dX10_nextBy_42 ?_
        refine zr_iadd (pc := 43) hC dX10_nextBy_43 ?_
        obtain ⟨z5, e6, h⟩ := zle h
        refine zr_topi e6 ?_
        refine zr_istore_n (pc := 44) (lv' := [(3, .int z5), (0, .ref (ad 0)), (1, .int v1), (2, .int v2), (4, .int w1)]) hC rfl (by decide) rfl dX10_nextBy_44 ?_
        refine zr_iload_n (pc := 45) hC 0 rfl rfl dX10_nextBy_45 ?_
        refine zr_iload_n (pc := 46) hC 3 rfl rfl dX10_nextBy_46 ?_
        refine zr_icmp_le (pc := 47) (tgt := 53) hC dX10_nextBy_47 (by decide) (fun c7 => ?_) (fun c7 => ?_)
        · replace h := zip h c7
          refine zr_iinc (pc := 53) (k := 4) (lv' := [(4, .int (w1 + (1 : Int32))), (3, .int z5), (0, .ref (ad 0)), (1, .int v1), (2, .int v2)]) hC zki_1 (by decide) rfl rfl dX10_nextBy_53 ?_
          refine zr_goto (pc := 56) (tgt := 5) hC dX10_nextBy_56 (by decide) ?_
          obtain rfl := Option.some.inj h
          exact zV.sub (lv' := [(0, .ref (ad 0)), (1, .int v1), (2, .int v2), (3, .int z5), (4, .int (w1 + (1 : Int32)))]) [2, 3, 4, 1, 0] rfl (hin z5 (w1 + (1 : Int32)) rfl)
        · replace h := zin h c7
          obtain rfl := Option.some.inj h
          exact zV.sub (lv' := [(4, .int w1)]) [4] rfl (hout0 w1 rfl)
      · replace h := zin h c4
        refine zr_goto (pc := 32) (tgt := 53) hC dX10_nextBy_32 (by decide) ?_
        refine zr_iinc (pc := 53) (k := 4) (lv' := [(4, .int (w1 + (1 : Int32))), (0, .ref (ad 0)), (1, .int v1), (2, .int v2), (3, .int w0)]) hC zki_1 (by decide) rfl rfl dX10_nextBy_53 ?_
        refine zr_goto (pc := 56) (tgt := 5) hC dX10_nextBy_56 (by decide) ?_
        obtain rfl := Option.some.inj h
        exact zV.sub (lv' := [(0, .ref (ad 0)), (1, .int v1), (2, .int v2), (3, .int w0), (4, .int (w1 + (1 : Int32)))]) [1, 2, 3, 4, 0] rfl (hin w0 (w1 + (1 : Int32)) rfl)
def xX10_nextBy (pT : zM) (v1 : Int32) (v2 : Int32) : Option Int32 :=
  (x_it (fun a9 => xX10_nextBy_L5 pT v1 v2 a9.1 a9.2) zFU ((0 : Int32), (1 : Int32))).bind fun q1 =>
  Sum.elim (fun b2 => some b2) (fun c3 => some (0 : Int32)) q1
set_option maxHeartbeats 4000000 in
set_option maxRecDepth 100000 in
theorem tX10_nextBy {κ : Nat → ClassId} {tg : Nat} {S : zEn} {ad : Nat → Nat} (hEk : zEk (zE tg S)) {pT : zM} {pR : zM} {pX : zM} {pF : zM} {pB : zM} {pP : zP} {v1 : Int32} {v2 : Int32} {res : Int32} (h : xX10_nextBy pT v1 v2 = some res) (l : Launch) (D : va_G) : zCT (zE tg S) D vwCl (zty κ) l yX10_nextBy wsX10_nextBy ({ frames := 0, cells := 0, slots := 0, locals := 0 } : Room) 0 0 [.ref (ad 0), .int v1, .int v2] (zwC κ ad pT pR pX pF pB pP) (zPd (some (.int res)) (zwC κ ad pT pR pX pF pB pP)) := by
  refine zCT.of (cc := cX10_nextBy) (maxL := 5) (ret := (some .int)) (by decide) rfl (Nat.le_of_ble_eq_true rfl) ?_
  intro X hC hR
  unfold xX10_nextBy at h
  refine zV.sub (lv' := [(0, .ref (ad 0)), (1, .int v1), (2, .int v2)]) [0, 1, 2] rfl ?_
  refine zr_iconst (pc := 0) hC zki_0 dX10_nextBy_0 ?_
  refine zr_istore_n (pc := 1) (lv' := [(3, .int (0 : Int32)), (0, .ref (ad 0)), (1, .int v1), (2, .int v2)]) hC rfl (by decide) rfl dX10_nextBy_1 ?_
  refine zr_iconst (pc := 2) hC zki_1 dX10_nextBy_2 ?_
  refine zr_istore (pc := 3) (lv' := [(4, .int (1 : Int32)), (3, .int (0 : Int32)), (0, .ref (ad 0)), (1, .int v1), (2, .int v2)]) hC (by decide) rfl dX10_nextBy_3 ?_
  obtain ⟨q1, hq1, h⟩ := zbd h
  refine zV.sub (lv' := [(0, .ref (ad 0)), (1, .int v1), (2, .int v2), (3, .int (0 : Int32)), (4, .int (1 : Int32))]) [2, 3, 4, 1, 0] rfl ?_
  refine zit2 (Wp := fun (y0 : Int32) (y1 : Int32) => zV X 0 0 (zwC κ ad pT pR pX pF pB pP) [(0, .ref (ad 0)), (1, .int v1), (2, .int v2), (3, .int y0), (4, .int y1)] [] 5) (Ex := fun (b9 : (Int32 ⊕ Unit)) => Sum.elim (fun (b0 : Int32) => zV X 0 0 (zwC κ ad pT pR pX pF pB pP) [(4, .int b0)] [] 50) (fun (c0 : Unit) => zV X 0 0 (zwC κ ad pT pR pX pF pB pP) [] [] 59) b9) (fun y0 y1 r9 hr hin hout => tX10_nextBy_L5 hC hEk hin (fun z0 e9 => hout (.inl z0) e9) (fun e9 => hout (.inr ()) e9) hr) zFU (0 : Int32) (1 : Int32) q1 hq1 ?_
  rcases q1 with b2 | c3
  · replace h := zel h
    show zV X 0 0 (zwC κ ad pT pR pX pF pB pP) [(4, .int b2)] [] 50
    refine zr_iload (pc := 50) hC 0 rfl dX10_nextBy_50 ?_
    obtain rfl := Option.some.inj h
    exact zr_iret hC hR ⟨rfl, rfl⟩ (Nat.le_refl _) (Nat.le_refl _) dX10_nextBy_52
  · replace h := zer h
    show zV X 0 0 (zwC κ ad pT pR pX pF pB pP) [] [] 59
    refine zr_iconst (pc := 59) hC zki_0 dX10_nextBy_59 ?_
    obtain rfl := Option.some.inj h
    exact zr_iret hC hR ⟨rfl, rfl⟩ (Nat.le_refl _) (Nat.le_refl _) dX10_nextBy_60
/-! X6_drawEnd -/
theorem hyX6_drawEnd : yX6_drawEnd.cls = RX6 ∧ yX6_drawEnd.cls ≠ "java/lang/invoke/MethodHandle" ∧ yX6_drawEnd.cls ≠ "java/lang/invoke/VarHandle" ∧ (parseMethodDescriptor yX6_drawEnd.desc).map (fun d => d.parameters.length) = some 0 := by decide +kernel
theorem flX6_drawEnd_67 : Cond.fieldLink RX6 67 "BeforeTheEnd$Race" "tree" "LBeforeTheEnd$Tree;" ∈ wsX6_drawEnd := by decide +kernel
theorem hinX6_drawEnd_X6 : ∀ w ∈ wsX60, w ∈ wsX6_drawEnd := fun _ h => List.mem_cons_of_mem _ (List.mem_append_left _ (List.mem_append_right _ h))
theorem hinX6_drawEnd_X10 : ∀ w ∈ wsX100, w ∈ wsX6_drawEnd := fun _ h => List.mem_cons_of_mem _ (List.mem_append_right _ h)
def xX6_drawEnd_L4 (pT : zM) (w0 : zM) (w1 : Int32) (w2 : Int32) : Option ((zM × Int32 × Int32) ⊕ (zM × Int32)) :=
  if (24 : Int32) ≤ w2 then
  (some (.inr (w0, w1)))
  else
  (xX10_nextsOf pT w1).bind fun q2 =>
  if q2 ≤ 0 then
  (some (.inr (w0, w1)))
  else
  (xX10_nextSumOf pT w1).bind fun q4 =>
  (xX6_draw w0 q4).bind fun q5 =>
  (xX10_nextBy pT w1 q5.1).bind fun q6 =>
  some (.inl (q5.2, q6, (w2 + (1 : Int32))))
set_option maxHeartbeats 4000000 in
set_option maxRecDepth 100000 in
theorem tX6_drawEnd_L4 {κ : Nat → ClassId} {tg : Nat} {S : zEn} {ad : Nat → Nat} {X : zX} {pX : zM} {pF : zM} {pB : zM} {pP : zP} {pT : zM} {w0 : zM} {w1 : Int32} {w2 : Int32} {r : ((zM × Int32 × Int32) ⊕ (zM × Int32))} (hC : zC X cX6_drawEnd RX6 wsX6_drawEnd vwCl (zty κ) (zE tg S) 3 ({ frames := 2, cells := 0, slots := 0, locals := 42 } : Room)) (hEk : zEk (zE tg S)) (hin : ∀ (x0' : zM) (x1' : Int32) (x2' : Int32), r = .inl (x0', x1', x2') → zV X 0 0 (zwC κ ad pT x0' pX pF pB pP) [(0, .ref (ad 62)), (1, .int x1'), (2, .int x2')] [] 4) (hout0 : ∀ (x0' : zM) (x1' : Int32), r = .inr (x0', x1') → zV X 0 0 (zwC κ ad pT x0' pX pF pB pP) [(1, .int x1')] [] 48) (h : xX6_drawEnd_L4 pT  w0 w1 w2 = some r) : zV X 0 0 (zwC κ ad pT w0 pX pF pB pP) [(0, .ref (ad 62)), (1, .int w1), (2, .int w2)] [] 4 := by
  unfold xX6_drawEnd_L4 at h
  refine zr_iload_n (pc := 4) hC 2 rfl rfl dX6_drawEnd_4 ?_
  refine zr_bipush (pc := 5) hC zkb_24 dX6_drawEnd_5 ?_
  refine zr_icmp_ge (pc := 7) (tgt := 48) hC dX6_drawEnd_7 (by decide) (fun c1 => ?_) (fun c1 => ?_)
  · replace h := zip h c1
    obtain rfl := Option.some.inj h
    exact zV.sub (lv' := [(1, .int w1)]) [1] rfl (hout0 w0 w1 rfl)
  · replace h := zin h c1
    refine zr_aload_n (pc := 10) hC 0 rfl rfl dX6_drawEnd_10 ?_
    refine zcg_62_0 (pc := 11) hC hinX6_drawEnd_X6 flX6_drawEnd_67 dX6_drawEnd_11 ?_
    refine zr_iload_n (pc := 14) hC 1 rfl rfl dX6_drawEnd_14 ?_
    obtain ⟨q2, hq2, h⟩ := zbd h
    refine zr_cVi (pc := 15) hC hEk [.int w1] [] 0 1 (fun l D => tX10_nextsOf hEk hq2 l D) gX6_drawEnd_X10_nextsOf rfl rfl rfl ⟨Nat.le_of_ble_eq_true rfl, Nat.le_of_ble_eq_true rfl⟩ hyX10_nextsOf (zNC (by decide)) entC_0 rfl rfl rfl (Nat.le_of_ble_eq_true rfl) ⟨Nat.le_of_ble_eq_true rfl, Nat.le_of_ble_eq_true rfl⟩ dX6_drawEnd_15 ?_
    refine zr_if_le (pc := 18) (tgt := 48) hC dX6_drawEnd_18 (by decide) (fun c3 => ?_) (fun c3 => ?_)
    · replace h := zip h c3
      obtain rfl := Option.some.inj h
      exact zV.sub (lv' := [(1, .int w1)]) [1] rfl (hout0 w0 w1 rfl)
    · replace h := zin h c3
      refine zr_aload_n (pc := 21) hC 0 rfl rfl dX6_drawEnd_21 ?_
      refine zcg_62_0 (pc := 22) hC hinX6_drawEnd_X6 flX6_drawEnd_67 dX6_drawEnd_22 ?_
      refine zr_iload_n (pc := 25) hC 1 rfl rfl dX6_drawEnd_25 ?_
      refine zr_aload_n (pc := 26) hC 0 rfl rfl dX6_drawEnd_26 ?_
      refine zr_aload_n (pc := 27) hC 0 rfl rfl dX6_drawEnd_27 ?_
      refine zcg_62_0 (pc := 28) hC hinX6_drawEnd_X6 flX6_drawEnd_67 dX6_drawEnd_28 ?_
      refine zr_iload_n (pc := 31) hC 1 rfl rfl dX6_drawEnd_31 ?_
      obtain ⟨q4, hq4, h⟩ := zbd h
      refine zr_cVi (pc := 32) hC hEk [.int w1] [.ref (ad 62), .int w1, .ref (ad 0)] 0 1 (fun l D => tX10_nextSumOf hEk hq4 l D) gX6_drawEnd_X10_nextSumOf rfl rfl rfl ⟨Nat.le_of_ble_eq_true rfl, Nat.le_of_ble_eq_true rfl⟩ hyX10_nextSumOf (zNC (by decide)) entC_0 rfl rfl rfl (Nat.le_of_ble_eq_true rfl) ⟨Nat.le_of_ble_eq_true rfl, Nat.le_of_ble_eq_true rfl⟩ dX6_drawEnd_32 ?_
      obtain ⟨q5, hq5, h⟩ := zbd h
      refine zr_cVi (pc := 35) hC hEk [.int q4] [.int w1, .ref (ad 0)] 62 1 (fun l D => tX6_draw hEk hq5 l D) gX6_drawEnd_X6_draw rfl rfl rfl ⟨Nat.le_of_ble_eq_true rfl, Nat.le_of_ble_eq_true rfl⟩ hyX6_draw (zNC (by decide)) entC_62 rfl rfl rfl (Nat.le_of_ble_eq_true rfl) ⟨Nat.le_of_ble_eq_true rfl, Nat.le_of_ble_eq_true rfl⟩ dX6_drawEnd_35 ?_
      obtain ⟨q6, hq6, h⟩ := zbd h
      refine zr_cVi (pc := 38) hC hEk [.int w1, .int q5.1] [] 0 2 (fun l D => tX10_nextBy hEk hq6 l D) gX6_drawEnd_X10_nextBy rfl rfl rfl ⟨Nat.le_of_ble_eq_true rfl, Nat.le_of_ble_eq_true rfl⟩ hyX10_nextBy (zNC (by decide)) entC_0 rfl rfl rfl (Nat.le_of_ble_eq_true rfl) ⟨Nat.le_of_ble_eq_true rfl, Nat.le_of_ble_eq_true rfl⟩ dX6_drawEnd_38 ?_
      refine zr_istore_n (pc := 41) (lv' := [(1, .int q6), (0, .ref (ad 62)), (2, .int w2)]) hC rfl (by decide) rfl dX6_drawEnd_41 ?_
      refine zr_iinc (pc := 42) (k := 2) (lv' := [(2, .int (w2 + (1 : Int32))), (1, .int q6), (0, .ref (ad 62))]) hC zki_1 (by decide) rfl rfl dX6_drawEnd_42 ?_
      refine zr_goto (pc := 45) (tgt := 4) hC dX6_drawEnd_45 (by decide) ?_
      obtain rfl := Option.some.inj h
      exact zV.sub (lv' := [(0, .ref (ad 62)), (1, .int q6), (2, .int (w2 + (1 : Int32)))]) [2, 1, 0] rfl (hin q5.2 q6 (w2 + (1 : Int32)) rfl)
def xX6_drawEnd (pT : zM) (pR : zM)  : Option (Int32 × zM) :=
  (x_it (fun a9 => xX6_drawEnd_L4 pT a9.1 a9.2.1 a9.2.2) zFU (pR, (0 : Int32), (0 : Int32))).bind fun q1 =>
  some (q1.2, q1.1)
set_option maxHeartbeats 4000000 in
set_option maxRecDepth 100000 in
theorem tX6_drawEnd {κ : Nat → ClassId} {tg : Nat} {S : zEn} {ad : Nat → Nat} (hEk : zEk (zE tg S)) {pT : zM} {pR : zM} {pX : zM} {pF : zM} {pB : zM} {pP : zP}  {res : (Int32 × zM)} (h : xX6_drawEnd pT pR  = some res) (l : Launch) (D : va_G) : zCT (zE tg S) D vwCl (zty κ) l yX6_drawEnd wsX6_drawEnd ({ frames := 2, cells := 0, slots := 0, locals := 42 } : Room) 0 0 [.ref (ad 62)] (zwC κ ad pT pR pX pF pB pP) (zPd (some (.int res.1)) (zwC κ ad pT res.2 pX pF pB pP)) := by
  refine zCT.of (cc := cX6_drawEnd) (maxL := 3) (ret := (some .int)) (by decide) rfl (Nat.le_of_ble_eq_true rfl) ?_
  intro X hC hR
  unfold xX6_drawEnd at h
  refine zV.sub (lv' := [(0, .ref (ad 62))]) [0] rfl ?_
  refine zr_iconst (pc := 0) hC zki_0 dX6_drawEnd_0 ?_
  refine zr_istore_n (pc := 1) (lv' := [(1, .int (0 : Int32)), (0, .ref (ad 62))]) hC rfl (by decide) rfl dX6_drawEnd_1 ?_
  refine zr_iconst (pc := 2) hC zki_0 dX6_drawEnd_2 ?_
  refine zr_istore_n (pc := 3) (lv' := [(2, .int (0 : Int32)), (1, .int (0 : Int32)), (0, .ref (ad 62))]) hC rfl (by decide) rfl dX6_drawEnd_3 ?_
  obtain ⟨q1, hq1, h⟩ := zbd h
  refine zV.sub (lv' := [(0, .ref (ad 62)), (1, .int (0 : Int32)), (2, .int (0 : Int32))]) [2, 1, 0] rfl ?_
  refine zit3 (Wp := fun (y0 : zM) (y1 : Int32) (y2 : Int32) => zV X 0 0 (zwC κ ad pT y0 pX pF pB pP) [(0, .ref (ad 62)), (1, .int y1), (2, .int y2)] [] 4) (Ex := fun (b9 : (zM × Int32)) => zV X 0 0 (zwC κ ad pT b9.1 pX pF pB pP) [(1, .int b9.2)] [] 48) (fun y0 y1 y2 r9 hr hin hout => tX6_drawEnd_L4 hC hEk hin (fun z0 z1 e9 => hout (z0, z1) e9) hr) zFU pR (0 : Int32) (0 : Int32) q1 hq1 ?_
  show zV X 0 0 (zwC κ ad pT q1.1 pX pF pB pP) [(1, .int q1.2)] [] 48
  refine zr_iload_n (pc := 48) hC 0 rfl rfl dX6_drawEnd_48 ?_
  obtain rfl := Option.some.inj h
  exact zr_iret hC hR ⟨rfl, rfl⟩ (Nat.le_refl _) (Nat.le_refl _) dX6_drawEnd_49
/-! X8_size -/
theorem hyX8_size : yX8_size.cls = RX8 ∧ yX8_size.cls ≠ "java/lang/invoke/MethodHandle" ∧ yX8_size.cls ≠ "java/lang/invoke/VarHandle" ∧ (parseMethodDescriptor yX8_size.desc).map (fun d => d.parameters.length) = some 0 := by decide +kernel
theorem flX8_size_15 : Cond.fieldLink RX8 15 "BeforeTheEnd$Text" "count" "I" ∈ wsX8_size := by decide +kernel
theorem hinX8_size_X8 : ∀ w ∈ wsX80, w ∈ wsX8_size := fun _ h => List.mem_cons_of_mem _ (List.mem_append_right _ h)
def xX8_size (pX : zM)  : Option Int32 :=
  some (pX.1 70 1)
set_option maxHeartbeats 4000000 in
set_option maxRecDepth 100000 in
theorem tX8_size {κ : Nat → ClassId} {tg : Nat} {S : zEn} {ad : Nat → Nat} (hEk : zEk (zE tg S)) {pT : zM} {pR : zM} {pX : zM} {pF : zM} {pB : zM} {pP : zP}  {res : Int32} (h : xX8_size pX  = some res) (l : Launch) (D : va_G) : zCT (zE tg S) D vwCl (zty κ) l yX8_size wsX8_size ({ frames := 0, cells := 0, slots := 0, locals := 0 } : Room) 0 0 [.ref (ad 70)] (zwC κ ad pT pR pX pF pB pP) (zPd (some (.int res)) (zwC κ ad pT pR pX pF pB pP)) := by
  refine zCT.of (cc := cX8_size) (maxL := 1) (ret := (some .int)) (by decide) rfl (Nat.le_of_ble_eq_true rfl) ?_
  intro X hC hR
  unfold xX8_size at h
  refine zV.sub (lv' := [(0, .ref (ad 70))]) [0] rfl ?_
  refine zr_aload_n (pc := 0) hC 0 rfl rfl dX8_size_0 ?_
  refine zcg_70_1 (pc := 1) hC hinX8_size_X8 flX8_size_15 dX8_size_1 ?_
  obtain rfl := Option.some.inj h
  exact zr_iret hC hR ⟨rfl, rfl⟩ (Nat.le_refl _) (Nat.le_refl _) dX8_size_4
/-! X8_append -/
theorem hyX8_append : yX8_append.cls = RX8 ∧ yX8_append.cls ≠ "java/lang/invoke/MethodHandle" ∧ yX8_append.cls ≠ "java/lang/invoke/VarHandle" ∧ (parseMethodDescriptor yX8_append.desc).map (fun d => d.parameters.length) = some 1 := by decide +kernel
theorem flX8_append_15 : Cond.fieldLink RX8 15 "BeforeTheEnd$Text" "count" "I" ∈ wsX8_append := by decide +kernel
theorem flX8_append_9 : Cond.fieldLink RX8 9 "BeforeTheEnd$Text" "bytes" "[I" ∈ wsX8_append := by decide +kernel
theorem hinX8_append_X8 : ∀ w ∈ wsX80, w ∈ wsX8_append := fun _ h => List.mem_cons_of_mem _ (List.mem_append_right _ h)
def xX8_append (pX : zM) (v1 : Int32) : Option zM :=
  if (pX.1 70 1) < 0 then
  (some pX)
  else
  if (pX.1 70 1) < (64 : Int32) then
  (if ((pX.1 70 1) < 0 ∨ 64 ≤ (pX.1 70 1).toNatClampNeg) then none else
  zlet (zsi pX 71 (pX.1 70 1).toNatClampNeg v1) fun M4 =>
  zlet (zsi M4 70 1 ((M4.1 70 1) + (1 : Int32))) fun M6 =>
  some M6)
  else
  some pX
set_option maxHeartbeats 4000000 in
set_option maxRecDepth 100000 in
theorem tX8_append {κ : Nat → ClassId} {tg : Nat} {S : zEn} {ad : Nat → Nat} (hEk : zEk (zE tg S)) {pT : zM} {pR : zM} {pX : zM} {pF : zM} {pB : zM} {pP : zP} {v1 : Int32} {res : zM} (h : xX8_append pX v1 = some res) (l : Launch) (D : va_G) : zCT (zE tg S) D vwCl (zty κ) l yX8_append wsX8_append ({ frames := 0, cells := 0, slots := 0, locals := 0 } : Room) 0 0 [.ref (ad 70), .int v1] (zwC κ ad pT pR pX pF pB pP) (zPd none (zwC κ ad pT pR res pF pB pP)) := by
  refine zCT.of (cc := cX8_append) (maxL := 2) (ret := none) (by decide) rfl (Nat.le_of_ble_eq_true rfl) ?_
  intro X hC hR
  unfold xX8_append at h
  refine zV.sub (lv' := [(0, .ref (ad 70)), (1, .int v1)]) [0, 1] rfl ?_
  refine zr_aload_n (pc := 0) hC 0 rfl rfl dX8_append_0 ?_
  refine zcg_70_1 (pc := 1) hC hinX8_append_X8 flX8_append_15 dX8_append_1 ?_
  refine zr_if_lt (pc := 4) (tgt := 16) hC dX8_append_4 (by decide) (fun c1 => ?_) (fun c1 => ?_)
  · replace h := zip h c1
    obtain rfl := Option.some.inj h
    exact zr_vret hC hR ⟨rfl, rfl⟩ (Nat.le_refl _) (Nat.le_refl _) dX8_append_16
  · replace h := zin h c1
    refine zr_aload_n (pc := 7) hC 0 rfl rfl dX8_append_7 ?_
    refine zcg_70_1 (pc := 8) hC hinX8_append_X8 flX8_append_15 dX8_append_8 ?_
    refine zr_bipush (pc := 11) hC zkb_64 dX8_append_11 ?_
    refine zr_icmp_lt (pc := 13) (tgt := 17) hC dX8_append_13 (by decide) (fun c2 => ?_) (fun c2 => ?_)
    · replace h := zip h c2
      refine zr_aload_n (pc := 17) hC 0 rfl rfl dX8_append_17 ?_
      refine zcg_70_0 (pc := 18) hC hinX8_append_X8 flX8_append_9 dX8_append_18 ?_
      refine zr_aload_n (pc := 21) hC 0 rfl rfl dX8_append_21 ?_
      refine zcg_70_1 (pc := 22) hC hinX8_append_X8 flX8_append_15 dX8_append_22 ?_
      refine zr_iload_n (pc := 25) hC 1 rfl rfl dX8_append_25 ?_
      obtain ⟨i3, h⟩ := zgd h
      obtain ⟨M4, e5, h⟩ := zle h
      refine zcs_71 (pc := 26) hC i3 e5 dX8_append_26 ?_
      refine zr_aload_n (pc := 27) hC 0 rfl rfl dX8_append_27 ?_
      refine zr_dup (pc := 28) hC rfl dX8_append_28 ?_
      refine zcg_70_1 (pc := 29) hC hinX8_append_X8 flX8_append_15 dX8_append_29 ?_
      refine zr_iconst (pc := 32) hC zki_1 dX8_append_32 ?_
      refine zr_iadd (pc := 33) hC dX8_append_33 ?_
      obtain ⟨M6, e7, h⟩ := zle h
      refine zcp_70_1 (pc := 34) hC hinX8_append_X8 flX8_append_15 e7 dX8_append_34 ?_
      obtain rfl := Option.some.inj h
      exact zr_vret hC hR ⟨rfl, rfl⟩ (Nat.le_refl _) (Nat.le_refl _) dX8_append_37
    · replace h := zin h c2
      obtain rfl := Option.some.inj h
      exact zr_vret hC hR ⟨rfl, rfl⟩ (Nat.le_refl _) (Nat.le_refl _) dX8_append_16
/-! X8_clear -/
theorem hyX8_clear : yX8_clear.cls = RX8 ∧ yX8_clear.cls ≠ "java/lang/invoke/MethodHandle" ∧ yX8_clear.cls ≠ "java/lang/invoke/VarHandle" ∧ (parseMethodDescriptor yX8_clear.desc).map (fun d => d.parameters.length) = some 0 := by decide +kernel
theorem flX8_clear_15 : Cond.fieldLink RX8 15 "BeforeTheEnd$Text" "count" "I" ∈ wsX8_clear := by decide +kernel
theorem hinX8_clear_X8 : ∀ w ∈ wsX80, w ∈ wsX8_clear := fun _ h => List.mem_cons_of_mem _ (List.mem_append_right _ h)
def xX8_clear (pX : zM)  : Option zM :=
  zlet (zsi pX 70 1 (0 : Int32)) fun M1 =>
  some M1
set_option maxHeartbeats 4000000 in
set_option maxRecDepth 100000 in
theorem tX8_clear {κ : Nat → ClassId} {tg : Nat} {S : zEn} {ad : Nat → Nat} (hEk : zEk (zE tg S)) {pT : zM} {pR : zM} {pX : zM} {pF : zM} {pB : zM} {pP : zP}  {res : zM} (h : xX8_clear pX  = some res) (l : Launch) (D : va_G) : zCT (zE tg S) D vwCl (zty κ) l yX8_clear wsX8_clear ({ frames := 0, cells := 0, slots := 0, locals := 0 } : Room) 0 0 [.ref (ad 70)] (zwC κ ad pT pR pX pF pB pP) (zPd none (zwC κ ad pT pR res pF pB pP)) := by
  refine zCT.of (cc := cX8_clear) (maxL := 1) (ret := none) (by decide) rfl (Nat.le_of_ble_eq_true rfl) ?_
  intro X hC hR
  unfold xX8_clear at h
  refine zV.sub (lv' := [(0, .ref (ad 70))]) [0] rfl ?_
  refine zr_aload_n (pc := 0) hC 0 rfl rfl dX8_clear_0 ?_
  refine zr_iconst (pc := 1) hC zki_0 dX8_clear_1 ?_
  obtain ⟨M1, e2, h⟩ := zle h
  refine zcp_70_1 (pc := 2) hC hinX8_clear_X8 flX8_clear_15 e2 dX8_clear_2 ?_
  obtain rfl := Option.some.inj h
  exact zr_vret hC hR ⟨rfl, rfl⟩ (Nat.le_refl _) (Nat.le_refl _) dX8_clear_5
/-! X8_here -/
theorem hyX8_here : yX8_here.cls = RX8 ∧ yX8_here.cls ≠ "java/lang/invoke/MethodHandle" ∧ yX8_here.cls ≠ "java/lang/invoke/VarHandle" ∧ (parseMethodDescriptor yX8_here.desc).map (fun d => d.parameters.length) = some 0 := by decide +kernel
theorem flX8_here_15 : Cond.fieldLink RX8 15 "BeforeTheEnd$Text" "count" "I" ∈ wsX8_here := by decide +kernel
theorem flX8_here_19 : Cond.fieldLink RX8 19 "BeforeTheEnd$Text" "at" "I" ∈ wsX8_here := by decide +kernel
theorem flX8_here_9 : Cond.fieldLink RX8 9 "BeforeTheEnd$Text" "bytes" "[I" ∈ wsX8_here := by decide +kernel
theorem hinX8_here_X8 : ∀ w ∈ wsX80, w ∈ wsX8_here := fun _ h => List.mem_cons_of_mem _ (List.mem_append_right _ h)
def xX8_here (pX : zM)  : Option Int32 :=
  if (pX.1 70 2) < 0 then
  (some (-1 : Int32))
  else
  if (pX.1 70 1) ≤ (pX.1 70 2) then
  (some (-1 : Int32))
  else
  if (64 : Int32) ≤ (pX.1 70 2) then
  (some (-1 : Int32))
  else
  if ((pX.1 70 2) < 0 ∨ 64 ≤ (pX.1 70 2).toNatClampNeg) then none else
  some (pX.1 71 (pX.1 70 2).toNatClampNeg)
set_option maxHeartbeats 4000000 in
set_option maxRecDepth 100000 in
theorem tX8_here {κ : Nat → ClassId} {tg : Nat} {S : zEn} {ad : Nat → Nat} (hEk : zEk (zE tg S)) {pT : zM} {pR : zM} {pX : zM} {pF : zM} {pB : zM} {pP : zP}  {res : Int32} (h : xX8_here pX  = some res) (l : Launch) (D : va_G) : zCT (zE tg S) D vwCl (zty κ) l yX8_here wsX8_here ({ frames := 0, cells := 0, slots := 0, locals := 0 } : Room) 0 0 [.ref (ad 70)] (zwC κ ad pT pR pX pF pB pP) (zPd (some (.int res)) (zwC κ ad pT pR pX pF pB pP)) := by
  refine zCT.of (cc := cX8_here) (maxL := 1) (ret := (some .int)) (by decide) rfl (Nat.le_of_ble_eq_true rfl) ?_
  intro X hC hR
  unfold xX8_here at h
  refine zV.sub (lv' := [(0, .ref (ad 70))]) [0] rfl ?_
  refine zr_aload_n (pc := 0) hC 0 rfl rfl dX8_here_0 ?_
  refine zcg_70_2 (pc := 1) hC hinX8_here_X8 flX8_here_19 dX8_here_1 ?_
  refine zr_if_lt (pc := 4) (tgt := 39) hC dX8_here_4 (by decide) (fun c1 => ?_) (fun c1 => ?_)
  · replace h := zip h c1
    refine zr_iconst (pc := 39) hC zki_m1 dX8_here_39 ?_
    obtain rfl := Option.some.inj h
    exact zr_iret hC hR ⟨rfl, rfl⟩ (Nat.le_refl _) (Nat.le_refl _) dX8_here_40
  · replace h := zin h c1
    refine zr_aload_n (pc := 7) hC 0 rfl rfl dX8_here_7 ?_
    refine zcg_70_2 (pc := 8) hC hinX8_here_X8 flX8_here_19 dX8_here_8 ?_
    refine zr_aload_n (pc := 11) hC 0 rfl rfl dX8_here_11 ?_
    refine zcg_70_1 (pc := 12) hC hinX8_here_X8 flX8_here_15 dX8_here_12 ?_
    refine zr_icmp_ge (pc := 15) (tgt := 39) hC dX8_here_15 (by decide) (fun c2 => ?_) (fun c2 => ?_)
    · replace h := zip h c2
      refine zr_iconst (pc := 39) hC zki_m1 dX8_here_39 ?_
      obtain rfl := Option.some.inj h
      exact zr_iret hC hR ⟨rfl, rfl⟩ (Nat.le_refl _) (Nat.le_refl _) dX8_here_40
    · replace h := zin h c2
      refine zr_aload_n (pc := 18) hC 0 rfl rfl dX8_here_18 ?_
      refine zcg_70_2 (pc := 19) hC hinX8_here_X8 flX8_here_19 dX8_here_19 ?_
      refine zr_bipush (pc := 22) hC zkb_64 dX8_here_22 ?_
      refine zr_icmp_ge (pc := 24) (tgt := 39) hC dX8_here_24 (by decide) (fun c3 => ?_) (fun c3 => ?_)
      · replace h := zip h c3
        refine zr_iconst (pc := 39) hC zki_m1 dX8_here_39 ?_
        obtain rfl := Option.some.inj h
        exact zr_iret hC hR ⟨rfl, rfl⟩ (Nat.le_refl _) (Nat.le_refl _) dX8_here_40
      · replace h := zin h c3
        refine zr_aload_n (pc := 27) hC 0 rfl rfl dX8_here_27 ?_
        refine zcg_70_0 (pc := 28) hC hinX8_here_X8 flX8_here_9 dX8_here_28 ?_
        refine zr_aload_n (pc := 31) hC 0 rfl rfl dX8_here_31 ?_
        refine zcg_70_2 (pc := 32) hC hinX8_here_X8 flX8_here_19 dX8_here_32 ?_
        obtain ⟨i4, h⟩ := zgd h
        refine zcl_71 (pc := 35) hC i4 dX8_here_35 ?_
        refine zr_goto (pc := 36) (tgt := 40) hC dX8_here_36 (by decide) ?_
        obtain rfl := Option.some.inj h
        exact zr_iret hC hR ⟨rfl, rfl⟩ (Nat.le_refl _) (Nat.le_refl _) dX8_here_40
/-! X8_accepts -/
theorem hyX8_accepts : yX8_accepts.cls = RX8 ∧ yX8_accepts.cls ≠ "java/lang/invoke/MethodHandle" ∧ yX8_accepts.cls ≠ "java/lang/invoke/VarHandle" ∧ (parseMethodDescriptor yX8_accepts.desc).map (fun d => d.parameters.length) = some 1 := by decide +kernel
theorem flX8_accepts_19 : Cond.fieldLink RX8 19 "BeforeTheEnd$Text" "at" "I" ∈ wsX8_accepts := by decide +kernel
theorem hinX8_accepts_X8 : ∀ w ∈ wsX80, w ∈ wsX8_accepts := fun _ h => List.mem_cons_of_mem _ (List.mem_append_right _ h)
def xX8_accepts (pX : zM) (v1 : Int32) : Option (Int32 × zM) :=
  (xX8_here pX).bind fun q1 =>
  if q1 = v1 then
  (zlet (zsi pX 70 2 ((pX.1 70 2) + (1 : Int32))) fun M3 =>
  some ((1 : Int32), M3))
  else
  some ((0 : Int32), pX)
set_option maxHeartbeats 4000000 in
set_option maxRecDepth 100000 in
theorem tX8_accepts {κ : Nat → ClassId} {tg : Nat} {S : zEn} {ad : Nat → Nat} (hEk : zEk (zE tg S)) {pT : zM} {pR : zM} {pX : zM} {pF : zM} {pB : zM} {pP : zP} {v1 : Int32} {res : (Int32 × zM)} (h : xX8_accepts pX v1 = some res) (l : Launch) (D : va_G) : zCT (zE tg S) D vwCl (zty κ) l yX8_accepts wsX8_accepts ({ frames := 1, cells := 0, slots := 0, locals := 20 } : Room) 0 0 [.ref (ad 70), .int v1] (zwC κ ad pT pR pX pF pB pP) (zPd (some (.int res.1)) (zwC κ ad pT pR res.2 pF pB pP)) := by
  refine zCT.of (cc := cX8_accepts) (maxL := 2) (ret := (some .boolean)) (by decide) rfl (Nat.le_of_ble_eq_true rfl) ?_
  intro X hC hR
  unfold xX8_accepts at h
  refine zV.sub (lv' := [(0, .ref (ad 70)), (1, .int v1)]) [0, 1] rfl ?_
  refine zr_aload_n (pc := 0) hC 0 rfl rfl dX8_accepts_0 ?_
  obtain ⟨q1, hq1, h⟩ := zbd h
  refine zr_cVi (pc := 1) hC hEk [] [] 70 0 (fun l D => tX8_here hEk hq1 l D) gX8_accepts_X8_here rfl rfl rfl ⟨Nat.le_of_ble_eq_true rfl, Nat.le_of_ble_eq_true rfl⟩ hyX8_here (zNC (by decide)) entC_70 rfl rfl rfl (Nat.le_of_ble_eq_true rfl) ⟨Nat.le_of_ble_eq_true rfl, Nat.le_of_ble_eq_true rfl⟩ dX8_accepts_1 ?_
  refine zr_iload_n (pc := 4) hC 1 rfl rfl dX8_accepts_4 ?_
  refine zr_icmp_eq (pc := 5) (tgt := 10) hC dX8_accepts_5 (by decide) (fun c2 => ?_) (fun c2 => ?_)
  · replace h := zip h c2
    refine zr_aload_n (pc := 10) hC 0 rfl rfl dX8_accepts_10 ?_
    refine zr_dup (pc := 11) hC rfl dX8_accepts_11 ?_
    refine zcg_70_2 (pc := 12) hC hinX8_accepts_X8 flX8_accepts_19 dX8_accepts_12 ?_
    refine zr_iconst (pc := 15) hC zki_1 dX8_accepts_15 ?_
    refine zr_iadd (pc := 16) hC dX8_accepts_16 ?_
    obtain ⟨M3, e4, h⟩ := zle h
    refine zcp_70_2 (pc := 17) hC hinX8_accepts_X8 flX8_accepts_19 e4 dX8_accepts_17 ?_
    refine zr_iconst (pc := 20) hC zki_1 dX8_accepts_20 ?_
    obtain rfl := Option.some.inj h
    exact zr_zret hC hR (by decide) ⟨rfl, rfl⟩ (Nat.le_refl _) (Nat.le_refl _) dX8_accepts_21
  · replace h := zin h c2
    refine zr_iconst (pc := 8) hC zki_0 dX8_accepts_8 ?_
    obtain rfl := Option.some.inj h
    exact zr_zret hC hR (by decide) ⟨rfl, rfl⟩ (Nat.le_refl _) (Nat.le_refl _) dX8_accepts_9
/-! X8_readNumber -/
theorem hyX8_readNumber : yX8_readNumber.cls = RX8 ∧ yX8_readNumber.cls ≠ "java/lang/invoke/MethodHandle" ∧ yX8_readNumber.cls ≠ "java/lang/invoke/VarHandle" ∧ (parseMethodDescriptor yX8_readNumber.desc).map (fun d => d.parameters.length) = some 1 := by decide +kernel
theorem flX8_readNumber_19 : Cond.fieldLink RX8 19 "BeforeTheEnd$Text" "at" "I" ∈ wsX8_readNumber := by decide +kernel
theorem hinX8_readNumber_X8 : ∀ w ∈ wsX80, w ∈ wsX8_readNumber := fun _ h => List.mem_cons_of_mem _ (List.mem_append_right _ h)
def xX8_readNumber_L4 (v1 : Int32) (w0 : zM) (w1 : Int32) (w2 : Int32) : Option ((zM × Int32 × Int32) ⊕ ((zM × Int32) ⊕ (zM × Int32))) :=
  if v1 ≤ w2 then
  (some (.inr (.inr (w0, w1))))
  else
  (xX8_here w0).bind fun q2 =>
  if q2 < (48 : Int32) then
  (some (.inr (.inr (w0, w1))))
  else
  if q2 ≤ (57 : Int32) then
  (if w2 = 0 then
  (zlet (((0 : Int32) + q2) - (48 : Int32)) fun z10 =>
  zlet (zsi w0 70 2 ((w0.1 70 2) + (1 : Int32))) fun M12 =>
  some (.inl (M12, z10, (w2 + (1 : Int32)))))
  else
  zlet (((w1 * (10 : Int32)) + q2) - (48 : Int32)) fun z6 =>
  zlet (zsi w0 70 2 ((w0.1 70 2) + (1 : Int32))) fun M8 =>
  some (.inl (M8, z6, (w2 + (1 : Int32)))))
  else
  some (.inr (.inl (w0, w1)))
set_option maxHeartbeats 4000000 in
set_option maxRecDepth 100000 in
theorem tX8_readNumber_L4 {κ : Nat → ClassId} {tg : Nat} {S : zEn} {ad : Nat → Nat} {X : zX} {pT : zM} {pR : zM} {pF : zM} {pB : zM} {pP : zP} {v1 : Int32} {w0 : zM} {w1 : Int32} {w2 : Int32} {r : ((zM × Int32 × Int32) ⊕ ((zM × Int32) ⊕ (zM × Int32)))} (hC : zC X cX8_readNumber RX8 wsX8_readNumber vwCl (zty κ) (zE tg S) 5 ({ frames := 1, cells := 0, slots := 0, locals := 20 } : Room)) (hEk : zEk (zE tg S)) (hin : ∀ (x0' : zM) (x1' : Int32) (x2' : Int32), r = .inl (x0', x1', x2') → zV X 0 0 (zwC κ ad pT pR x0' pF pB pP) [(0, .ref (ad 70)), (1, .int v1), (2, .int x1'), (3, .int x2')] [] 4) (hout0 : ∀ (x0' : zM) (x1' : Int32), r = .inr (.inl (x0', x1')) → zV X 0 0 (zwC κ ad pT pR x0' pF pB pP) [(2, .int x1')] [] 29) (hout1 : ∀ (x0' : zM) (x1' : Int32), r = .inr (.inr (x0', x1')) → zV X 0 0 (zwC κ ad pT pR x0' pF pB pP) [(2, .int x1')] [] 67) (h : xX8_readNumber_L4  v1 w0 w1 w2 = some r) : zV X 0 0 (zwC κ ad pT pR w0 pF pB pP) [(0, .ref (ad 70)), (1, .int v1), (2, .int w1), (3, .int w2)] [] 4 := by
  unfold xX8_readNumber_L4 at h
  refine zr_iload_n (pc := 4) hC 3 rfl rfl dX8_readNumber_4 ?_
  refine zr_iload_n (pc := 5) hC 1 rfl rfl dX8_readNumber_5 ?_
  refine zr_icmp_ge (pc := 6) (tgt := 67) hC dX8_readNumber_6 (by decide) (fun c1 => ?_) (fun c1 => ?_)
  · replace h := zip h c1
    obtain rfl := Option.some.inj h
    exact zV.sub (lv' := [(2, .int w1)]) [2] rfl (hout1 w0 w1 rfl)
  · replace h := zin h c1
    refine zr_aload_n (pc := 9) hC 0 rfl rfl dX8_readNumber_9 ?_
    obtain ⟨q2, hq2, h⟩ := zbd h
    refine zr_cVi (pc := 10) hC hEk [] [] 70 0 (fun l D => tX8_here hEk hq2 l D) gX8_readNumber_X8_here rfl rfl rfl ⟨Nat.le_of_ble_eq_true rfl, Nat.le_of_ble_eq_true rfl⟩ hyX8_here (zNC (by decide)) entC_70 rfl rfl rfl (Nat.le_of_ble_eq_true rfl) ⟨Nat.le_of_ble_eq_true rfl, Nat.le_of_ble_eq_true rfl⟩ dX8_readNumber_10 ?_
    refine zr_istore (pc := 13) (lv' := [(4, .int q2), (0, .ref (ad 70)), (1, .int v1), (2, .int w1), (3, .int w2)]) hC (by decide) rfl dX8_readNumber_13 ?_
    refine zr_iload (pc := 15) hC 0 rfl dX8_readNumber_15 ?_
    refine zr_bipush (pc := 17) hC zkb_48 dX8_readNumber_17 ?_
    refine zr_icmp_lt (pc := 19) (tgt := 67) hC dX8_readNumber_19 (by decide) (fun c3 => ?_) (fun c3 => ?_)
    · replace h := zip h c3
      obtain rfl := Option.some.inj h
      exact zV.sub (lv' := [(2, .int w1)]) [3] rfl (hout1 w0 w1 rfl)
    · replace h := zin h c3
      refine zr_iload (pc := 22) hC 0 rfl dX8_readNumber_22 ?_
      refine zr_bipush (pc := 24) hC zkb_57 dX8_readNumber_24 ?_
      refine zr_icmp_le (pc := 26) (tgt := 32) hC dX8_readNumber_26 (by decide) (fun c4 => ?_) (fun c4 => ?_)
      · replace h := zip h c4
        refine zr_iload_n (pc := 32) hC 4 rfl rfl dX8_readNumber_32 ?_
        refine zr_if_ne (pc := 33) (tgt := 40) hC dX8_readNumber_33 (by decide) (fun c5 => ?_) (fun c5 => ?_)
        · replace h := zin h c5
          refine zr_iload_n (pc := 40) hC 3 rfl rfl dX8_readNumber_40 ?_
          refine zr_bipush (pc := 41) hC zkb_10 dX8_readNumber_41 ?_
          refine zr_imul (pc := 43) hC dX8_readNumber_43 ?_
          refine zr_iload (pc := 44) hC 0 rfl dX8_readNumber_44 ?_
          refine zr_iadd (pc := 46) hC dX8_readNumber_46 ?_
          refine zr_bipush (pc := 47) hC zkb_48 dX8_readNumber_47 ?_
          refine zr_isub (pc := 49) hC dX8_readNumber_49 ?_
          obtain ⟨z6, e7, h⟩ := zle h
          refine zr_topi e7 ?_
          refine zr_istore_n (pc := 50) (lv' := [(2, .int z6), (4, .int q2), (0, .ref (ad 70)), (1, .int v1), (3, .int w2)]) hC rfl (by decide) rfl dX8_readNumber_50 ?_
          refine zr_aload_n (pc := 51) hC 2 rfl rfl dX8_readNumber_51 ?_
          refine zr_dup (pc := 52) hC rfl dX8_readNumber_52 ?_
          refine zcg_70_2 (pc := 53) hC hinX8_readNumber_X8 flX8_readNumber_19 dX8_readNumber_53 ?_
          refine zr_iconst (pc := 56) hC zki_1 dX8_readNumber_56 ?_
          refine zr_iadd (pc := 57) hC dX8_readNumber_57 ?_
          obtain ⟨M8, e9, h⟩ := zle h
          refine zcp_70_2 (pc := 58) hC hinX8_readNumber_X8 flX8_readNumber_19 e9 dX8_readNumber_58 ?_
          refine zr_iinc (pc := 61) (k := 4) (lv' := [(3, .int (w2 + (1 : Int32))), (2, .int z6), (4, .int q2), (0, .ref (ad 70)), (1, .int v1)]) hC zki_1 (by decide) rfl rfl dX8_readNumber_61 ?_
          refine zr_goto (pc := 64) (tgt := 4) hC dX8_readNumber_64 (by decide) ?_
          obtain rfl := Option.some.inj h
          exact zV.sub (lv' := [(0, .ref (ad 70)), (1, .int v1), (2, .int z6), (3, .int (w2 + (1 : Int32)))]) [3, 4, 1, 0] rfl (hin M8 z6 (w2 + (1 : Int32)) rfl)
        · replace h := zip h c5
          refine zr_iconst (pc := 36) hC zki_0 dX8_readNumber_36 ?_
          refine zr_goto (pc := 37) (tgt := 44) hC dX8_readNumber_37 (by decide) ?_
          refine zr_iload (pc := 44) hC 0 rfl dX8_readNumber_44 ?_
          refine zr_iadd (pc := 46) hC dX8_readNumber_46 ?_
          refine zr_bipush (pc := 47) hC zkb_48 dX8_readNumber_47 ?_
          refine zr_isub (pc := 49) hC dX8_readNumber_49 ?_
          obtain ⟨z10, e11, h⟩ := zle h
          refine zr_topi e11 ?_
          refine zr_istore_n (pc := 50) (lv' := [(2, .int z10), (4, .int q2), (0, .ref (ad 70)), (1, .int v1), (3, .int w2)]) hC rfl (by decide) rfl dX8_readNumber_50 ?_
          refine zr_aload_n (pc := 51) hC 2 rfl rfl dX8_readNumber_51 ?_
          refine zr_dup (pc := 52) hC rfl dX8_readNumber_52 ?_
          refine zcg_70_2 (pc := 53) hC hinX8_readNumber_X8 flX8_readNumber_19 dX8_readNumber_53 ?_
          refine zr_iconst (pc := 56) hC zki_1 dX8_readNumber_56 ?_
          refine zr_iadd (pc := 57) hC dX8_readNumber_57 ?_
          obtain ⟨M12, e13, h⟩ := zle h
          refine zcp_70_2 (pc := 58) hC hinX8_readNumber_X8 flX8_readNumber_19 e13 dX8_readNumber_58 ?_
          refine zr_iinc (pc := 61) (k := 4) (lv' := [(3, .int (w2 + (1 : Int32))), (2, .int z10), (4, .int q2), (0, .ref (ad 70)), (1, .int v1)]) hC zki_1 (by decide) rfl rfl dX8_readNumber_61 ?_
          refine zr_goto (pc := 64) (tgt := 4) hC dX8_readNumber_64 (by decide) ?_
          obtain rfl := Option.some.inj h
          exact zV.sub (lv' := [(0, .ref (ad 70)), (1, .int v1), (2, .int z10), (3, .int (w2 + (1 : Int32)))]) [3, 4, 1, 0] rfl (hin M12 z10 (w2 + (1 : Int32)) rfl)
      · replace h := zin h c4
        obtain rfl := Option.some.inj h
        exact zV.sub (lv' := [(2, .int w1)]) [3] rfl (hout0 w0 w1 rfl)
def xX8_readNumber (pX : zM) (v1 : Int32) : Option (Int32 × zM) :=
  (x_it (fun a9 => xX8_readNumber_L4 v1 a9.1 a9.2.1 a9.2.2) zFU (pX, (-1 : Int32), (0 : Int32))).bind fun q1 =>
  Sum.elim (fun b2 => some (b2.2, b2.1)) (fun c3 => some (c3.2, c3.1)) q1
set_option maxHeartbeats 4000000 in
set_option maxRecDepth 100000 in
theorem tX8_readNumber {κ : Nat → ClassId} {tg : Nat} {S : zEn} {ad : Nat → Nat} (hEk : zEk (zE tg S)) {pT : zM} {pR : zM} {pX : zM} {pF : zM} {pB : zM} {pP : zP} {v1 : Int32} {res : (Int32 × zM)} (h : xX8_readNumber pX v1 = some res) (l : Launch) (D : va_G) : zCT (zE tg S) D vwCl (zty κ) l yX8_readNumber wsX8_readNumber ({ frames := 1, cells := 0, slots := 0, locals := 20 } : Room) 0 0 [.ref (ad 70), .int v1] (zwC κ ad pT pR pX pF pB pP) (zPd (some (.int res.1)) (zwC κ ad pT pR res.2 pF pB pP)) := by
  refine zCT.of (cc := cX8_readNumber) (maxL := 5) (ret := (some .int)) (by decide) rfl (Nat.le_of_ble_eq_true rfl) ?_
  intro X hC hR
  unfold xX8_readNumber at h
  refine zV.sub (lv' := [(0, .ref (ad 70)), (1, .int v1)]) [0, 1] rfl ?_
  refine zr_iconst (pc := 0) hC zki_m1 dX8_readNumber_0 ?_
  refine zr_istore_n (pc := 1) (lv' := [(2, .int (-1 : Int32)), (0, .ref (ad 70)), (1, .int v1)]) hC rfl (by decide) rfl dX8_readNumber_1 ?_
  refine zr_iconst (pc := 2) hC zki_0 dX8_readNumber_2 ?_
  refine zr_istore_n (pc := 3) (lv' := [(3, .int (0 : Int32)), (2, .int (-1 : Int32)), (0, .ref (ad 70)), (1, .int v1)]) hC rfl (by decide) rfl dX8_readNumber_3 ?_
  obtain ⟨q1, hq1, h⟩ := zbd h
  refine zV.sub (lv' := [(0, .ref (ad 70)), (1, .int v1), (2, .int (-1 : Int32)), (3, .int (0 : Int32))]) [2, 3, 1, 0] rfl ?_
  refine zit3 (Wp := fun (y0 : zM) (y1 : Int32) (y2 : Int32) => zV X 0 0 (zwC κ ad pT pR y0 pF pB pP) [(0, .ref (ad 70)), (1, .int v1), (2, .int y1), (3, .int y2)] [] 4) (Ex := fun (b9 : ((zM × Int32) ⊕ (zM × Int32))) => Sum.elim (fun (b0 : (zM × Int32)) => zV X 0 0 (zwC κ ad pT pR b0.1 pF pB pP) [(2, .int b0.2)] [] 29) (fun (c0 : (zM × Int32)) => zV X 0 0 (zwC κ ad pT pR c0.1 pF pB pP) [(2, .int c0.2)] [] 67) b9) (fun y0 y1 y2 r9 hr hin hout => tX8_readNumber_L4 hC hEk hin (fun z0 z1 e9 => hout (.inl (z0, z1)) e9) (fun z0 z1 e9 => hout (.inr (z0, z1)) e9) hr) zFU pX (-1 : Int32) (0 : Int32) q1 hq1 ?_
  rcases q1 with b2 | c3
  · replace h := zel h
    show zV X 0 0 (zwC κ ad pT pR b2.1 pF pB pP) [(2, .int b2.2)] [] 29
    refine zr_goto (pc := 29) (tgt := 67) hC dX8_readNumber_29 (by decide) ?_
    refine zr_iload_n (pc := 67) hC 0 rfl rfl dX8_readNumber_67 ?_
    obtain rfl := Option.some.inj h
    exact zr_iret hC hR ⟨rfl, rfl⟩ (Nat.le_refl _) (Nat.le_refl _) dX8_readNumber_68
  · replace h := zer h
    show zV X 0 0 (zwC κ ad pT pR c3.1 pF pB pP) [(2, .int c3.2)] [] 67
    refine zr_iload_n (pc := 67) hC 0 rfl rfl dX8_readNumber_67 ?_
    obtain rfl := Option.some.inj h
    exact zr_iret hC hR ⟨rfl, rfl⟩ (Nat.le_refl _) (Nat.le_refl _) dX8_readNumber_68
/-! X8_readWord -/
theorem hyX8_readWord : yX8_readWord.cls = RX8 ∧ yX8_readWord.cls ≠ "java/lang/invoke/MethodHandle" ∧ yX8_readWord.cls ≠ "java/lang/invoke/VarHandle" ∧ (parseMethodDescriptor yX8_readWord.desc).map (fun d => d.parameters.length) = some 0 := by decide +kernel
theorem flX8_readWord_26 : Cond.fieldLink RX8 26 "BeforeTheEnd$Text" "parent" "I" ∈ wsX8_readWord := by decide +kernel
theorem flX8_readWord_29 : Cond.fieldLink RX8 29 "BeforeTheEnd$Text" "weight" "I" ∈ wsX8_readWord := by decide +kernel
theorem flX8_readWord_32 : Cond.fieldLink RX8 32 "BeforeTheEnd$Text" "answer" "I" ∈ wsX8_readWord := by decide +kernel
theorem hinX8_readWord_X8 : ∀ w ∈ wsX80, w ∈ wsX8_readWord := fun _ h => List.mem_cons_of_mem _ (List.mem_append_right _ h)
def xX8_readWord (pX : zM)  : Option (Int32 × zM) :=
  (xX8_readNumber pX (2 : Int32)).bind fun q1 =>
  zlet (zsi q1.2 70 4 q1.1) fun M2 =>
  if (M2.1 70 4) < 0 then
  (some ((0 : Int32), M2))
  else
  (xX8_accepts M2 (44 : Int32)).bind fun q5 =>
  if q5.1 = 0 then
  (some ((0 : Int32), q5.2))
  else
  (xX8_readNumber q5.2 (1 : Int32)).bind fun q7 =>
  zlet (zsi q7.2 70 5 q7.1) fun M8 =>
  if (M8.1 70 5) < 0 then
  (some ((0 : Int32), M8))
  else
  (xX8_accepts M8 (44 : Int32)).bind fun q11 =>
  if q11.1 = 0 then
  (some ((0 : Int32), q11.2))
  else
  (xX8_readNumber q11.2 (1 : Int32)).bind fun q13 =>
  zlet (zsi q13.2 70 6 q13.1) fun M14 =>
  if (M14.1 70 6) < 0 then
  (some ((0 : Int32), M14))
  else
  (xX8_accepts M14 (59 : Int32)).bind fun q17 =>
  if q17.1 = 0 then
  (some ((0 : Int32), q17.2))
  else
  some ((1 : Int32), q17.2)
set_option maxHeartbeats 4000000 in
set_option maxRecDepth 100000 in
theorem tX8_readWord {κ : Nat → ClassId} {tg : Nat} {S : zEn} {ad : Nat → Nat} (hEk : zEk (zE tg S)) {pT : zM} {pR : zM} {pX : zM} {pF : zM} {pB : zM} {pP : zP}  {res : (Int32 × zM)} (h : xX8_readWord pX  = some res) (l : Launch) (D : va_G) : zCT (zE tg S) D vwCl (zty κ) l yX8_readWord wsX8_readWord ({ frames := 2, cells := 0, slots := 0, locals := 44 } : Room) 0 0 [.ref (ad 70)] (zwC κ ad pT pR pX pF pB pP) (zPd (some (.int res.1)) (zwC κ ad pT pR res.2 pF pB pP)) := by
  refine zCT.of (cc := cX8_readWord) (maxL := 1) (ret := (some .boolean)) (by decide) rfl (Nat.le_of_ble_eq_true rfl) ?_
  intro X hC hR
  unfold xX8_readWord at h
  refine zV.sub (lv' := [(0, .ref (ad 70))]) [0] rfl ?_
  refine zr_aload_n (pc := 0) hC 0 rfl rfl dX8_readWord_0 ?_
  refine zr_aload_n (pc := 1) hC 0 rfl rfl dX8_readWord_1 ?_
  refine zr_iconst (pc := 2) hC zki_2 dX8_readWord_2 ?_
  obtain ⟨q1, hq1, h⟩ := zbd h
  refine zr_cVi (pc := 3) hC hEk [.int (2 : Int32)] [.ref (ad 70)] 70 1 (fun l D => tX8_readNumber hEk hq1 l D) gX8_readWord_X8_readNumber rfl rfl rfl ⟨Nat.le_of_ble_eq_true rfl, Nat.le_of_ble_eq_true rfl⟩ hyX8_readNumber (zNC (by decide)) entC_70 rfl rfl rfl (Nat.le_of_ble_eq_true rfl) ⟨Nat.le_of_ble_eq_true rfl, Nat.le_of_ble_eq_true rfl⟩ dX8_readWord_3 ?_
  obtain ⟨M2, e3, h⟩ := zle h
  refine zcp_70_4 (pc := 6) hC hinX8_readWord_X8 flX8_readWord_26 e3 dX8_readWord_6 ?_
  refine zr_aload_n (pc := 9) hC 0 rfl rfl dX8_readWord_9 ?_
  refine zcg_70_4 (pc := 10) hC hinX8_readWord_X8 flX8_readWord_26 dX8_readWord_10 ?_
  refine zr_if_lt (pc := 13) (tgt := 25) hC dX8_readWord_13 (by decide) (fun c4 => ?_) (fun c4 => ?_)
  · replace h := zip h c4
    refine zr_iconst (pc := 25) hC zki_0 dX8_readWord_25 ?_
    obtain rfl := Option.some.inj h
    exact zr_zret hC hR (by decide) ⟨rfl, rfl⟩ (Nat.le_refl _) (Nat.le_refl _) dX8_readWord_26
  · replace h := zin h c4
    refine zr_aload_n (pc := 16) hC 0 rfl rfl dX8_readWord_16 ?_
    refine zr_bipush (pc := 17) hC zkb_44 dX8_readWord_17 ?_
    obtain ⟨q5, hq5, h⟩ := zbd h
    refine zr_cVi (pc := 19) hC hEk [.int (44 : Int32)] [] 70 1 (fun l D => tX8_accepts hEk hq5 l D) gX8_readWord_X8_accepts rfl rfl rfl ⟨Nat.le_of_ble_eq_true rfl, Nat.le_of_ble_eq_true rfl⟩ hyX8_accepts (zNC (by decide)) entC_70 rfl rfl rfl (Nat.le_of_ble_eq_true rfl) ⟨Nat.le_of_ble_eq_true rfl, Nat.le_of_ble_eq_true rfl⟩ dX8_readWord_19 ?_
    refine zr_if_ne (pc := 22) (tgt := 27) hC dX8_readWord_22 (by decide) (fun c6 => ?_) (fun c6 => ?_)
    · replace h := zin h c6
      refine zr_aload_n (pc := 27) hC 0 rfl rfl dX8_readWord_27 ?_
      refine zr_aload_n (pc := 28) hC 0 rfl rfl dX8_readWord_28 ?_
      refine zr_iconst (pc := 29) hC zki_1 dX8_readWord_29 ?_
      obtain ⟨q7, hq7, h⟩ := zbd h
      refine zr_cVi (pc := 30) hC hEk [.int (1 : Int32)] [.ref (ad 70)] 70 1 (fun l D => tX8_readNumber hEk hq7 l D) gX8_readWord_X8_readNumber rfl rfl rfl ⟨Nat.le_of_ble_eq_true rfl, Nat.le_of_ble_eq_true rfl⟩ hyX8_readNumber (zNC (by decide)) entC_70 rfl rfl rfl (Nat.le_of_ble_eq_true rfl) ⟨Nat.le_of_ble_eq_true rfl, Nat.le_of_ble_eq_true rfl⟩ dX8_readWord_30 ?_
      obtain ⟨M8, e9, h⟩ := zle h
      refine zcp_70_5 (pc := 33) hC hinX8_readWord_X8 flX8_readWord_29 e9 dX8_readWord_33 ?_
      refine zr_aload_n (pc := 36) hC 0 rfl rfl dX8_readWord_36 ?_
      refine zcg_70_5 (pc := 37) hC hinX8_readWord_X8 flX8_readWord_29 dX8_readWord_37 ?_
      refine zr_if_lt (pc := 40) (tgt := 52) hC dX8_readWord_40 (by decide) (fun c10 => ?_) (fun c10 => ?_)
      · replace h := zip h c10
        refine zr_iconst (pc := 52) hC zki_0 dX8_readWord_52 ?_
        obtain rfl := Option.some.inj h
        exact zr_zret hC hR (by decide) ⟨rfl, rfl⟩ (Nat.le_refl _) (Nat.le_refl _) dX8_readWord_53
      · replace h := zin h c10
        refine zr_aload_n (pc := 43) hC 0 rfl rfl dX8_readWord_43 ?_
        refine zr_bipush (pc := 44) hC zkb_44 dX8_readWord_44 ?_
        obtain ⟨q11, hq11, h⟩ := zbd h
        refine zr_cVi (pc := 46) hC hEk [.int (44 : Int32)] [] 70 1 (fun l D => tX8_accepts hEk hq11 l D) gX8_readWord_X8_accepts rfl rfl rfl ⟨Nat.le_of_ble_eq_true rfl, Nat.le_of_ble_eq_true rfl⟩ hyX8_accepts (zNC (by decide)) entC_70 rfl rfl rfl (Nat.le_of_ble_eq_true rfl) ⟨Nat.le_of_ble_eq_true rfl, Nat.le_of_ble_eq_true rfl⟩ dX8_readWord_46 ?_
        refine zr_if_ne (pc := 49) (tgt := 54) hC dX8_readWord_49 (by decide) (fun c12 => ?_) (fun c12 => ?_)
        · replace h := zin h c12
          refine zr_aload_n (pc := 54) hC 0 rfl rfl dX8_readWord_54 ?_
          refine zr_aload_n (pc := 55) hC 0 rfl rfl dX8_readWord_55 ?_
          refine zr_iconst (pc := 56) hC zki_1 dX8_readWord_56 ?_
          obtain ⟨q13, hq13, h⟩ := zbd h
          refine zr_cVi (pc := 57) hC hEk [.int (1 : Int32)] [.ref (ad 70)] 70 1 (fun l D => tX8_readNumber hEk hq13 l D) gX8_readWord_X8_readNumber rfl rfl rfl ⟨Nat.le_of_ble_eq_true rfl, Nat.le_of_ble_eq_true rfl⟩ hyX8_readNumber (zNC (by decide)) entC_70 rfl rfl rfl (Nat.le_of_ble_eq_true rfl) ⟨Nat.le_of_ble_eq_true rfl, Nat.le_of_ble_eq_true rfl⟩ dX8_readWord_57 ?_
          obtain ⟨M14, e15, h⟩ := zle h
          refine zcp_70_6 (pc := 60) hC hinX8_readWord_X8 flX8_readWord_32 e15 dX8_readWord_60 ?_
          refine zr_aload_n (pc := 63) hC 0 rfl rfl dX8_readWord_63 ?_
          refine zcg_70_6 (pc := 64) hC hinX8_readWord_X8 flX8_readWord_32 dX8_readWord_64 ?_
          refine zr_if_lt (pc := 67) (tgt := 83) hC dX8_readWord_67 (by decide) (fun c16 => ?_) (fun c16 => ?_)
          · replace h := zip h c16
            refine zr_iconst (pc := 83) hC zki_0 dX8_readWord_83 ?_
            obtain rfl := Option.some.inj h
            exact zr_zret hC hR (by decide) ⟨rfl, rfl⟩ (Nat.le_refl _) (Nat.le_refl _) dX8_readWord_84
          · replace h := zin h c16
            refine zr_aload_n (pc := 70) hC 0 rfl rfl dX8_readWord_70 ?_
            refine zr_bipush (pc := 71) hC zkb_59 dX8_readWord_71 ?_
            obtain ⟨q17, hq17, h⟩ := zbd h
            refine zr_cVi (pc := 73) hC hEk [.int (59 : Int32)] [] 70 1 (fun l D => tX8_accepts hEk hq17 l D) gX8_readWord_X8_accepts rfl rfl rfl ⟨Nat.le_of_ble_eq_true rfl, Nat.le_of_ble_eq_true rfl⟩ hyX8_accepts (zNC (by decide)) entC_70 rfl rfl rfl (Nat.le_of_ble_eq_true rfl) ⟨Nat.le_of_ble_eq_true rfl, Nat.le_of_ble_eq_true rfl⟩ dX8_readWord_73 ?_
            refine zr_if_eq (pc := 76) (tgt := 83) hC dX8_readWord_76 (by decide) (fun c18 => ?_) (fun c18 => ?_)
            · replace h := zip h c18
              refine zr_iconst (pc := 83) hC zki_0 dX8_readWord_83 ?_
              obtain rfl := Option.some.inj h
              exact zr_zret hC hR (by decide) ⟨rfl, rfl⟩ (Nat.le_refl _) (Nat.le_refl _) dX8_readWord_84
            · replace h := zin h c18
              refine zr_iconst (pc := 79) hC zki_1 dX8_readWord_79 ?_
              refine zr_goto (pc := 80) (tgt := 84) hC dX8_readWord_80 (by decide) ?_
              obtain rfl := Option.some.inj h
              exact zr_zret hC hR (by decide) ⟨rfl, rfl⟩ (Nat.le_refl _) (Nat.le_refl _) dX8_readWord_84
        · replace h := zip h c12
          refine zr_iconst (pc := 52) hC zki_0 dX8_readWord_52 ?_
          obtain rfl := Option.some.inj h
          exact zr_zret hC hR (by decide) ⟨rfl, rfl⟩ (Nat.le_refl _) (Nat.le_refl _) dX8_readWord_53
    · replace h := zip h c6
      refine zr_iconst (pc := 25) hC zki_0 dX8_readWord_25 ?_
      obtain rfl := Option.some.inj h
      exact zr_zret hC hR (by decide) ⟨rfl, rfl⟩ (Nat.le_refl _) (Nat.le_refl _) dX8_readWord_26
/-! J0_isLatin1_aae02 -/
theorem hyJ0_isLatin1_aae02 : yJ0_isLatin1_aae02.cls = RJ0 ∧ yJ0_isLatin1_aae02.cls ≠ "java/lang/invoke/MethodHandle" ∧ yJ0_isLatin1_aae02.cls ≠ "java/lang/invoke/VarHandle" ∧ (parseMethodDescriptor yJ0_isLatin1_aae02.desc).map (fun d => d.parameters.length) = some 0 := by decide +kernel
theorem flJ0_isLatin1_aae02_15 : Cond.fieldLink RJ0 15 "java/lang/String" "coder" "B" ∈ wsJ0_isLatin1_aae02 := by decide +kernel
theorem flJ0_isLatin1_aae02_38 : Cond.fieldLink RJ0 38 "java/lang/String" "COMPACT_STRINGS" "Z" ∈ wsJ0_isLatin1_aae02 := by decide +kernel
def xJ0_isLatin1_aae02   : Option Int32 :=
  some (1 : Int32)
set_option maxHeartbeats 4000000 in
set_option maxRecDepth 100000 in
theorem tJ0_isLatin1_aae02 {κ : Nat → ClassId} {tg : Nat} {adK adV : Nat → Nat} {ws : va_W} (hEk : zEk (zE tg (zS adK adV)))   {res : Int32} (h : xJ0_isLatin1_aae02   = some res) (l : Launch) (D : va_G) : zCT (zE tg (zS adK adV)) D vwCl (zty κ) l yJ0_isLatin1_aae02 wsJ0_isLatin1_aae02 ({ frames := 0, cells := 0, slots := 0, locals := 0 } : Room) 0 0 [.ref (adK 0)] ws (zPd (some (.int res)) ws) := by
  refine zCT.of (cc := cJ0_isLatin1_aae02) (maxL := 1) (ret := (some .boolean)) (by decide) rfl (Nat.le_of_ble_eq_true rfl) ?_
  intro X hC hR
  unfold xJ0_isLatin1_aae02 at h
  refine zV.sub (lv' := [(0, .ref (adK 0))]) [0] rfl ?_
  refine zs_gets (pc := 0) hC flJ0_isLatin1_aae02_38 dJ0_isLatin1_aae02_0 ?_
  refine zr_if_eq (pc := 3) (tgt := 17) hC dJ0_isLatin1_aae02_3 (by decide) (fun c => absurd c (by decide)) (fun _ => ?_)
  refine zr_aload_n (pc := 6) hC 0 rfl rfl dJ0_isLatin1_aae02_6 ?_
  refine zs_getc (pc := 7) hC flJ0_isLatin1_aae02_15 dJ0_isLatin1_aae02_7 ?_
  refine zr_if_ne (pc := 10) (tgt := 17) hC dJ0_isLatin1_aae02_10 (by decide) (fun c => absurd c (by decide)) (fun _ => ?_)
  refine zr_iconst (pc := 13) hC zki_1 dJ0_isLatin1_aae02_13 ?_
  refine zr_goto (pc := 14) (tgt := 18) hC dJ0_isLatin1_aae02_14 (by decide) ?_
  obtain rfl := Option.some.inj h
  exact zr_zret hC hR (by decide) ⟨rfl, rfl⟩ (Nat.le_refl _) (Nat.le_refl _) dJ0_isLatin1_aae02_18
/-! J0_coder_7d493 -/
theorem hyJ0_coder_7d493 : yJ0_coder_7d493.cls = RJ0 ∧ yJ0_coder_7d493.cls ≠ "java/lang/invoke/MethodHandle" ∧ yJ0_coder_7d493.cls ≠ "java/lang/invoke/VarHandle" ∧ (parseMethodDescriptor yJ0_coder_7d493.desc).map (fun d => d.parameters.length) = some 0 := by decide +kernel
theorem flJ0_coder_7d493_15 : Cond.fieldLink RJ0 15 "java/lang/String" "coder" "B" ∈ wsJ0_coder_7d493 := by decide +kernel
theorem flJ0_coder_7d493_38 : Cond.fieldLink RJ0 38 "java/lang/String" "COMPACT_STRINGS" "Z" ∈ wsJ0_coder_7d493 := by decide +kernel
def xJ0_coder_7d493   : Option Int32 :=
  some (0 : Int32)
set_option maxHeartbeats 4000000 in
set_option maxRecDepth 100000 in
theorem tJ0_coder_7d493 {κ : Nat → ClassId} {tg : Nat} {adK adV : Nat → Nat} {ws : va_W} (hEk : zEk (zE tg (zS adK adV)))   {res : Int32} (h : xJ0_coder_7d493   = some res) (l : Launch) (D : va_G) : zCT (zE tg (zS adK adV)) D vwCl (zty κ) l yJ0_coder_7d493 wsJ0_coder_7d493 ({ frames := 0, cells := 0, slots := 0, locals := 0 } : Room) 0 0 [.ref (adK 0)] ws (zPd (some (.int res)) ws) := by
  refine zCT.of (cc := cJ0_coder_7d493) (maxL := 1) (ret := (some .byte)) (by decide) rfl (Nat.le_of_ble_eq_true rfl) ?_
  intro X hC hR
  unfold xJ0_coder_7d493 at h
  refine zV.sub (lv' := [(0, .ref (adK 0))]) [0] rfl ?_
  refine zs_gets (pc := 0) hC flJ0_coder_7d493_38 dJ0_coder_7d493_0 ?_
  refine zr_if_eq (pc := 3) (tgt := 13) hC dJ0_coder_7d493_3 (by decide) (fun c => absurd c (by decide)) (fun _ => ?_)
  refine zr_aload_n (pc := 6) hC 0 rfl rfl dJ0_coder_7d493_6 ?_
  refine zs_getc (pc := 7) hC flJ0_coder_7d493_15 dJ0_coder_7d493_7 ?_
  refine zr_goto (pc := 10) (tgt := 14) hC dJ0_coder_7d493_10 (by decide) ?_
  obtain rfl := Option.some.inj h
  exact zr_bret hC hR (by decide) ⟨rfl, rfl⟩ (Nat.le_refl _) (Nat.le_refl _) dJ0_coder_7d493_14
/-! J0_length_8abf5 -/
theorem hyJ0_length_8abf5 : yJ0_length_8abf5.cls = RJ0 ∧ yJ0_length_8abf5.cls ≠ "java/lang/invoke/MethodHandle" ∧ yJ0_length_8abf5.cls ≠ "java/lang/invoke/VarHandle" ∧ (parseMethodDescriptor yJ0_length_8abf5.desc).map (fun d => d.parameters.length) = some 0 := by decide +kernel
theorem flJ0_length_8abf5_9 : Cond.fieldLink RJ0 9 "java/lang/String" "value" "[B" ∈ wsJ0_length_8abf5 := by decide +kernel
def xJ0_length_8abf5   : Option Int32 :=
  (xJ0_coder_7d493 ).bind fun q1 =>
  some ((6 : Int32) >>> (q1 &&& 31))
set_option maxHeartbeats 4000000 in
set_option maxRecDepth 100000 in
theorem tJ0_length_8abf5 {κ : Nat → ClassId} {tg : Nat} {adK adV : Nat → Nat} {ws : va_W} (hEk : zEk (zE tg (zS adK adV)))   {res : Int32} (h : xJ0_length_8abf5   = some res) (l : Launch) (D : va_G) : zCT (zE tg (zS adK adV)) D vwCl (zty κ) l yJ0_length_8abf5 wsJ0_length_8abf5 ({ frames := 1, cells := 0, slots := 0, locals := 20 } : Room) 0 0 [.ref (adK 0)] ws (zPd (some (.int res)) ws) := by
  refine zCT.of (cc := cJ0_length_8abf5) (maxL := 1) (ret := (some .int)) (by decide) rfl (Nat.le_of_ble_eq_true rfl) ?_
  intro X hC hR
  unfold xJ0_length_8abf5 at h
  refine zV.sub (lv' := [(0, .ref (adK 0))]) [0] rfl ?_
  refine zr_aload_n (pc := 0) hC 0 rfl rfl dJ0_length_8abf5_0 ?_
  refine zs_getv (pc := 1) hC flJ0_length_8abf5_9 dJ0_length_8abf5_1 ?_
  refine zs_len (pc := 4) hC dJ0_length_8abf5_4 ?_
  refine zr_aload_n (pc := 5) hC 0 rfl rfl dJ0_length_8abf5_5 ?_
  obtain ⟨q1, hq1, h⟩ := zbd h
  refine zr_cTi (pc := 6) hC hEk [] [.int (6 : Int32)] 0 (fun l D => tJ0_coder_7d493 hEk hq1 l D) gJ0_length_8abf5_J0_coder_7d493 rfl rfl rfl ⟨Nat.le_of_ble_eq_true rfl, Nat.le_of_ble_eq_true rfl⟩ hyJ0_coder_7d493 rfl rfl (Nat.le_of_ble_eq_true rfl) ⟨Nat.le_of_ble_eq_true rfl, Nat.le_of_ble_eq_true rfl⟩ dJ0_length_8abf5_6 ?_
  refine zr_ishr (pc := 9) hC dJ0_length_8abf5_9 ?_
  obtain rfl := Option.some.inj h
  exact zr_iret hC hR ⟨rfl, rfl⟩ (Nat.le_refl _) (Nat.le_refl _) dJ0_length_8abf5_10
/-! J1_canEncode_9a6ad -/
theorem hyJ1_canEncode_9a6ad : yJ1_canEncode_9a6ad.cls ≠ "java/lang/invoke/MethodHandle" ∧ yJ1_canEncode_9a6ad.cls ≠ "java/lang/invoke/VarHandle" ∧ (parseMethodDescriptor yJ1_canEncode_9a6ad.desc).map (fun d => d.parameters.length) = some 1 := by decide +kernel
def xJ1_canEncode_9a6ad  (v0 : Int32) : Option Int32 :=
  if v0 < 0 then
  (some (0 : Int32))
  else
  if (255 : Int32) < v0 then
  (some (0 : Int32))
  else
  some (1 : Int32)
set_option maxHeartbeats 4000000 in
set_option maxRecDepth 100000 in
theorem tJ1_canEncode_9a6ad {κ : Nat → ClassId} {tg : Nat} {adK adV : Nat → Nat} {ws : va_W} (hEk : zEk (zE tg (zS adK adV)))  {v0 : Int32} {res : Int32} (h : xJ1_canEncode_9a6ad  v0 = some res) (l : Launch) (D : va_G) : zCT (zE tg (zS adK adV)) D vwCl (zty κ) l yJ1_canEncode_9a6ad wsJ1_canEncode_9a6ad ({ frames := 0, cells := 0, slots := 0, locals := 0 } : Room) 0 0 [.int v0] ws (zPd (some (.int res)) ws) := by
  refine zCT.of (cc := cJ1_canEncode_9a6ad) (maxL := 1) (ret := (some .boolean)) (by decide) rfl (Nat.le_of_ble_eq_true rfl) ?_
  intro X hC hR
  unfold xJ1_canEncode_9a6ad at h
  refine zV.sub (lv' := [(0, .int v0)]) [0] rfl ?_
  refine zr_iload_n (pc := 0) hC 0 rfl rfl dJ1_canEncode_9a6ad_0 ?_
  refine zr_if_lt (pc := 1) (tgt := 15) hC dJ1_canEncode_9a6ad_1 (by decide) (fun c1 => ?_) (fun c1 => ?_)
  · replace h := zip h c1
    refine zr_iconst (pc := 15) hC zki_0 dJ1_canEncode_9a6ad_15 ?_
    obtain rfl := Option.some.inj h
    exact zr_zret hC hR (by decide) ⟨rfl, rfl⟩ (Nat.le_refl _) (Nat.le_refl _) dJ1_canEncode_9a6ad_16
  · replace h := zin h c1
    refine zr_iload_n (pc := 4) hC 0 rfl rfl dJ1_canEncode_9a6ad_4 ?_
    refine zr_sipush (pc := 5) hC zks_255 dJ1_canEncode_9a6ad_5 ?_
    refine zr_icmp_gt (pc := 8) (tgt := 15) hC dJ1_canEncode_9a6ad_8 (by decide) (fun c2 => ?_) (fun c2 => ?_)
    · replace h := zip h c2
      refine zr_iconst (pc := 15) hC zki_0 dJ1_canEncode_9a6ad_15 ?_
      obtain rfl := Option.some.inj h
      exact zr_zret hC hR (by decide) ⟨rfl, rfl⟩ (Nat.le_refl _) (Nat.le_refl _) dJ1_canEncode_9a6ad_16
    · replace h := zin h c2
      refine zr_iconst (pc := 11) hC zki_1 dJ1_canEncode_9a6ad_11 ?_
      refine zr_goto (pc := 12) (tgt := 16) hC dJ1_canEncode_9a6ad_12 (by decide) ?_
      obtain rfl := Option.some.inj h
      exact zr_zret hC hR (by decide) ⟨rfl, rfl⟩ (Nat.le_refl _) (Nat.le_refl _) dJ1_canEncode_9a6ad_16
/-! J1_indexOfChar_4cfef -/
theorem hyJ1_indexOfChar_4cfef : yJ1_indexOfChar_4cfef.cls ≠ "java/lang/invoke/MethodHandle" ∧ yJ1_indexOfChar_4cfef.cls ≠ "java/lang/invoke/VarHandle" ∧ (parseMethodDescriptor yJ1_indexOfChar_4cfef.desc).map (fun d => d.parameters.length) = some 4 := by decide +kernel
def xJ1_indexOfChar_4cfef_L7 (v3 : Int32) (v4 : Int32) (w0 : Int32) : Option (Int32 ⊕ (Int32 ⊕ Unit)) :=
  if v3 ≤ w0 then
  (some (.inr (.inr ())))
  else
  if (w0 < 0 ∨ 6 ≤ w0.toNatClampNeg) then none else
  if (zKB w0) = v4 then
  (some (.inr (.inl w0)))
  else
  some (.inl (w0 + (1 : Int32)))
set_option maxHeartbeats 4000000 in
set_option maxRecDepth 100000 in
theorem tJ1_indexOfChar_4cfef_L7 {κ : Nat → ClassId} {tg : Nat} {adK adV : Nat → Nat} {ws : va_W} {X : zX} {v3 : Int32} {v4 : Int32} {w0 : Int32} {r : (Int32 ⊕ (Int32 ⊕ Unit))} (hC : zC X cJ1_indexOfChar_4cfef RJ1 wsJ1_indexOfChar_4cfef vwCl (zty κ) (zE tg (zS adK adV)) 6 ({ frames := 0, cells := 0, slots := 0, locals := 0 } : Room)) (hEk : zEk (zE tg (zS adK adV))) (hin : ∀ (x0' : Int32), r = .inl x0' → zV X 0 0 ws [(0, .ref (adV 0)), (3, .int v3), (4, .int v4), (5, .int x0')] [] 7) (hout0 : ∀ (x0' : Int32), r = .inr (.inl x0') → zV X 0 0 ws [(5, .int x0')] [] 22) (hout1 : r = .inr (.inr ()) → zV X 0 0 ws [] [] 31) (h : xJ1_indexOfChar_4cfef_L7  v3 v4 w0 = some r) : zV X 0 0 ws [(0, .ref (adV 0)), (3, .int v3), (4, .int v4), (5, .int w0)] [] 7 := by
  unfold xJ1_indexOfChar_4cfef_L7 at h
  refine zr_iload (pc := 7) hC 3 rfl dJ1_indexOfChar_4cfef_7 ?_
  refine zr_iload_n (pc := 9) hC 1 rfl rfl dJ1_indexOfChar_4cfef_9 ?_
  refine zr_icmp_ge (pc := 10) (tgt := 31) hC dJ1_indexOfChar_4cfef_10 (by decide) (fun c1 => ?_) (fun c1 => ?_)
  · replace h := zip h c1
    obtain rfl := Option.some.inj h
    exact zV.sub (lv' := []) [] rfl (hout1  rfl)
  · replace h := zin h c1
    refine zr_aload_n (pc := 13) hC 0 rfl rfl dJ1_indexOfChar_4cfef_13 ?_
    refine zr_iload (pc := 14) hC 3 rfl dJ1_indexOfChar_4cfef_14 ?_
    obtain ⟨i2, h⟩ := zgd h
    refine zs_ld (pc := 16) hC i2 dJ1_indexOfChar_4cfef_16 ?_
    refine zr_iload (pc := 17) hC 2 rfl dJ1_indexOfChar_4cfef_17 ?_
    refine zr_icmp_ne (pc := 19) (tgt := 25) hC dJ1_indexOfChar_4cfef_19 (by decide) (fun c3 => ?_) (fun c3 => ?_)
    · replace h := zin h c3
      refine zr_iinc (pc := 25) (k := 3) (lv' := [(5, .int (w0 + (1 : Int32))), (0, .ref (adV 0)), (3, .int v3), (4, .int v4)]) hC zki_1 (by decide) rfl rfl dJ1_indexOfChar_4cfef_25 ?_
      refine zr_goto (pc := 28) (tgt := 7) hC dJ1_indexOfChar_4cfef_28 (by decide) ?_
      obtain rfl := Option.some.inj h
      exact zV.sub (lv' := [(0, .ref (adV 0)), (3, .int v3), (4, .int v4), (5, .int (w0 + (1 : Int32)))]) [1, 2, 3, 0] rfl (hin (w0 + (1 : Int32)) rfl)
    · replace h := zip h c3
      obtain rfl := Option.some.inj h
      exact zV.sub (lv' := [(5, .int w0)]) [3] rfl (hout0 w0 rfl)
def xJ1_indexOfChar_4cfef  (v1 : Int32) (v2 : Int32) (v3 : Int32) : Option Int32 :=
  (x_it (fun a9 => xJ1_indexOfChar_4cfef_L7 v3 v1.toInt8.toInt32 a9) zFU v2).bind fun q1 =>
  Sum.elim (fun b2 => some b2) (fun c3 => some (-1 : Int32)) q1
set_option maxHeartbeats 4000000 in
set_option maxRecDepth 100000 in
theorem tJ1_indexOfChar_4cfef {κ : Nat → ClassId} {tg : Nat} {adK adV : Nat → Nat} {ws : va_W} (hEk : zEk (zE tg (zS adK adV)))  {v1 : Int32} {v2 : Int32} {v3 : Int32} {res : Int32} (h : xJ1_indexOfChar_4cfef  v1 v2 v3 = some res) (l : Launch) (D : va_G) : zCT (zE tg (zS adK adV)) D vwCl (zty κ) l yJ1_indexOfChar_4cfef wsJ1_indexOfChar_4cfef ({ frames := 0, cells := 0, slots := 0, locals := 0 } : Room) 0 0 [.ref (adV 0), .int v1, .int v2, .int v3] ws (zPd (some (.int res)) ws) := by
  refine zCT.of (cc := cJ1_indexOfChar_4cfef) (maxL := 6) (ret := (some .int)) (by decide) rfl (Nat.le_of_ble_eq_true rfl) ?_
  intro X hC hR
  unfold xJ1_indexOfChar_4cfef at h
  refine zV.sub (lv' := [(0, .ref (adV 0)), (1, .int v1), (2, .int v2), (3, .int v3)]) [0, 1, 2, 3] rfl ?_
  refine zr_iload_n (pc := 0) hC 1 rfl rfl dJ1_indexOfChar_4cfef_0 ?_
  refine zr_i2b (pc := 1) hC dJ1_indexOfChar_4cfef_1 ?_
  refine zr_istore (pc := 2) (lv' := [(4, .int v1.toInt8.toInt32), (0, .ref (adV 0)), (1, .int v1), (2, .int v2), (3, .int v3)]) hC (by decide) rfl dJ1_indexOfChar_4cfef_2 ?_
  refine zr_iload_n (pc := 4) hC 3 rfl rfl dJ1_indexOfChar_4cfef_4 ?_
  refine zr_istore (pc := 5) (lv' := [(5, .int v2), (4, .int v1.toInt8.toInt32), (0, .ref (adV 0)), (1, .int v1), (2, .int v2), (3, .int v3)]) hC (by decide) rfl dJ1_indexOfChar_4cfef_5 ?_
  obtain ⟨q1, hq1, h⟩ := zbd h
  refine zV.sub (lv' := [(0, .ref (adV 0)), (3, .int v3), (4, .int v1.toInt8.toInt32), (5, .int v2)]) [2, 5, 1, 0] rfl ?_
  refine zit1 (Wp := fun (y0 : Int32) => zV X 0 0 ws [(0, .ref (adV 0)), (3, .int v3), (4, .int v1.toInt8.toInt32), (5, .int y0)] [] 7) (Ex := fun (b9 : (Int32 ⊕ Unit)) => Sum.elim (fun (b0 : Int32) => zV X 0 0 ws [(5, .int b0)] [] 22) (fun (c0 : Unit) => zV X 0 0 ws [] [] 31) b9) (fun y0 r9 hr hin hout => tJ1_indexOfChar_4cfef_L7 hC hEk hin (fun z0 e9 => hout (.inl z0) e9) (fun e9 => hout (.inr ()) e9) hr) zFU v2 q1 hq1 ?_
  rcases q1 with b2 | c3
  · replace h := zel h
    show zV X 0 0 ws [(5, .int b2)] [] 22
    refine zr_iload (pc := 22) hC 0 rfl dJ1_indexOfChar_4cfef_22 ?_
    obtain rfl := Option.some.inj h
    exact zr_iret hC hR ⟨rfl, rfl⟩ (Nat.le_refl _) (Nat.le_refl _) dJ1_indexOfChar_4cfef_24
  · replace h := zer h
    show zV X 0 0 ws [] [] 31
    refine zr_iconst (pc := 31) hC zki_m1 dJ1_indexOfChar_4cfef_31 ?_
    obtain rfl := Option.some.inj h
    exact zr_iret hC hR ⟨rfl, rfl⟩ (Nat.le_refl _) (Nat.le_refl _) dJ1_indexOfChar_4cfef_32
