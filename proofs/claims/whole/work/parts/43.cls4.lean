/-! X8_readAnswers -/
theorem hyX8_readAnswers : yX8_readAnswers.cls = RX8 ∧ yX8_readAnswers.cls ≠ "java/lang/invoke/MethodHandle" ∧ yX8_readAnswers.cls ≠ "java/lang/invoke/VarHandle" ∧ (parseMethodDescriptor yX8_readAnswers.desc).map (fun d => d.parameters.length) = some 0 := by decide +kernel
theorem flX8_readAnswers_19 : Cond.fieldLink RX8 19 "BeforeTheEnd$Text" "at" "I" ∈ wsX8_readAnswers := by decide +kernel
theorem flX8_readAnswers_44 : Cond.fieldLink RX8 44 "BeforeTheEnd$Text" "knows" "I" ∈ wsX8_readAnswers := by decide +kernel
theorem flX8_readAnswers_47 : Cond.fieldLink RX8 47 "BeforeTheEnd$Text" "toldTwice" "Z" ∈ wsX8_readAnswers := by decide +kernel
theorem hinX8_readAnswers_X8 : ∀ w ∈ wsX80, w ∈ wsX8_readAnswers := fun _ h => List.mem_cons_of_mem _ (List.mem_append_right _ h)
def xX8_readAnswers_L12  (a : (zM × Int32)) : Option ((zM × Int32) ⊕ (zM × Int32)) :=
  if (9 : Int32) ≤ a.2 then
  (some (.inr (a.1, a.2)))
  else
  (xX8_here a.1).bind fun q2 =>
  if q2 < (49 : Int32) then
  (some (.inr (a.1, a.2)))
  else
  (xX8_here a.1).bind fun q4 =>
  if (57 : Int32) < q4 then
  (some (.inr (a.1, a.2)))
  else
  (xX8_here a.1).bind fun q6 =>
  zlet ((1 : Int32) <<< ((q6 - (48 : Int32)) &&& 31)) fun z7 =>
  if ((a.1.1 70 10) &&& z7) = 0 then
  (zlet (zsi a.1 70 10 ((a.1.1 70 10) ||| z7)) fun M10 =>
  zlet (zsi M10 70 2 ((M10.1 70 2) + (1 : Int32))) fun M12 =>
  some (.inl (M12, (a.2 + (1 : Int32)))))
  else
  zlet (zsi a.1 70 11 (1 : Int32)) fun M14 =>
  zlet (zsi M14 70 10 ((M14.1 70 10) ||| z7)) fun M16 =>
  zlet (zsi M16 70 2 ((M16.1 70 2) + (1 : Int32))) fun M18 =>
  some (.inl (M18, (a.2 + (1 : Int32))))
set_option maxHeartbeats 4000000 in
set_option maxRecDepth 100000 in
theorem tX8_readAnswers_L12 {κ : Nat → ClassId} {tg : Nat} {S : zEn} {ad : Nat → Nat} {X : zX} {pT : zM} {pR : zM} {pX : zM} {pF : zM} {pB : zM} {pP : zP} {a : (zM × Int32)} {r : ((zM × Int32) ⊕ (zM × Int32))} (hC : zC X cX8_readAnswers RX8 wsX8_readAnswers vwCl (zty κ) (zE tg S) 3 ({ frames := 1, cells := 0, slots := 0, locals := 20 } : Room)) (hEk : zEk (zE tg S)) (hin : ∀ a', r = .inl a' → zV X 0 0 (zwC κ ad pT pR a'.1 pF pB pP) [(0, .ref (ad 70)), (1, .int a'.2)] [] 12) (hout : ∀ b', r = .inr b' → zV X 0 0 (zwC κ ad pT pR b'.1 pF pB pP) [(1, .int b'.2)] [] 86) (h : xX8_readAnswers_L12   a = some r) : zV X 0 0 (zwC κ ad pT pR a.1 pF pB pP) [(0, .ref (ad 70)), (1, .int a.2)] [] 12 := by
  unfold xX8_readAnswers_L12 at h
  refine zr_iload_n (pc := 12) hC 1 rfl rfl dX8_readAnswers_12 ?_
  refine zr_bipush (pc := 13) hC zkb_9 dX8_readAnswers_13 ?_
  refine zr_icmp_ge (pc := 15) (tgt := 86) hC dX8_readAnswers_15 (by decide) (fun c1 => ?_) (fun c1 => ?_)
  · replace h := zip h c1
    obtain rfl := Option.some.inj h
    exact zV.sub (lv' := [(1, .int a.2)]) [1] rfl (hout _ rfl)
  · replace h := zin h c1
    refine zr_aload_n (pc := 18) hC 0 rfl rfl dX8_readAnswers_18 ?_
    obtain ⟨q2, hq2, h⟩ := zbd h
    refine zr_cVi (pc := 19) hC hEk [] [] 70 0 (fun l D => tX8_here hEk hq2 l D) gX8_readAnswers_X8_here rfl rfl rfl ⟨Nat.le_of_ble_eq_true rfl, Nat.le_of_ble_eq_true rfl⟩ hyX8_here (zNC (by decide)) entC_70 rfl rfl rfl (Nat.le_of_ble_eq_true rfl) ⟨Nat.le_of_ble_eq_true rfl, Nat.le_of_ble_eq_true rfl⟩ dX8_readAnswers_19 ?_
    refine zr_bipush (pc := 22) hC zkb_49 dX8_readAnswers_22 ?_
    refine zr_icmp_lt (pc := 24) (tgt := 86) hC dX8_readAnswers_24 (by decide) (fun c3 => ?_) (fun c3 => ?_)
    · replace h := zip h c3
      obtain rfl := Option.some.inj h
      exact zV.sub (lv' := [(1, .int a.2)]) [1] rfl (hout _ rfl)
    · replace h := zin h c3
      refine zr_aload_n (pc := 27) hC 0 rfl rfl dX8_readAnswers_27 ?_
      obtain ⟨q4, hq4, h⟩ := zbd h
      refine zr_cVi (pc := 28) hC hEk [] [] 70 0 (fun l D => tX8_here hEk hq4 l D) gX8_readAnswers_X8_here rfl rfl rfl ⟨Nat.le_of_ble_eq_true rfl, Nat.le_of_ble_eq_true rfl⟩ hyX8_here (zNC (by decide)) entC_70 rfl rfl rfl (Nat.le_of_ble_eq_true rfl) ⟨Nat.le_of_ble_eq_true rfl, Nat.le_of_ble_eq_true rfl⟩ dX8_readAnswers_28 ?_
      refine zr_bipush (pc := 31) hC zkb_57 dX8_readAnswers_31 ?_
      refine zr_icmp_gt (pc := 33) (tgt := 86) hC dX8_readAnswers_33 (by decide) (fun c5 => ?_) (fun c5 => ?_)
      · replace h := zip h c5
        obtain rfl := Option.some.inj h
        exact zV.sub (lv' := [(1, .int a.2)]) [1] rfl (hout _ rfl)
      · replace h := zin h c5
        refine zr_iconst (pc := 36) hC zki_1 dX8_readAnswers_36 ?_
        refine zr_aload_n (pc := 37) hC 0 rfl rfl dX8_readAnswers_37 ?_
        obtain ⟨q6, hq6, h⟩ := zbd h
        refine zr_cVi (pc := 38) hC hEk [] [.int (1 : Int32)] 70 0 (fun l D => tX8_here hEk hq6 l D) gX8_readAnswers_X8_here rfl rfl rfl ⟨Nat.le_of_ble_eq_true rfl, Nat.le_of_ble_eq_true rfl⟩ hyX8_here (zNC (by decide)) entC_70 rfl rfl rfl (Nat.le_of_ble_eq_true rfl) ⟨Nat.le_of_ble_eq_true rfl, Nat.le_of_ble_eq_true rfl⟩ dX8_readAnswers_38 ?_
        refine zr_bipush (pc := 41) hC zkb_48 dX8_readAnswers_41 ?_
        refine zr_isub (pc := 43) hC dX8_readAnswers_43 ?_
        refine zr_ishl (pc := 44) hC dX8_readAnswers_44 ?_
        obtain ⟨z7, e8, h⟩ := zle h
        refine zr_topi e8 ?_
        refine zr_istore_n (pc := 45) (lv' := [(2, .int z7), (0, .ref (ad 70)), (1, .int a.2)]) hC rfl (by decide) rfl dX8_readAnswers_45 ?_
        refine zr_aload_n (pc := 46) hC 1 rfl rfl dX8_readAnswers_46 ?_
        refine zcg_70_10 (pc := 47) hC hinX8_readAnswers_X8 flX8_readAnswers_44 dX8_readAnswers_47 ?_
        refine zr_iload_n (pc := 50) hC 0 rfl rfl dX8_readAnswers_50 ?_
        refine zr_iand (pc := 51) hC dX8_readAnswers_51 ?_
        refine zr_if_eq (pc := 52) (tgt := 60) hC dX8_readAnswers_52 (by decide) (fun c9 => ?_) (fun c9 => ?_)
        · replace h := zip h c9
          refine zr_aload_n (pc := 60) hC 1 rfl rfl dX8_readAnswers_60 ?_
          refine zr_dup (pc := 61) hC rfl dX8_readAnswers_61 ?_
          refine zcg_70_10 (pc := 62) hC hinX8_readAnswers_X8 flX8_readAnswers_44 dX8_readAnswers_62 ?_
          refine zr_iload_n (pc := 65) hC 0 rfl rfl dX8_readAnswers_65 ?_
          refine zr_ior (pc := 66) hC dX8_readAnswers_66 ?_
          obtain ⟨M10, e11, h⟩ := zle h
          refine zcp_70_10 (pc := 67) hC hinX8_readAnswers_X8 flX8_readAnswers_44 e11 dX8_readAnswers_67 ?_
          refine zr_iinc (pc := 70) (k := 2) (lv' := [(1, .int (a.2 + (1 : Int32))), (2, .int z7), (0, .ref (ad 70))]) hC zki_1 (by decide) rfl rfl dX8_readAnswers_70 ?_
          refine zr_aload_n (pc := 73) hC 2 rfl rfl dX8_readAnswers_73 ?_
          refine zr_dup (pc := 74) hC rfl dX8_readAnswers_74 ?_
          refine zcg_70_2 (pc := 75) hC hinX8_readAnswers_X8 flX8_readAnswers_19 dX8_readAnswers_75 ?_
          refine zr_iconst (pc := 78) hC zki_1 dX8_readAnswers_78 ?_
          refine zr_iadd (pc := 79) hC dX8_readAnswers_79 ?_
          obtain ⟨M12, e13, h⟩ := zle h
          refine zcp_70_2 (pc := 80) hC hinX8_readAnswers_X8 flX8_readAnswers_19 e13 dX8_readAnswers_80 ?_
          refine zr_goto (pc := 83) (tgt := 12) hC dX8_readAnswers_83 (by decide) ?_
          obtain rfl := Option.some.inj h
          exact zV.sub (lv' := [(0, .ref (ad 70)), (1, .int (a.2 + (1 : Int32)))]) [2, 0] rfl (hin _ rfl)
        · replace h := zin h c9
          refine zr_aload_n (pc := 55) hC 1 rfl rfl dX8_readAnswers_55 ?_
          refine zr_iconst (pc := 56) hC zki_1 dX8_readAnswers_56 ?_
          obtain ⟨M14, e15, h⟩ := zle h
          refine zcp_70_11 (pc := 57) hC hinX8_readAnswers_X8 flX8_readAnswers_47 (by decide) e15 dX8_readAnswers_57 ?_
          refine zr_aload_n (pc := 60) hC 1 rfl rfl dX8_readAnswers_60 ?_
          refine zr_dup (pc := 61) hC rfl dX8_readAnswers_61 ?_
          refine zcg_70_10 (pc := 62) hC hinX8_readAnswers_X8 flX8_readAnswers_44 dX8_readAnswers_62 ?_
          refine zr_iload_n (pc := 65) hC 0 rfl rfl dX8_readAnswers_65 ?_
          refine zr_ior (pc := 66) hC dX8_readAnswers_66 ?_
          obtain ⟨M16, e17, h⟩ := zle h
          refine zcp_70_10 (pc := 67) hC hinX8_readAnswers_X8 flX8_readAnswers_44 e17 dX8_readAnswers_67 ?_
          refine zr_iinc (pc := 70) (k := 2) (lv' := [(1, .int (a.2 + (1 : Int32))), (2, .int z7), (0, .ref (ad 70))]) hC zki_1 (by decide) rfl rfl dX8_readAnswers_70 ?_
          refine zr_aload_n (pc := 73) hC 2 rfl rfl dX8_readAnswers_73 ?_
          refine zr_dup (pc := 74) hC rfl dX8_readAnswers_74 ?_
          refine zcg_70_2 (pc := 75) hC hinX8_readAnswers_X8 flX8_readAnswers_19 dX8_readAnswers_75 ?_
          refine zr_iconst (pc := 78) hC zki_1 dX8_readAnswers_78 ?_
          refine zr_iadd (pc := 79) hC dX8_readAnswers_79 ?_
          obtain ⟨M18, e19, h⟩ := zle h
          refine zcp_70_2 (pc := 80) hC hinX8_readAnswers_X8 flX8_readAnswers_19 e19 dX8_readAnswers_80 ?_
          refine zr_goto (pc := 83) (tgt := 12) hC dX8_readAnswers_83 (by decide) ?_
          obtain rfl := Option.some.inj h
          exact zV.sub (lv' := [(0, .ref (ad 70)), (1, .int (a.2 + (1 : Int32)))]) [2, 0] rfl (hin _ rfl)
def xX8_readAnswers (pX : zM)  : Option (Int32 × zM) :=
  zlet (zsi pX 70 10 (0 : Int32)) fun M1 =>
  zlet (zsi M1 70 11 (0 : Int32)) fun M3 =>
  (x_it (xX8_readAnswers_L12 ) zFU (M3, (0 : Int32))).bind fun q5 =>
  if q5.2 ≤ 0 then
  (some ((0 : Int32), q5.1))
  else
  some ((1 : Int32), q5.1)
set_option maxHeartbeats 4000000 in
set_option maxRecDepth 100000 in
theorem tX8_readAnswers {κ : Nat → ClassId} {tg : Nat} {S : zEn} {ad : Nat → Nat} (hEk : zEk (zE tg S)) {pT : zM} {pR : zM} {pX : zM} {pF : zM} {pB : zM} {pP : zP}  {res : (Int32 × zM)} (h : xX8_readAnswers pX  = some res) (l : Launch) (D : va_G) : zCT (zE tg S) D vwCl (zty κ) l yX8_readAnswers wsX8_readAnswers ({ frames := 1, cells := 0, slots := 0, locals := 20 } : Room) 0 0 [.ref (ad 70)] (zwC κ ad pT pR pX pF pB pP) (zPd (some (.int res.1)) (zwC κ ad pT pR res.2 pF pB pP)) := by
  refine zCT.of (cc := cX8_readAnswers) (maxL := 3) (ret := (some .boolean)) (by decide) rfl (Nat.le_of_ble_eq_true rfl) ?_
  intro X hC hR
  unfold xX8_readAnswers at h
  refine zV.sub (lv' := [(0, .ref (ad 70))]) [0] rfl ?_
  refine zr_aload_n (pc := 0) hC 0 rfl rfl dX8_readAnswers_0 ?_
  refine zr_iconst (pc := 1) hC zki_0 dX8_readAnswers_1 ?_
  obtain ⟨M1, e2, h⟩ := zle h
  refine zcp_70_10 (pc := 2) hC hinX8_readAnswers_X8 flX8_readAnswers_44 e2 dX8_readAnswers_2 ?_
  refine zr_aload_n (pc := 5) hC 0 rfl rfl dX8_readAnswers_5 ?_
  refine zr_iconst (pc := 6) hC zki_0 dX8_readAnswers_6 ?_
  obtain ⟨M3, e4, h⟩ := zle h
  refine zcp_70_11 (pc := 7) hC hinX8_readAnswers_X8 flX8_readAnswers_47 (by decide) e4 dX8_readAnswers_7 ?_
  refine zr_iconst (pc := 10) hC zki_0 dX8_readAnswers_10 ?_
  refine zr_istore_n (pc := 11) (lv' := [(1, .int (0 : Int32)), (0, .ref (ad 70))]) hC rfl (by decide) rfl dX8_readAnswers_11 ?_
  obtain ⟨q5, hq5, h⟩ := zbd h
  refine zV.sub (lv' := [(0, .ref (ad 70)), (1, .int (0 : Int32))]) [1, 0] rfl ?_
  refine zit (Wp := fun (a : (zM × Int32)) => zV X 0 0 (zwC κ ad pT pR a.1 pF pB pP) [(0, .ref (ad 70)), (1, .int a.2)] [] 12) (Ex := fun (b : (zM × Int32)) => zV X 0 0 (zwC κ ad pT pR b.1 pF pB pP) [(1, .int b.2)] [] 86) (fun a r hr hin hout => tX8_readAnswers_L12 hC hEk hin hout hr) zFU (M3, (0 : Int32)) q5 hq5 ?_
  show zV X 0 0 (zwC κ ad pT pR q5.1 pF pB pP) [(1, .int q5.2)] [] 86
  refine zr_iload_n (pc := 86) hC 0 rfl rfl dX8_readAnswers_86 ?_
  refine zr_if_le (pc := 87) (tgt := 94) hC dX8_readAnswers_87 (by decide) (fun c6 => ?_) (fun c6 => ?_)
  · replace h := zip h c6
    refine zr_iconst (pc := 94) hC zki_0 dX8_readAnswers_94 ?_
    obtain rfl := Option.some.inj h
    exact zr_zret hC hR (by decide) ⟨rfl, rfl⟩ (Nat.le_refl _) (Nat.le_refl _) dX8_readAnswers_95
  · replace h := zin h c6
    refine zr_iconst (pc := 90) hC zki_1 dX8_readAnswers_90 ?_
    refine zr_goto (pc := 91) (tgt := 95) hC dX8_readAnswers_91 (by decide) ?_
    obtain rfl := Option.some.inj h
    exact zr_zret hC hR (by decide) ⟨rfl, rfl⟩ (Nat.le_refl _) (Nat.le_refl _) dX8_readAnswers_95
/-! X10_size -/
theorem hyX10_size : yX10_size.cls = RX10 ∧ yX10_size.cls ≠ "java/lang/invoke/MethodHandle" ∧ yX10_size.cls ≠ "java/lang/invoke/VarHandle" ∧ (parseMethodDescriptor yX10_size.desc).map (fun d => d.parameters.length) = some 0 := by decide +kernel
theorem flX10_size_54 : Cond.fieldLink RX10 54 "BeforeTheEnd$Tree" "count" "I" ∈ wsX10_size := by decide +kernel
theorem hinX10_size_X10 : ∀ w ∈ wsX100, w ∈ wsX10_size := fun _ h => List.mem_cons_of_mem _ (List.mem_append_right _ h)
def xX10_size (pT : zM)  : Option Int32 :=
  some (pT.1 0 13)
set_option maxHeartbeats 4000000 in
set_option maxRecDepth 100000 in
theorem tX10_size {κ : Nat → ClassId} {tg : Nat} {S : zEn} {ad : Nat → Nat} (hEk : zEk (zE tg S)) {pT : zM} {pR : zM} {pX : zM} {pF : zM} {pB : zM} {pP : zP}  {res : Int32} (h : xX10_size pT  = some res) (l : Launch) (D : va_G) : zCT (zE tg S) D vwCl (zty κ) l yX10_size wsX10_size ({ frames := 0, cells := 0, slots := 0, locals := 0 } : Room) 0 0 [.ref (ad 0)] (zwC κ ad pT pR pX pF pB pP) (zPd (some (.int res)) (zwC κ ad pT pR pX pF pB pP)) := by
  refine zCT.of (cc := cX10_size) (maxL := 1) (ret := (some .int)) (by decide) rfl (Nat.le_of_ble_eq_true rfl) ?_
  intro X hC hR
  unfold xX10_size at h
  refine zV.sub (lv' := [(0, .ref (ad 0))]) [0] rfl ?_
  refine zr_aload_n (pc := 0) hC 0 rfl rfl dX10_size_0 ?_
  refine zcg_0_13 (pc := 1) hC hinX10_size_X10 flX10_size_54 dX10_size_1 ?_
  obtain rfl := Option.some.inj h
  exact zr_iret hC hR ⟨rfl, rfl⟩ (Nat.le_refl _) (Nat.le_refl _) dX10_size_4
/-! X10_endsCount -/
theorem hyX10_endsCount : yX10_endsCount.cls = RX10 ∧ yX10_endsCount.cls ≠ "java/lang/invoke/MethodHandle" ∧ yX10_endsCount.cls ≠ "java/lang/invoke/VarHandle" ∧ (parseMethodDescriptor yX10_endsCount.desc).map (fun d => d.parameters.length) = some 0 := by decide +kernel
theorem flX10_endsCount_58 : Cond.fieldLink RX10 58 "BeforeTheEnd$Tree" "ends" "I" ∈ wsX10_endsCount := by decide +kernel
theorem hinX10_endsCount_X10 : ∀ w ∈ wsX100, w ∈ wsX10_endsCount := fun _ h => List.mem_cons_of_mem _ (List.mem_append_right _ h)
def xX10_endsCount (pT : zM)  : Option Int32 :=
  some (pT.1 0 14)
set_option maxHeartbeats 4000000 in
set_option maxRecDepth 100000 in
theorem tX10_endsCount {κ : Nat → ClassId} {tg : Nat} {S : zEn} {ad : Nat → Nat} (hEk : zEk (zE tg S)) {pT : zM} {pR : zM} {pX : zM} {pF : zM} {pB : zM} {pP : zP}  {res : Int32} (h : xX10_endsCount pT  = some res) (l : Launch) (D : va_G) : zCT (zE tg S) D vwCl (zty κ) l yX10_endsCount wsX10_endsCount ({ frames := 0, cells := 0, slots := 0, locals := 0 } : Room) 0 0 [.ref (ad 0)] (zwC κ ad pT pR pX pF pB pP) (zPd (some (.int res)) (zwC κ ad pT pR pX pF pB pP)) := by
  refine zCT.of (cc := cX10_endsCount) (maxL := 1) (ret := (some .int)) (by decide) rfl (Nat.le_of_ble_eq_true rfl) ?_
  intro X hC hR
  unfold xX10_endsCount at h
  refine zV.sub (lv' := [(0, .ref (ad 0))]) [0] rfl ?_
  refine zr_aload_n (pc := 0) hC 0 rfl rfl dX10_endsCount_0 ?_
  refine zcg_0_14 (pc := 1) hC hinX10_endsCount_X10 flX10_endsCount_58 dX10_endsCount_1 ?_
  obtain rfl := Option.some.inj h
  exact zr_iret hC hR ⟨rfl, rfl⟩ (Nat.le_refl _) (Nat.le_refl _) dX10_endsCount_4
/-! X10_isWhole -/
theorem hyX10_isWhole : yX10_isWhole.cls = RX10 ∧ yX10_isWhole.cls ≠ "java/lang/invoke/MethodHandle" ∧ yX10_isWhole.cls ≠ "java/lang/invoke/VarHandle" ∧ (parseMethodDescriptor yX10_isWhole.desc).map (fun d => d.parameters.length) = some 0 := by decide +kernel
theorem flX10_isWhole_61 : Cond.fieldLink RX10 61 "BeforeTheEnd$Tree" "allClosed" "Z" ∈ wsX10_isWhole := by decide +kernel
theorem hinX10_isWhole_X10 : ∀ w ∈ wsX100, w ∈ wsX10_isWhole := fun _ h => List.mem_cons_of_mem _ (List.mem_append_right _ h)
def xX10_isWhole (pT : zM)  : Option Int32 :=
  if ¬ ((pT.1 0 15) = 0 ∨ (pT.1 0 15) = 1) then none else
  some (pT.1 0 15)
set_option maxHeartbeats 4000000 in
set_option maxRecDepth 100000 in
theorem tX10_isWhole {κ : Nat → ClassId} {tg : Nat} {S : zEn} {ad : Nat → Nat} (hEk : zEk (zE tg S)) {pT : zM} {pR : zM} {pX : zM} {pF : zM} {pB : zM} {pP : zP}  {res : Int32} (h : xX10_isWhole pT  = some res) (l : Launch) (D : va_G) : zCT (zE tg S) D vwCl (zty κ) l yX10_isWhole wsX10_isWhole ({ frames := 0, cells := 0, slots := 0, locals := 0 } : Room) 0 0 [.ref (ad 0)] (zwC κ ad pT pR pX pF pB pP) (zPd (some (.int res)) (zwC κ ad pT pR pX pF pB pP)) := by
  refine zCT.of (cc := cX10_isWhole) (maxL := 1) (ret := (some .boolean)) (by decide) rfl (Nat.le_of_ble_eq_true rfl) ?_
  intro X hC hR
  unfold xX10_isWhole at h
  refine zV.sub (lv' := [(0, .ref (ad 0))]) [0] rfl ?_
  refine zr_aload_n (pc := 0) hC 0 rfl rfl dX10_isWhole_0 ?_
  refine zcg_0_15 (pc := 1) hC hinX10_isWhole_X10 flX10_isWhole_61 dX10_isWhole_1 ?_
  obtain ⟨n1, h⟩ := zgd h
  obtain rfl := Option.some.inj h
  exact zr_zret hC hR (Decidable.not_not.mp n1) ⟨rfl, rfl⟩ (Nat.le_refl _) (Nat.le_refl _) dX10_isWhole_4
/-! X10_allWords -/
theorem hyX10_allWords : yX10_allWords.cls = RX10 ∧ yX10_allWords.cls ≠ "java/lang/invoke/MethodHandle" ∧ yX10_allWords.cls ≠ "java/lang/invoke/VarHandle" ∧ (parseMethodDescriptor yX10_allWords.desc).map (fun d => d.parameters.length) = some 0 := by decide +kernel
theorem flX10_allWords_54 : Cond.fieldLink RX10 54 "BeforeTheEnd$Tree" "count" "I" ∈ wsX10_allWords := by decide +kernel
theorem hinX10_allWords_X10 : ∀ w ∈ wsX100, w ∈ wsX10_allWords := fun _ h => List.mem_cons_of_mem _ (List.mem_append_right _ h)
def xX10_allWords (pT : zM)  : Option Int32 :=
  some (((1 : Int32) <<< ((pT.1 0 13) &&& 31)) - (1 : Int32))
set_option maxHeartbeats 4000000 in
set_option maxRecDepth 100000 in
theorem tX10_allWords {κ : Nat → ClassId} {tg : Nat} {S : zEn} {ad : Nat → Nat} (hEk : zEk (zE tg S)) {pT : zM} {pR : zM} {pX : zM} {pF : zM} {pB : zM} {pP : zP}  {res : Int32} (h : xX10_allWords pT  = some res) (l : Launch) (D : va_G) : zCT (zE tg S) D vwCl (zty κ) l yX10_allWords wsX10_allWords ({ frames := 0, cells := 0, slots := 0, locals := 0 } : Room) 0 0 [.ref (ad 0)] (zwC κ ad pT pR pX pF pB pP) (zPd (some (.int res)) (zwC κ ad pT pR pX pF pB pP)) := by
  refine zCT.of (cc := cX10_allWords) (maxL := 1) (ret := (some .int)) (by decide) rfl (Nat.le_of_ble_eq_true rfl) ?_
  intro X hC hR
  unfold xX10_allWords at h
  refine zV.sub (lv' := [(0, .ref (ad 0))]) [0] rfl ?_
  refine zr_iconst (pc := 0) hC zki_1 dX10_allWords_0 ?_
  refine zr_aload_n (pc := 1) hC 0 rfl rfl dX10_allWords_1 ?_
  refine zcg_0_13 (pc := 2) hC hinX10_allWords_X10 flX10_allWords_54 dX10_allWords_2 ?_
  refine zr_ishl (pc := 5) hC dX10_allWords_5 ?_
  refine zr_iconst (pc := 6) hC zki_1 dX10_allWords_6 ?_
  refine zr_isub (pc := 7) hC dX10_allWords_7 ?_
  obtain rfl := Option.some.inj h
  exact zr_iret hC hR ⟨rfl, rfl⟩ (Nat.le_refl _) (Nat.le_refl _) dX10_allWords_8
/-! X10_parentOf -/
theorem hyX10_parentOf : yX10_parentOf.cls = RX10 ∧ yX10_parentOf.cls ≠ "java/lang/invoke/MethodHandle" ∧ yX10_parentOf.cls ≠ "java/lang/invoke/VarHandle" ∧ (parseMethodDescriptor yX10_parentOf.desc).map (fun d => d.parameters.length) = some 1 := by decide +kernel
theorem flX10_parentOf_9 : Cond.fieldLink RX10 9 "BeforeTheEnd$Tree" "parent" "[I" ∈ wsX10_parentOf := by decide +kernel
theorem hinX10_parentOf_X10 : ∀ w ∈ wsX100, w ∈ wsX10_parentOf := fun _ h => List.mem_cons_of_mem _ (List.mem_append_right _ h)
def xX10_parentOf (pT : zM) (v1 : Int32) : Option Int32 :=
  (xX10_has pT v1).bind fun q1 =>
  if q1 = 0 then
  (some (0 : Int32))
  else
  if (v1 < 0 ∨ 24 ≤ v1.toNatClampNeg) then none else
  some (pT.1 1 v1.toNatClampNeg)
set_option maxHeartbeats 4000000 in
set_option maxRecDepth 100000 in
theorem tX10_parentOf {κ : Nat → ClassId} {tg : Nat} {S : zEn} {ad : Nat → Nat} (hEk : zEk (zE tg S)) {pT : zM} {pR : zM} {pX : zM} {pF : zM} {pB : zM} {pP : zP} {v1 : Int32} {res : Int32} (h : xX10_parentOf pT v1 = some res) (l : Launch) (D : va_G) : zCT (zE tg S) D vwCl (zty κ) l yX10_parentOf wsX10_parentOf ({ frames := 1, cells := 0, slots := 0, locals := 21 } : Room) 0 0 [.ref (ad 0), .int v1] (zwC κ ad pT pR pX pF pB pP) (zPd (some (.int res)) (zwC κ ad pT pR pX pF pB pP)) := by
  refine zCT.of (cc := cX10_parentOf) (maxL := 2) (ret := (some .int)) (by decide) rfl (Nat.le_of_ble_eq_true rfl) ?_
  intro X hC hR
  unfold xX10_parentOf at h
  refine zV.sub (lv' := [(0, .ref (ad 0)), (1, .int v1)]) [0, 1] rfl ?_
  refine zr_aload_n (pc := 0) hC 0 rfl rfl dX10_parentOf_0 ?_
  refine zr_iload_n (pc := 1) hC 1 rfl rfl dX10_parentOf_1 ?_
  obtain ⟨q1, hq1, h⟩ := zbd h
  refine zr_cVi (pc := 2) hC hEk [.int v1] [] 0 1 (fun l D => tX10_has hEk hq1 l D) gX10_parentOf_X10_has rfl rfl rfl ⟨Nat.le_of_ble_eq_true rfl, Nat.le_of_ble_eq_true rfl⟩ hyX10_has (zNC (by decide)) entC_0 rfl rfl rfl (Nat.le_of_ble_eq_true rfl) ⟨Nat.le_of_ble_eq_true rfl, Nat.le_of_ble_eq_true rfl⟩ dX10_parentOf_2 ?_
  refine zr_if_eq (pc := 5) (tgt := 17) hC dX10_parentOf_5 (by decide) (fun c2 => ?_) (fun c2 => ?_)
  · replace h := zip h c2
    refine zr_iconst (pc := 17) hC zki_0 dX10_parentOf_17 ?_
    obtain rfl := Option.some.inj h
    exact zr_iret hC hR ⟨rfl, rfl⟩ (Nat.le_refl _) (Nat.le_refl _) dX10_parentOf_18
  · replace h := zin h c2
    refine zr_aload_n (pc := 8) hC 0 rfl rfl dX10_parentOf_8 ?_
    refine zcg_0_0 (pc := 9) hC hinX10_parentOf_X10 flX10_parentOf_9 dX10_parentOf_9 ?_
    refine zr_iload_n (pc := 12) hC 1 rfl rfl dX10_parentOf_12 ?_
    obtain ⟨i3, h⟩ := zgd h
    refine zcl_1 (pc := 13) hC i3 dX10_parentOf_13 ?_
    refine zr_goto (pc := 14) (tgt := 18) hC dX10_parentOf_14 (by decide) ?_
    obtain rfl := Option.some.inj h
    exact zr_iret hC hR ⟨rfl, rfl⟩ (Nat.le_refl _) (Nat.le_refl _) dX10_parentOf_18
/-! X10_weightOf -/
theorem hyX10_weightOf : yX10_weightOf.cls = RX10 ∧ yX10_weightOf.cls ≠ "java/lang/invoke/MethodHandle" ∧ yX10_weightOf.cls ≠ "java/lang/invoke/VarHandle" ∧ (parseMethodDescriptor yX10_weightOf.desc).map (fun d => d.parameters.length) = some 1 := by decide +kernel
theorem flX10_weightOf_15 : Cond.fieldLink RX10 15 "BeforeTheEnd$Tree" "weight" "[I" ∈ wsX10_weightOf := by decide +kernel
theorem hinX10_weightOf_X10 : ∀ w ∈ wsX100, w ∈ wsX10_weightOf := fun _ h => List.mem_cons_of_mem _ (List.mem_append_right _ h)
def xX10_weightOf (pT : zM) (v1 : Int32) : Option Int32 :=
  (xX10_has pT v1).bind fun q1 =>
  if q1 = 0 then
  (some (0 : Int32))
  else
  if (v1 < 0 ∨ 24 ≤ v1.toNatClampNeg) then none else
  some (pT.1 2 v1.toNatClampNeg)
set_option maxHeartbeats 4000000 in
set_option maxRecDepth 100000 in
theorem tX10_weightOf {κ : Nat → ClassId} {tg : Nat} {S : zEn} {ad : Nat → Nat} (hEk : zEk (zE tg S)) {pT : zM} {pR : zM} {pX : zM} {pF : zM} {pB : zM} {pP : zP} {v1 : Int32} {res : Int32} (h : xX10_weightOf pT v1 = some res) (l : Launch) (D : va_G) : zCT (zE tg S) D vwCl (zty κ) l yX10_weightOf wsX10_weightOf ({ frames := 1, cells := 0, slots := 0, locals := 21 } : Room) 0 0 [.ref (ad 0), .int v1] (zwC κ ad pT pR pX pF pB pP) (zPd (some (.int res)) (zwC κ ad pT pR pX pF pB pP)) := by
  refine zCT.of (cc := cX10_weightOf) (maxL := 2) (ret := (some .int)) (by decide) rfl (Nat.le_of_ble_eq_true rfl) ?_
  intro X hC hR
  unfold xX10_weightOf at h
  refine zV.sub (lv' := [(0, .ref (ad 0)), (1, .int v1)]) [0, 1] rfl ?_
  refine zr_aload_n (pc := 0) hC 0 rfl rfl dX10_weightOf_0 ?_
  refine zr_iload_n (pc := 1) hC 1 rfl rfl dX10_weightOf_1 ?_
  obtain ⟨q1, hq1, h⟩ := zbd h
  refine zr_cVi (pc := 2) hC hEk [.int v1] [] 0 1 (fun l D => tX10_has hEk hq1 l D) gX10_weightOf_X10_has rfl rfl rfl ⟨Nat.le_of_ble_eq_true rfl, Nat.le_of_ble_eq_true rfl⟩ hyX10_has (zNC (by decide)) entC_0 rfl rfl rfl (Nat.le_of_ble_eq_true rfl) ⟨Nat.le_of_ble_eq_true rfl, Nat.le_of_ble_eq_true rfl⟩ dX10_weightOf_2 ?_
  refine zr_if_eq (pc := 5) (tgt := 17) hC dX10_weightOf_5 (by decide) (fun c2 => ?_) (fun c2 => ?_)
  · replace h := zip h c2
    refine zr_iconst (pc := 17) hC zki_0 dX10_weightOf_17 ?_
    obtain rfl := Option.some.inj h
    exact zr_iret hC hR ⟨rfl, rfl⟩ (Nat.le_refl _) (Nat.le_refl _) dX10_weightOf_18
  · replace h := zin h c2
    refine zr_aload_n (pc := 8) hC 0 rfl rfl dX10_weightOf_8 ?_
    refine zcg_0_1 (pc := 9) hC hinX10_weightOf_X10 flX10_weightOf_15 dX10_weightOf_9 ?_
    refine zr_iload_n (pc := 12) hC 1 rfl rfl dX10_weightOf_12 ?_
    obtain ⟨i3, h⟩ := zgd h
    refine zcl_2 (pc := 13) hC i3 dX10_weightOf_13 ?_
    refine zr_goto (pc := 14) (tgt := 18) hC dX10_weightOf_14 (by decide) ?_
    obtain rfl := Option.some.inj h
    exact zr_iret hC hR ⟨rfl, rfl⟩ (Nat.le_refl _) (Nat.le_refl _) dX10_weightOf_18
/-! X10_behindOf -/
theorem hyX10_behindOf : yX10_behindOf.cls = RX10 ∧ yX10_behindOf.cls ≠ "java/lang/invoke/MethodHandle" ∧ yX10_behindOf.cls ≠ "java/lang/invoke/VarHandle" ∧ (parseMethodDescriptor yX10_behindOf.desc).map (fun d => d.parameters.length) = some 1 := by decide +kernel
theorem flX10_behindOf_30 : Cond.fieldLink RX10 30 "BeforeTheEnd$Tree" "behind" "[I" ∈ wsX10_behindOf := by decide +kernel
theorem hinX10_behindOf_X10 : ∀ w ∈ wsX100, w ∈ wsX10_behindOf := fun _ h => List.mem_cons_of_mem _ (List.mem_append_right _ h)
def xX10_behindOf (pT : zM) (v1 : Int32) : Option Int32 :=
  (xX10_has pT v1).bind fun q1 =>
  if q1 = 0 then
  (some (0 : Int32))
  else
  if (v1 < 0 ∨ 24 ≤ v1.toNatClampNeg) then none else
  some (pT.1 7 v1.toNatClampNeg)
set_option maxHeartbeats 4000000 in
set_option maxRecDepth 100000 in
theorem tX10_behindOf {κ : Nat → ClassId} {tg : Nat} {S : zEn} {ad : Nat → Nat} (hEk : zEk (zE tg S)) {pT : zM} {pR : zM} {pX : zM} {pF : zM} {pB : zM} {pP : zP} {v1 : Int32} {res : Int32} (h : xX10_behindOf pT v1 = some res) (l : Launch) (D : va_G) : zCT (zE tg S) D vwCl (zty κ) l yX10_behindOf wsX10_behindOf ({ frames := 1, cells := 0, slots := 0, locals := 21 } : Room) 0 0 [.ref (ad 0), .int v1] (zwC κ ad pT pR pX pF pB pP) (zPd (some (.int res)) (zwC κ ad pT pR pX pF pB pP)) := by
  refine zCT.of (cc := cX10_behindOf) (maxL := 2) (ret := (some .int)) (by decide) rfl (Nat.le_of_ble_eq_true rfl) ?_
  intro X hC hR
  unfold xX10_behindOf at h
  refine zV.sub (lv' := [(0, .ref (ad 0)), (1, .int v1)]) [0, 1] rfl ?_
  refine zr_aload_n (pc := 0) hC 0 rfl rfl dX10_behindOf_0 ?_
  refine zr_iload_n (pc := 1) hC 1 rfl rfl dX10_behindOf_1 ?_
  obtain ⟨q1, hq1, h⟩ := zbd h
  refine zr_cVi (pc := 2) hC hEk [.int v1] [] 0 1 (fun l D => tX10_has hEk hq1 l D) gX10_behindOf_X10_has rfl rfl rfl ⟨Nat.le_of_ble_eq_true rfl, Nat.le_of_ble_eq_true rfl⟩ hyX10_has (zNC (by decide)) entC_0 rfl rfl rfl (Nat.le_of_ble_eq_true rfl) ⟨Nat.le_of_ble_eq_true rfl, Nat.le_of_ble_eq_true rfl⟩ dX10_behindOf_2 ?_
  refine zr_if_eq (pc := 5) (tgt := 17) hC dX10_behindOf_5 (by decide) (fun c2 => ?_) (fun c2 => ?_)
  · replace h := zip h c2
    refine zr_iconst (pc := 17) hC zki_0 dX10_behindOf_17 ?_
    obtain rfl := Option.some.inj h
    exact zr_iret hC hR ⟨rfl, rfl⟩ (Nat.le_refl _) (Nat.le_refl _) dX10_behindOf_18
  · replace h := zin h c2
    refine zr_aload_n (pc := 8) hC 0 rfl rfl dX10_behindOf_8 ?_
    refine zcg_0_6 (pc := 9) hC hinX10_behindOf_X10 flX10_behindOf_30 dX10_behindOf_9 ?_
    refine zr_iload_n (pc := 12) hC 1 rfl rfl dX10_behindOf_12 ?_
    obtain ⟨i3, h⟩ := zgd h
    refine zcl_7 (pc := 13) hC i3 dX10_behindOf_13 ?_
    refine zr_goto (pc := 14) (tgt := 18) hC dX10_behindOf_14 (by decide) ?_
    obtain rfl := Option.some.inj h
    exact zr_iret hC hR ⟨rfl, rfl⟩ (Nat.le_refl _) (Nat.le_refl _) dX10_behindOf_18
/-! X10_append -/
theorem hyX10_append : yX10_append.cls = RX10 ∧ yX10_append.cls ≠ "java/lang/invoke/MethodHandle" ∧ yX10_append.cls ≠ "java/lang/invoke/VarHandle" ∧ (parseMethodDescriptor yX10_append.desc).map (fun d => d.parameters.length) = some 3 := by decide +kernel
theorem flX10_append_15 : Cond.fieldLink RX10 15 "BeforeTheEnd$Tree" "weight" "[I" ∈ wsX10_append := by decide +kernel
theorem flX10_append_18 : Cond.fieldLink RX10 18 "BeforeTheEnd$Tree" "answer" "[I" ∈ wsX10_append := by decide +kernel
theorem flX10_append_54 : Cond.fieldLink RX10 54 "BeforeTheEnd$Tree" "count" "I" ∈ wsX10_append := by decide +kernel
theorem flX10_append_9 : Cond.fieldLink RX10 9 "BeforeTheEnd$Tree" "parent" "[I" ∈ wsX10_append := by decide +kernel
theorem hinX10_append_X10 : ∀ w ∈ wsX100, w ∈ wsX10_append := fun _ h => List.mem_cons_of_mem _ (List.mem_append_right _ h)
def xX10_append (pT : zM) (v1 : Int32) (v2 : Int32) (v3 : Int32) : Option (Int32 × zM) :=
  if (pT.1 0 13) < (1 : Int32) then
  (some ((0 : Int32), pT))
  else
  if (24 : Int32) ≤ (pT.1 0 13) then
  (some ((0 : Int32), pT))
  else
  (xX10_has pT v1).bind fun q3 =>
  if q3 = 0 then
  (some ((0 : Int32), pT))
  else
  (xX10_isEnd pT v1).bind fun q5 =>
  if q5 = 0 then
  (if v2 < (1 : Int32) then
  (some ((0 : Int32), pT))
  else
  if (9 : Int32) < v2 then
  (some ((0 : Int32), pT))
  else
  if v3 < 0 then
  (some ((0 : Int32), pT))
  else
  if v3 ≤ (9 : Int32) then
  (if ((pT.1 0 13) < 0 ∨ 24 ≤ (pT.1 0 13).toNatClampNeg) then none else
  zlet (zsi pT 1 (pT.1 0 13).toNatClampNeg v1) fun M12 =>
  if ((M12.1 0 13) < 0 ∨ 24 ≤ (M12.1 0 13).toNatClampNeg) then none else
  zlet (zsi M12 2 (M12.1 0 13).toNatClampNeg v2) fun M15 =>
  if ((M15.1 0 13) < 0 ∨ 24 ≤ (M15.1 0 13).toNatClampNeg) then none else
  zlet (zsi M15 3 (M15.1 0 13).toNatClampNeg v3) fun M18 =>
  zlet (zsi M18 0 13 ((M18.1 0 13) + (1 : Int32))) fun M20 =>
  some ((1 : Int32), M20))
  else
  some ((0 : Int32), pT))
  else
  some ((0 : Int32), pT)
set_option maxHeartbeats 4000000 in
set_option maxRecDepth 100000 in
theorem tX10_append {κ : Nat → ClassId} {tg : Nat} {S : zEn} {ad : Nat → Nat} (hEk : zEk (zE tg S)) {pT : zM} {pR : zM} {pX : zM} {pF : zM} {pB : zM} {pP : zP} {v1 : Int32} {v2 : Int32} {v3 : Int32} {res : (Int32 × zM)} (h : xX10_append pT v1 v2 v3 = some res) (l : Launch) (D : va_G) : zCT (zE tg S) D vwCl (zty κ) l yX10_append wsX10_append ({ frames := 2, cells := 0, slots := 0, locals := 42 } : Room) 0 0 [.ref (ad 0), .int v1, .int v2, .int v3] (zwC κ ad pT pR pX pF pB pP) (zPd (some (.int res.1)) (zwC κ ad res.2 pR pX pF pB pP)) := by
  refine zCT.of (cc := cX10_append) (maxL := 4) (ret := (some .boolean)) (by decide) rfl (Nat.le_of_ble_eq_true rfl) ?_
  intro X hC hR
  unfold xX10_append at h
  refine zV.sub (lv' := [(0, .ref (ad 0)), (1, .int v1), (2, .int v2), (3, .int v3)]) [0, 1, 2, 3] rfl ?_
  refine zr_aload_n (pc := 0) hC 0 rfl rfl dX10_append_0 ?_
  refine zcg_0_13 (pc := 1) hC hinX10_append_X10 flX10_append_54 dX10_append_1 ?_
  refine zr_iconst (pc := 4) hC zki_1 dX10_append_4 ?_
  refine zr_icmp_lt (pc := 5) (tgt := 33) hC dX10_append_5 (by decide) (fun c1 => ?_) (fun c1 => ?_)
  · replace h := zip h c1
    refine zr_iconst (pc := 33) hC zki_0 dX10_append_33 ?_
    obtain rfl := Option.some.inj h
    exact zr_zret hC hR (by decide) ⟨rfl, rfl⟩ (Nat.le_refl _) (Nat.le_refl _) dX10_append_34
  · replace h := zin h c1
    refine zr_aload_n (pc := 8) hC 0 rfl rfl dX10_append_8 ?_
    refine zcg_0_13 (pc := 9) hC hinX10_append_X10 flX10_append_54 dX10_append_9 ?_
    refine zr_bipush (pc := 12) hC zkb_24 dX10_append_12 ?_
    refine zr_icmp_ge (pc := 14) (tgt := 33) hC dX10_append_14 (by decide) (fun c2 => ?_) (fun c2 => ?_)
    · replace h := zip h c2
      refine zr_iconst (pc := 33) hC zki_0 dX10_append_33 ?_
      obtain rfl := Option.some.inj h
      exact zr_zret hC hR (by decide) ⟨rfl, rfl⟩ (Nat.le_refl _) (Nat.le_refl _) dX10_append_34
    · replace h := zin h c2
      refine zr_aload_n (pc := 17) hC 0 rfl rfl dX10_append_17 ?_
      refine zr_iload_n (pc := 18) hC 1 rfl rfl dX10_append_18 ?_
      obtain ⟨q3, hq3, h⟩ := zbd h
      refine zr_cVi (pc := 19) hC hEk [.int v1] [] 0 1 (fun l D => tX10_has hEk hq3 l D) gX10_append_X10_has rfl rfl rfl ⟨Nat.le_of_ble_eq_true rfl, Nat.le_of_ble_eq_true rfl⟩ hyX10_has (zNC (by decide)) entC_0 rfl rfl rfl (Nat.le_of_ble_eq_true rfl) ⟨Nat.le_of_ble_eq_true rfl, Nat.le_of_ble_eq_true rfl⟩ dX10_append_19 ?_
      refine zr_if_eq (pc := 22) (tgt := 33) hC dX10_append_22 (by decide) (fun c4 => ?_) (fun c4 => ?_)
      · replace h := zip h c4
        refine zr_iconst (pc := 33) hC zki_0 dX10_append_33 ?_
        obtain rfl := Option.some.inj h
        exact zr_zret hC hR (by decide) ⟨rfl, rfl⟩ (Nat.le_refl _) (Nat.le_refl _) dX10_append_34
      · replace h := zin h c4
        refine zr_aload_n (pc := 25) hC 0 rfl rfl dX10_append_25 ?_
        refine zr_iload_n (pc := 26) hC 1 rfl rfl dX10_append_26 ?_
        obtain ⟨q5, hq5, h⟩ := zbd h
        refine zr_cVi (pc := 27) hC hEk [.int v1] [] 0 1 (fun l D => tX10_isEnd hEk hq5 l D) gX10_append_X10_isEnd rfl rfl rfl ⟨Nat.le_of_ble_eq_true rfl, Nat.le_of_ble_eq_true rfl⟩ hyX10_isEnd (zNC (by decide)) entC_0 rfl rfl rfl (Nat.le_of_ble_eq_true rfl) ⟨Nat.le_of_ble_eq_true rfl, Nat.le_of_ble_eq_true rfl⟩ dX10_append_27 ?_
        refine zr_if_eq (pc := 30) (tgt := 35) hC dX10_append_30 (by decide) (fun c6 => ?_) (fun c6 => ?_)
        · replace h := zip h c6
          refine zr_iload_n (pc := 35) hC 2 rfl rfl dX10_append_35 ?_
          refine zr_iconst (pc := 36) hC zki_1 dX10_append_36 ?_
          refine zr_icmp_lt (pc := 37) (tgt := 56) hC dX10_append_37 (by decide) (fun c7 => ?_) (fun c7 => ?_)
          · replace h := zip h c7
            refine zr_iconst (pc := 56) hC zki_0 dX10_append_56 ?_
            obtain rfl := Option.some.inj h
            exact zr_zret hC hR (by decide) ⟨rfl, rfl⟩ (Nat.le_refl _) (Nat.le_refl _) dX10_append_57
          · replace h := zin h c7
            refine zr_iload_n (pc := 40) hC 2 rfl rfl dX10_append_40 ?_
            refine zr_bipush (pc := 41) hC zkb_9 dX10_append_41 ?_
            refine zr_icmp_gt (pc := 43) (tgt := 56) hC dX10_append_43 (by decide) (fun c8 => ?_) (fun c8 => ?_)
            · replace h := zip h c8
              refine zr_iconst (pc := 56) hC zki_0 dX10_append_56 ?_
              obtain rfl := Option.some.inj h
              exact zr_zret hC hR (by decide) ⟨rfl, rfl⟩ (Nat.le_refl _) (Nat.le_refl _) dX10_append_57
            · replace h := zin h c8
              refine zr_iload_n (pc := 46) hC 3 rfl rfl dX10_append_46 ?_
              refine zr_if_lt (pc := 47) (tgt := 56) hC dX10_append_47 (by decide) (fun c9 => ?_) (fun c9 => ?_)
              · replace h := zip h c9
                refine zr_iconst (pc := 56) hC zki_0 dX10_append_56 ?_
                obtain rfl := Option.some.inj h
                exact zr_zret hC hR (by decide) ⟨rfl, rfl⟩ (Nat.le_refl _) (Nat.le_refl _) dX10_append_57
              · replace h := zin h c9
                refine zr_iload_n (pc := 50) hC 3 rfl rfl dX10_append_50 ?_
                refine zr_bipush (pc := 51) hC zkb_9 dX10_append_51 ?_
                refine zr_icmp_le (pc := 53) (tgt := 58) hC dX10_append_53 (by decide) (fun c10 => ?_) (fun c10 => ?_)
                · replace h := zip h c10
                  refine zr_aload_n (pc := 58) hC 0 rfl rfl dX10_append_58 ?_
                  refine zcg_0_0 (pc := 59) hC hinX10_append_X10 flX10_append_9 dX10_append_59 ?_
                  refine zr_aload_n (pc := 62) hC 0 rfl rfl dX10_append_62 ?_
                  refine zcg_0_13 (pc := 63) hC hinX10_append_X10 flX10_append_54 dX10_append_63 ?_
                  refine zr_iload_n (pc := 66) hC 1 rfl rfl dX10_append_66 ?_
                  obtain ⟨i11, h⟩ := zgd h
                  obtain ⟨M12, e13, h⟩ := zle h
                  refine zcs_1 (pc := 67) hC i11 e13 dX10_append_67 ?_
                  refine zr_aload_n (pc := 68) hC 0 rfl rfl dX10_append_68 ?_
                  refine zcg_0_1 (pc := 69) hC hinX10_append_X10 flX10_append_15 dX10_append_69 ?_
                  refine zr_aload_n (pc := 72) hC 0 rfl rfl dX10_append_72 ?_
                  refine zcg_0_13 (pc := 73) hC hinX10_append_X10 flX10_append_54 dX10_append_73 ?_
                  refine zr_iload_n (pc := 76) hC 2 rfl rfl dX10_append_76 ?_
                  obtain ⟨i14, h⟩ := zgd h
                  obtain ⟨M15, e16, h⟩ := zle h
                  refine zcs_2 (pc := 77) hC i14 e16 dX10_append_77 ?_
                  refine zr_aload_n (pc := 78) hC 0 rfl rfl dX10_append_78 ?_
                  refine zcg_0_2 (pc := 79) hC hinX10_append_X10 flX10_append_18 dX10_append_79 ?_
                  refine zr_aload_n (pc := 82) hC 0 rfl rfl dX10_append_82 ?_
                  refine zcg_0_13 (pc := 83) hC hinX10_append_X10 flX10_append_54 dX10_append_83 ?_
                  refine zr_iload_n (pc := 86) hC 3 rfl rfl dX10_append_86 ?_
                  obtain ⟨i17, h⟩ := zgd h
                  obtain ⟨M18, e19, h⟩ := zle h
                  refine zcs_3 (pc := 87) hC i17 e19 dX10_append_87 ?_
                  refine zr_aload_n (pc := 88) hC 0 rfl rfl dX10_append_88 ?_
                  refine zr_dup (pc := 89) hC rfl dX10_append_89 ?_
                  refine zcg_0_13 (pc := 90) hC hinX10_append_X10 flX10_append_54 dX10_append_90 ?_
                  refine zr_iconst (pc := 93) hC zki_1 dX10_append_93 ?_
                  refine zr_iadd (pc := 94) hC dX10_append_94 ?_
                  obtain ⟨M20, e21, h⟩ := zle h
                  refine zcp_0_13 (pc := 95) hC hinX10_append_X10 flX10_append_54 e21 dX10_append_95 ?_
                  refine zr_iconst (pc := 98) hC zki_1 dX10_append_98 ?_
                  obtain rfl := Option.some.inj h
                  exact zr_zret hC hR (by decide) ⟨rfl, rfl⟩ (Nat.le_refl _) (Nat.le_refl _) dX10_append_99
                · replace h := zin h c10
                  refine zr_iconst (pc := 56) hC zki_0 dX10_append_56 ?_
                  obtain rfl := Option.some.inj h
                  exact zr_zret hC hR (by decide) ⟨rfl, rfl⟩ (Nat.le_refl _) (Nat.le_refl _) dX10_append_57
        · replace h := zin h c6
          refine zr_iconst (pc := 33) hC zki_0 dX10_append_33 ?_
          obtain rfl := Option.some.inj h
          exact zr_zret hC hR (by decide) ⟨rfl, rfl⟩ (Nat.le_refl _) (Nat.le_refl _) dX10_append_34
/-! X10_cutBack -/
theorem hyX10_cutBack : yX10_cutBack.cls = RX10 ∧ yX10_cutBack.cls ≠ "java/lang/invoke/MethodHandle" ∧ yX10_cutBack.cls ≠ "java/lang/invoke/VarHandle" ∧ (parseMethodDescriptor yX10_cutBack.desc).map (fun d => d.parameters.length) = some 1 := by decide +kernel
theorem flX10_cutBack_54 : Cond.fieldLink RX10 54 "BeforeTheEnd$Tree" "count" "I" ∈ wsX10_cutBack := by decide +kernel
theorem hinX10_cutBack_X10 : ∀ w ∈ wsX100, w ∈ wsX10_cutBack := fun _ h => List.mem_cons_of_mem _ (List.mem_append_right _ h)
def xX10_cutBack (pT : zM) (v1 : Int32) : Option zM :=
  if v1 < (1 : Int32) then
  (some pT)
  else
  if (pT.1 0 13) ≤ v1 then
  (some pT)
  else
  zlet (zsi pT 0 13 v1) fun M3 =>
  some M3
set_option maxHeartbeats 4000000 in
set_option maxRecDepth 100000 in
theorem tX10_cutBack {κ : Nat → ClassId} {tg : Nat} {S : zEn} {ad : Nat → Nat} (hEk : zEk (zE tg S)) {pT : zM} {pR : zM} {pX : zM} {pF : zM} {pB : zM} {pP : zP} {v1 : Int32} {res : zM} (h : xX10_cutBack pT v1 = some res) (l : Launch) (D : va_G) : zCT (zE tg S) D vwCl (zty κ) l yX10_cutBack wsX10_cutBack ({ frames := 0, cells := 0, slots := 0, locals := 0 } : Room) 0 0 [.ref (ad 0), .int v1] (zwC κ ad pT pR pX pF pB pP) (zPd none (zwC κ ad res pR pX pF pB pP)) := by
  refine zCT.of (cc := cX10_cutBack) (maxL := 2) (ret := none) (by decide) rfl (Nat.le_of_ble_eq_true rfl) ?_
  intro X hC hR
  unfold xX10_cutBack at h
  refine zV.sub (lv' := [(0, .ref (ad 0)), (1, .int v1)]) [0, 1] rfl ?_
  refine zr_iload_n (pc := 0) hC 1 rfl rfl dX10_cutBack_0 ?_
  refine zr_iconst (pc := 1) hC zki_1 dX10_cutBack_1 ?_
  refine zr_icmp_lt (pc := 2) (tgt := 18) hC dX10_cutBack_2 (by decide) (fun c1 => ?_) (fun c1 => ?_)
  · replace h := zip h c1
    obtain rfl := Option.some.inj h
    exact zr_vret hC hR ⟨rfl, rfl⟩ (Nat.le_refl _) (Nat.le_refl _) dX10_cutBack_18
  · replace h := zin h c1
    refine zr_iload_n (pc := 5) hC 1 rfl rfl dX10_cutBack_5 ?_
    refine zr_aload_n (pc := 6) hC 0 rfl rfl dX10_cutBack_6 ?_
    refine zcg_0_13 (pc := 7) hC hinX10_cutBack_X10 flX10_cutBack_54 dX10_cutBack_7 ?_
    refine zr_icmp_ge (pc := 10) (tgt := 18) hC dX10_cutBack_10 (by decide) (fun c2 => ?_) (fun c2 => ?_)
    · replace h := zip h c2
      obtain rfl := Option.some.inj h
      exact zr_vret hC hR ⟨rfl, rfl⟩ (Nat.le_refl _) (Nat.le_refl _) dX10_cutBack_18
    · replace h := zin h c2
      refine zr_aload_n (pc := 13) hC 0 rfl rfl dX10_cutBack_13 ?_
      refine zr_iload_n (pc := 14) hC 1 rfl rfl dX10_cutBack_14 ?_
      obtain ⟨M3, e4, h⟩ := zle h
      refine zcp_0_13 (pc := 15) hC hinX10_cutBack_X10 flX10_cutBack_54 e4 dX10_cutBack_15 ?_
      obtain rfl := Option.some.inj h
      exact zr_vret hC hR ⟨rfl, rfl⟩ (Nat.le_refl _) (Nat.le_refl _) dX10_cutBack_18
/-! X11_commonDivisor -/
theorem hyX11_commonDivisor : yX11_commonDivisor.cls ≠ "java/lang/invoke/MethodHandle" ∧ yX11_commonDivisor.cls ≠ "java/lang/invoke/VarHandle" ∧ (parseMethodDescriptor yX11_commonDivisor.desc).map (fun d => d.parameters.length) = some 2 := by decide +kernel
theorem lwX11_commonDivisor_286 : Cond.methodLink RX11 286 Lib.MathLoose.abs_long.x ∈ wsX11_commonDivisor ∧ Cond.static Lib.MathLoose.abs_long.x ∈ wsX11_commonDivisor ∧ Cond.initialized "java/lang/Math" ∈ wsX11_commonDivisor ∧ Cond.code Lib.MathLoose.abs_long.x Lib.MathLoose.abs_long.code 2 (some .long) ∈ wsX11_commonDivisor := by decide +kernel
def xX11_commonDivisor_L15  (a : (Int64 × Int64 × Int32)) : Option ((Int64 × Int64 × Int32) ⊕ Int64) :=
  if (100 : Int32) ≤ a.2.2 then
  (some (.inr a.1))
  else
  if (lg_cmp a.2.1 (0 : Int64)) = 0 then
  (some (.inr a.1))
  else
  if a.2.1 = 0 then none else
  zlet (a.1 - a.1 / a.2.1 * a.2.1) fun z4 =>
  some (.inl (a.2.1, z4, (a.2.2 + (1 : Int32))))
set_option maxHeartbeats 4000000 in
set_option maxRecDepth 100000 in
theorem tX11_commonDivisor_L15 {κ : Nat → ClassId} {E : zEn} {ws : va_W} {X : zX} {a : (Int64 × Int64 × Int32)} {r : ((Int64 × Int64 × Int32) ⊕ Int64)} (hC : zC X cX11_commonDivisor RX11 wsX11_commonDivisor vwCl (zty κ) E 11 ({ frames := 1, cells := 0, slots := 0, locals := 21 } : Room)) (hEk : zEk E) (hin : ∀ a', r = .inl a' → zV X 0 0 ws [(4, .long a'.1), (6, .long a'.2.1), (8, .int a'.2.2)] [] 15) (hout : ∀ b', r = .inr b' → zV X 0 0 ws [(4, .long b')] [] 50) (h : xX11_commonDivisor_L15   a = some r) : zV X 0 0 ws [(4, .long a.1), (6, .long a.2.1), (8, .int a.2.2)] [] 15 := by
  unfold xX11_commonDivisor_L15 at h
  refine zr_iload (pc := 15) hC 2 rfl dX11_commonDivisor_15 ?_
  refine zr_bipush (pc := 17) hC zkb_100 dX11_commonDivisor_17 ?_
  refine zr_icmp_ge (pc := 19) (tgt := 50) hC dX11_commonDivisor_19 (by decide) (fun c1 => ?_) (fun c1 => ?_)
  · replace h := zip h c1
    obtain rfl := Option.some.inj h
    exact zV.sub (lv' := [(4, .long a.1)]) [0] rfl (hout _ rfl)
  · replace h := zin h c1
    refine zr_lload (pc := 22) hC 1 rfl dX11_commonDivisor_22 ?_
    refine zr_lconst (pc := 24) hC zkl_0 dX11_commonDivisor_24 ?_
    refine zr_lcmp (pc := 25) hC dX11_commonDivisor_25 ?_
    refine zr_if_eq (pc := 26) (tgt := 50) hC dX11_commonDivisor_26 (by decide) (fun c2 => ?_) (fun c2 => ?_)
    · replace h := zip h c2
      obtain rfl := Option.some.inj h
      exact zV.sub (lv' := [(4, .long a.1)]) [0] rfl (hout _ rfl)
    · replace h := zin h c2
      refine zr_lload (pc := 29) hC 0 rfl dX11_commonDivisor_29 ?_
      refine zr_lload (pc := 31) hC 1 rfl dX11_commonDivisor_31 ?_
      obtain ⟨n3, h⟩ := zgd h
      refine zr_lrem (pc := 33) hC n3 dX11_commonDivisor_33 ?_
      obtain ⟨z4, e5, h⟩ := zle h
      refine zr_topl e5 ?_
      refine zr_lstore (pc := 34) (lv' := [(9, .long z4), (4, .long a.1), (6, .long a.2.1), (8, .int a.2.2)]) hC (by decide) rfl dX11_commonDivisor_34 ?_
      refine zr_lload (pc := 36) hC 2 rfl dX11_commonDivisor_36 ?_
      refine zr_lstore (pc := 38) (lv' := [(4, .long a.2.1), (9, .long z4), (6, .long a.2.1), (8, .int a.2.2)]) hC (by decide) rfl dX11_commonDivisor_38 ?_
      refine zr_lload (pc := 40) hC 1 rfl dX11_commonDivisor_40 ?_
      refine zr_lstore (pc := 42) (lv' := [(6, .long z4), (4, .long a.2.1), (9, .long z4), (8, .int a.2.2)]) hC (by decide) rfl dX11_commonDivisor_42 ?_
      refine zr_iinc (pc := 44) (k := 3) (lv' := [(8, .int (a.2.2 + (1 : Int32))), (6, .long z4), (4, .long a.2.1), (9, .long z4)]) hC zki_1 (by decide) rfl rfl dX11_commonDivisor_44 ?_
      refine zr_goto (pc := 47) (tgt := 15) hC dX11_commonDivisor_47 (by decide) ?_
      obtain rfl := Option.some.inj h
      exact zV.sub (lv' := [(4, .long a.2.1), (6, .long z4), (8, .int (a.2.2 + (1 : Int32)))]) [2, 1, 0] rfl (hin _ rfl)
def xX11_commonDivisor  (v0 : Int64) (v2 : Int64) : Option Int64 :=
  zlet (if 0 < v0 then v0 else -v0) fun z1 =>
  zlet (if 0 < v2 then v2 else -v2) fun z3 =>
  (x_it (xX11_commonDivisor_L15 ) zFU (z1, z3, (0 : Int32))).bind fun q5 =>
  some q5
set_option maxHeartbeats 4000000 in
set_option maxRecDepth 100000 in
theorem tX11_commonDivisor {κ : Nat → ClassId} {E : zEn} {ws : va_W} (hEk : zEk E)  {v0 : Int64} {v2 : Int64} {res : Int64} (h : xX11_commonDivisor  v0 v2 = some res) (l : Launch) (D : va_G) : zCT E D vwCl (zty κ) l yX11_commonDivisor wsX11_commonDivisor ({ frames := 1, cells := 0, slots := 0, locals := 21 } : Room) 0 0 [.long v0, .long v2] ws (zPd (some (.long res)) ws) := by
  refine zCT.of (cc := cX11_commonDivisor) (maxL := 11) (ret := (some .long)) (by decide) rfl (Nat.le_of_ble_eq_true rfl) ?_
  intro X hC hR
  unfold xX11_commonDivisor at h
  refine zV.sub (lv' := [(0, .long v0), (2, .long v2)]) [0, 1] rfl ?_
  refine zr_lload_n (pc := 0) hC 0 rfl rfl dX11_commonDivisor_0 ?_
  refine zr_mabsl (pc := 1) hC lwX11_commonDivisor_286 (Nat.le_of_ble_eq_true rfl) (Nat.le_of_ble_eq_true rfl) (Nat.le_of_ble_eq_true rfl) (Nat.le_of_ble_eq_true rfl) dX11_commonDivisor_1 ?_
  obtain ⟨z1, e2, h⟩ := zle h
  refine zr_topl e2 ?_
  refine zr_lstore (pc := 4) (lv' := [(4, .long z1), (0, .long v0), (2, .long v2)]) hC (by decide) rfl dX11_commonDivisor_4 ?_
  refine zr_lload_n (pc := 6) hC 2 rfl rfl dX11_commonDivisor_6 ?_
  refine zr_mabsl (pc := 7) hC lwX11_commonDivisor_286 (Nat.le_of_ble_eq_true rfl) (Nat.le_of_ble_eq_true rfl) (Nat.le_of_ble_eq_true rfl) (Nat.le_of_ble_eq_true rfl) dX11_commonDivisor_7 ?_
  obtain ⟨z3, e4, h⟩ := zle h
  refine zr_topl e4 ?_
  refine zr_lstore (pc := 10) (lv' := [(6, .long z3), (4, .long z1), (0, .long v0), (2, .long v2)]) hC (by decide) rfl dX11_commonDivisor_10 ?_
  refine zr_iconst (pc := 12) hC zki_0 dX11_commonDivisor_12 ?_
  refine zr_istore (pc := 13) (lv' := [(8, .int (0 : Int32)), (6, .long z3), (4, .long z1), (0, .long v0), (2, .long v2)]) hC (by decide) rfl dX11_commonDivisor_13 ?_
  obtain ⟨q5, hq5, h⟩ := zbd h
  refine zV.sub (lv' := [(4, .long z1), (6, .long z3), (8, .int (0 : Int32))]) [2, 1, 0] rfl ?_
  refine zit (Wp := fun (a : (Int64 × Int64 × Int32)) => zV X 0 0 ws [(4, .long a.1), (6, .long a.2.1), (8, .int a.2.2)] [] 15) (Ex := fun (b : Int64) => zV X 0 0 ws [(4, .long b)] [] 50) (fun a r hr hin hout => tX11_commonDivisor_L15 hC hEk hin hout hr) zFU (z1, z3, (0 : Int32)) q5 hq5 ?_
  show zV X 0 0 ws [(4, .long q5)] [] 50
  refine zr_lload (pc := 50) hC 0 rfl dX11_commonDivisor_50 ?_
  obtain rfl := Option.some.inj h
  exact zr_lret hC hR ⟨rfl, rfl⟩ (Nat.le_refl _) (Nat.le_refl _) dX11_commonDivisor_52
/-! X11_parted -/
theorem hyX11_parted : yX11_parted.cls ≠ "java/lang/invoke/MethodHandle" ∧ yX11_parted.cls ≠ "java/lang/invoke/VarHandle" ∧ (parseMethodDescriptor yX11_parted.desc).map (fun d => d.parameters.length) = some 2 := by decide +kernel
def xX11_parted  (v0 : Int64) (v2 : Int64) : Option Int64 :=
  if (lg_cmp v2 (0 : Int64)) = 0 then
  (some (0 : Int64))
  else
  if v2 = 0 then none else
  some (v0 / v2)
set_option maxHeartbeats 4000000 in
set_option maxRecDepth 100000 in
theorem tX11_parted {κ : Nat → ClassId} {E : zEn} {ws : va_W} (hEk : zEk E)  {v0 : Int64} {v2 : Int64} {res : Int64} (h : xX11_parted  v0 v2 = some res) (l : Launch) (D : va_G) : zCT E D vwCl (zty κ) l yX11_parted wsX11_parted ({ frames := 0, cells := 0, slots := 0, locals := 0 } : Room) 0 0 [.long v0, .long v2] ws (zPd (some (.long res)) ws) := by
  refine zCT.of (cc := cX11_parted) (maxL := 4) (ret := (some .long)) (by decide) rfl (Nat.le_of_ble_eq_true rfl) ?_
  intro X hC hR
  unfold xX11_parted at h
  refine zV.sub (lv' := [(0, .long v0), (2, .long v2)]) [0, 1] rfl ?_
  refine zr_lload_n (pc := 0) hC 1 rfl rfl dX11_parted_0 ?_
  refine zr_lconst (pc := 1) hC zkl_0 dX11_parted_1 ?_
  refine zr_lcmp (pc := 2) hC dX11_parted_2 ?_
  refine zr_if_ne (pc := 3) (tgt := 10) hC dX11_parted_3 (by decide) (fun c1 => ?_) (fun c1 => ?_)
  · replace h := zin h c1
    refine zr_lload_n (pc := 10) hC 0 rfl rfl dX11_parted_10 ?_
    refine zr_lload_n (pc := 11) hC 1 rfl rfl dX11_parted_11 ?_
    obtain ⟨n2, h⟩ := zgd h
    refine zr_ldiv (pc := 12) hC n2 dX11_parted_12 ?_
    obtain rfl := Option.some.inj h
    exact zr_lret hC hR ⟨rfl, rfl⟩ (Nat.le_refl _) (Nat.le_refl _) dX11_parted_13
  · replace h := zip h c1
    refine zr_lconst (pc := 6) hC zkl_0 dX11_parted_6 ?_
    refine zr_goto (pc := 7) (tgt := 13) hC dX11_parted_7 (by decide) ?_
    obtain rfl := Option.some.inj h
    exact zr_lret hC hR ⟨rfl, rfl⟩ (Nat.le_refl _) (Nat.le_refl _) dX11_parted_13
/-! X10_addShares -/
theorem hyX10_addShares : yX10_addShares.cls = RX10 ∧ yX10_addShares.cls ≠ "java/lang/invoke/MethodHandle" ∧ yX10_addShares.cls ≠ "java/lang/invoke/VarHandle" ∧ (parseMethodDescriptor yX10_addShares.desc).map (fun d => d.parameters.length) = some 2 := by decide +kernel
theorem flX10_addShares_40 : Cond.fieldLink RX10 40 "BeforeTheEnd$Tree" "step" "[J" ∈ wsX10_addShares := by decide +kernel
theorem flX10_addShares_48 : Cond.fieldLink RX10 48 "BeforeTheEnd$Tree" "share" "[[J" ∈ wsX10_addShares := by decide +kernel
theorem flX10_addShares_51 : Cond.fieldLink RX10 51 "BeforeTheEnd$Tree" "far" "[[J" ∈ wsX10_addShares := by decide +kernel
theorem hinX10_addShares_X10 : ∀ w ∈ wsX100, w ∈ wsX10_addShares := fun _ h => List.mem_cons_of_mem _ (List.mem_append_right _ h)
def xX10_addShares_L19 (v1 : Int32) (v2 : Int32) (a : (zM × Int32)) : Option ((zM × Int32) ⊕ zM) :=
  if (10 : Int32) ≤ a.2 then
  (some (.inr a.1))
  else
  if (v1 < 0 ∨ 24 ≤ v1.toNatClampNeg) then none else
  if (a.2 < 0 ∨ 10 ≤ a.2.toNatClampNeg) then none else
  if (v2 < 0 ∨ 24 ≤ v2.toNatClampNeg) then none else
  zlet (zsj a.1 (14 + v1.toNatClampNeg) a.2.toNatClampNeg ((a.1.2 (14 + v1.toNatClampNeg) a.2.toNatClampNeg) + ((a.1.2 10 v2.toNatClampNeg) * (a.1.2 (14 + v2.toNatClampNeg) a.2.toNatClampNeg)))) fun M5 =>
  zlet (zsj M5 (38 + v1.toNatClampNeg) a.2.toNatClampNeg ((M5.2 (38 + v1.toNatClampNeg) a.2.toNatClampNeg) + ((M5.2 10 v2.toNatClampNeg) * ((M5.2 (38 + v2.toNatClampNeg) a.2.toNatClampNeg) + (M5.2 (14 + v2.toNatClampNeg) a.2.toNatClampNeg))))) fun M7 =>
  some (.inl (M7, (a.2 + (1 : Int32))))
set_option maxHeartbeats 4000000 in
set_option maxRecDepth 100000 in
theorem tX10_addShares_L19 {κ : Nat → ClassId} {tg : Nat} {S : zEn} {ad : Nat → Nat} {X : zX} {pT : zM} {pR : zM} {pX : zM} {pF : zM} {pB : zM} {pP : zP} {v1 : Int32} {v2 : Int32} {a : (zM × Int32)} {r : ((zM × Int32) ⊕ zM)} (hC : zC X cX10_addShares RX10 wsX10_addShares vwCl (zty κ) (zE tg S) 4 ({ frames := 1, cells := 0, slots := 0, locals := 21 } : Room)) (hEk : zEk (zE tg S)) (hin : ∀ a', r = .inl a' → zV X 0 0 (zwC κ ad a'.1 pR pX pF pB pP) [(0, .ref (ad 0)), (1, .int v1), (2, .int v2), (3, .int a'.2)] [] 19) (hout : ∀ b', r = .inr b' → zV X 0 0 (zwC κ ad b' pR pX pF pB pP) [] [] 92) (h : xX10_addShares_L19  v1 v2 a = some r) : zV X 0 0 (zwC κ ad a.1 pR pX pF pB pP) [(0, .ref (ad 0)), (1, .int v1), (2, .int v2), (3, .int a.2)] [] 19 := by
  unfold xX10_addShares_L19 at h
  refine zr_iload_n (pc := 19) hC 3 rfl rfl dX10_addShares_19 ?_
  refine zr_bipush (pc := 20) hC zkb_10 dX10_addShares_20 ?_
  refine zr_icmp_ge (pc := 22) (tgt := 92) hC dX10_addShares_22 (by decide) (fun c1 => ?_) (fun c1 => ?_)
  · replace h := zip h c1
    obtain rfl := Option.some.inj h
    exact zV.sub (lv' := []) [] rfl (hout _ rfl)
  · replace h := zin h c1
    refine zr_aload_n (pc := 25) hC 0 rfl rfl dX10_addShares_25 ?_
    refine zcg_0_11 (pc := 26) hC hinX10_addShares_X10 flX10_addShares_48 dX10_addShares_26 ?_
    refine zr_iload_n (pc := 29) hC 1 rfl rfl dX10_addShares_29 ?_
    obtain ⟨i2, h⟩ := zgd h
    refine zcr_12 (pc := 30) hC i2 dX10_addShares_30 ?_
    refine zr_iload_n (pc := 31) hC 3 rfl rfl dX10_addShares_31 ?_
    refine zr_dup2 (pc := 32) hC rfl rfl dX10_addShares_32 ?_
    obtain ⟨i3, h⟩ := zgd h
    refine zrl_14 (pc := 33) hC i2 i3 dX10_addShares_33 ?_
    refine zr_aload_n (pc := 34) hC 0 rfl rfl dX10_addShares_34 ?_
    refine zcg_0_9 (pc := 35) hC hinX10_addShares_X10 flX10_addShares_40 dX10_addShares_35 ?_
    refine zr_iload_n (pc := 38) hC 2 rfl rfl dX10_addShares_38 ?_
    obtain ⟨i4, h⟩ := zgd h
    refine zcl_10 (pc := 39) hC i4 dX10_addShares_39 ?_
    refine zr_aload_n (pc := 40) hC 0 rfl rfl dX10_addShares_40 ?_
    refine zcg_0_11 (pc := 41) hC hinX10_addShares_X10 flX10_addShares_48 dX10_addShares_41 ?_
    refine zr_iload_n (pc := 44) hC 2 rfl rfl dX10_addShares_44 ?_
    refine zcr_12 (pc := 45) hC i4 dX10_addShares_45 ?_
    refine zr_iload_n (pc := 46) hC 3 rfl rfl dX10_addShares_46 ?_
    refine zrl_14 (pc := 47) hC i4 i3 dX10_addShares_47 ?_
    refine zr_lmul (pc := 48) hC dX10_addShares_48 ?_
    refine zr_ladd (pc := 49) hC dX10_addShares_49 ?_
    obtain ⟨M5, e6, h⟩ := zle h
    refine zrs_14 (pc := 50) hC i2 i3 e6 dX10_addShares_50 ?_
    refine zr_aload_n (pc := 51) hC 0 rfl rfl dX10_addShares_51 ?_
    refine zcg_0_12 (pc := 52) hC hinX10_addShares_X10 flX10_addShares_51 dX10_addShares_52 ?_
    refine zr_iload_n (pc := 55) hC 1 rfl rfl dX10_addShares_55 ?_
    refine zcr_13 (pc := 56) hC i2 dX10_addShares_56 ?_
    refine zr_iload_n (pc := 57) hC 3 rfl rfl dX10_addShares_57 ?_
    refine zr_dup2 (pc := 58) hC rfl rfl dX10_addShares_58 ?_
    refine zrl_38 (pc := 59) hC i2 i3 dX10_addShares_59 ?_
    refine zr_aload_n (pc := 60) hC 0 rfl rfl dX10_addShares_60 ?_
    refine zcg_0_9 (pc := 61) hC hinX10_addShares_X10 flX10_addShares_40 dX10_addShares_61 ?_
    refine zr_iload_n (pc := 64) hC 2 rfl rfl dX10_addShares_64 ?_
    refine zcl_10 (pc := 65) hC i4 dX10_addShares_65 ?_
    refine zr_aload_n (pc := 66) hC 0 rfl rfl dX10_addShares_66 ?_
    refine zcg_0_12 (pc := 67) hC hinX10_addShares_X10 flX10_addShares_51 dX10_addShares_67 ?_
    refine zr_iload_n (pc := 70) hC 2 rfl rfl dX10_addShares_70 ?_
    refine zcr_13 (pc := 71) hC i4 dX10_addShares_71 ?_
    refine zr_iload_n (pc := 72) hC 3 rfl rfl dX10_addShares_72 ?_
    refine zrl_38 (pc := 73) hC i4 i3 dX10_addShares_73 ?_
    refine zr_aload_n (pc := 74) hC 0 rfl rfl dX10_addShares_74 ?_
    refine zcg_0_11 (pc := 75) hC hinX10_addShares_X10 flX10_addShares_48 dX10_addShares_75 ?_
    refine zr_iload_n (pc := 78) hC 2 rfl rfl dX10_addShares_78 ?_
    refine zcr_12 (pc := 79) hC i4 dX10_addShares_79 ?_
    refine zr_iload_n (pc := 80) hC 3 rfl rfl dX10_addShares_80 ?_
    refine zrl_14 (pc := 81) hC i4 i3 dX10_addShares_81 ?_
    refine zr_ladd (pc := 82) hC dX10_addShares_82 ?_
    refine zr_lmul (pc := 83) hC dX10_addShares_83 ?_
    refine zr_ladd (pc := 84) hC dX10_addShares_84 ?_
    obtain ⟨M7, e8, h⟩ := zle h
    refine zrs_38 (pc := 85) hC i2 i3 e8 dX10_addShares_85 ?_
    refine zr_iinc (pc := 86) (k := 3) (lv' := [(3, .int (a.2 + (1 : Int32))), (0, .ref (ad 0)), (1, .int v1), (2, .int v2)]) hC zki_1 (by decide) rfl rfl dX10_addShares_86 ?_
    refine zr_goto (pc := 89) (tgt := 19) hC dX10_addShares_89 (by decide) ?_
    obtain rfl := Option.some.inj h
    exact zV.sub (lv' := [(0, .ref (ad 0)), (1, .int v1), (2, .int v2), (3, .int (a.2 + (1 : Int32)))]) [1, 2, 3, 0] rfl (hin _ rfl)
def xX10_addShares (pT : zM) (v1 : Int32) (v2 : Int32) : Option zM :=
  (xX10_has pT v1).bind fun q1 =>
  if q1 = 0 then
  (some pT)
  else
  (xX10_has pT v2).bind fun q3 =>
  if q3 = 0 then
  (some pT)
  else
  (x_it (xX10_addShares_L19 v1 v2) zFU (pT, (1 : Int32))).bind fun q5 =>
  some q5
set_option maxHeartbeats 4000000 in
set_option maxRecDepth 100000 in
theorem tX10_addShares {κ : Nat → ClassId} {tg : Nat} {S : zEn} {ad : Nat → Nat} (hEk : zEk (zE tg S)) {pT : zM} {pR : zM} {pX : zM} {pF : zM} {pB : zM} {pP : zP} {v1 : Int32} {v2 : Int32} {res : zM} (h : xX10_addShares pT v1 v2 = some res) (l : Launch) (D : va_G) : zCT (zE tg S) D vwCl (zty κ) l yX10_addShares wsX10_addShares ({ frames := 1, cells := 0, slots := 0, locals := 21 } : Room) 0 0 [.ref (ad 0), .int v1, .int v2] (zwC κ ad pT pR pX pF pB pP) (zPd none (zwC κ ad res pR pX pF pB pP)) := by
  refine zCT.of (cc := cX10_addShares) (maxL := 4) (ret := none) (by decide) rfl (Nat.le_of_ble_eq_true rfl) ?_
  intro X hC hR
  unfold xX10_addShares at h
  refine zV.sub (lv' := [(0, .ref (ad 0)), (1, .int v1), (2, .int v2)]) [0, 1, 2] rfl ?_
  refine zr_aload_n (pc := 0) hC 0 rfl rfl dX10_addShares_0 ?_
  refine zr_iload_n (pc := 1) hC 1 rfl rfl dX10_addShares_1 ?_
  obtain ⟨q1, hq1, h⟩ := zbd h
  refine zr_cVi (pc := 2) hC hEk [.int v1] [] 0 1 (fun l D => tX10_has hEk hq1 l D) gX10_addShares_X10_has rfl rfl rfl ⟨Nat.le_of_ble_eq_true rfl, Nat.le_of_ble_eq_true rfl⟩ hyX10_has (zNC (by decide)) entC_0 rfl rfl rfl (Nat.le_of_ble_eq_true rfl) ⟨Nat.le_of_ble_eq_true rfl, Nat.le_of_ble_eq_true rfl⟩ dX10_addShares_2 ?_
  refine zr_if_eq (pc := 5) (tgt := 16) hC dX10_addShares_5 (by decide) (fun c2 => ?_) (fun c2 => ?_)
  · replace h := zip h c2
    obtain rfl := Option.some.inj h
    exact zr_vret hC hR ⟨rfl, rfl⟩ (Nat.le_refl _) (Nat.le_refl _) dX10_addShares_16
  · replace h := zin h c2
    refine zr_aload_n (pc := 8) hC 0 rfl rfl dX10_addShares_8 ?_
    refine zr_iload_n (pc := 9) hC 2 rfl rfl dX10_addShares_9 ?_
    obtain ⟨q3, hq3, h⟩ := zbd h
    refine zr_cVi (pc := 10) hC hEk [.int v2] [] 0 1 (fun l D => tX10_has hEk hq3 l D) gX10_addShares_X10_has rfl rfl rfl ⟨Nat.le_of_ble_eq_true rfl, Nat.le_of_ble_eq_true rfl⟩ hyX10_has (zNC (by decide)) entC_0 rfl rfl rfl (Nat.le_of_ble_eq_true rfl) ⟨Nat.le_of_ble_eq_true rfl, Nat.le_of_ble_eq_true rfl⟩ dX10_addShares_10 ?_
    refine zr_if_ne (pc := 13) (tgt := 17) hC dX10_addShares_13 (by decide) (fun c4 => ?_) (fun c4 => ?_)
    · replace h := zin h c4
      refine zr_iconst (pc := 17) hC zki_1 dX10_addShares_17 ?_
      refine zr_istore_n (pc := 18) (lv' := [(3, .int (1 : Int32)), (0, .ref (ad 0)), (1, .int v1), (2, .int v2)]) hC rfl (by decide) rfl dX10_addShares_18 ?_
      obtain ⟨q5, hq5, h⟩ := zbd h
      refine zV.sub (lv' := [(0, .ref (ad 0)), (1, .int v1), (2, .int v2), (3, .int (1 : Int32))]) [1, 2, 3, 0] rfl ?_
      refine zit (Wp := fun (a : (zM × Int32)) => zV X 0 0 (zwC κ ad a.1 pR pX pF pB pP) [(0, .ref (ad 0)), (1, .int v1), (2, .int v2), (3, .int a.2)] [] 19) (Ex := fun (b : zM) => zV X 0 0 (zwC κ ad b pR pX pF pB pP) [] [] 92) (fun a r hr hin hout => tX10_addShares_L19 hC hEk hin hout hr) zFU (pT, (1 : Int32)) q5 hq5 ?_
      show zV X 0 0 (zwC κ ad q5 pR pX pF pB pP) [] [] 92
      obtain rfl := Option.some.inj h
      exact zr_vret hC hR ⟨rfl, rfl⟩ (Nat.le_refl _) (Nat.le_refl _) dX10_addShares_92
    · replace h := zip h c4
      obtain rfl := Option.some.inj h
      exact zr_vret hC hR ⟨rfl, rfl⟩ (Nat.le_refl _) (Nat.le_refl _) dX10_addShares_16
/-! X10_lookBehind -/
theorem hyX10_lookBehind : yX10_lookBehind.cls = RX10 ∧ yX10_lookBehind.cls ≠ "java/lang/invoke/MethodHandle" ∧ yX10_lookBehind.cls ≠ "java/lang/invoke/VarHandle" ∧ (parseMethodDescriptor yX10_lookBehind.desc).map (fun d => d.parameters.length) = some 1 := by decide +kernel
theorem flX10_lookBehind_15 : Cond.fieldLink RX10 15 "BeforeTheEnd$Tree" "weight" "[I" ∈ wsX10_lookBehind := by decide +kernel
theorem flX10_lookBehind_18 : Cond.fieldLink RX10 18 "BeforeTheEnd$Tree" "answer" "[I" ∈ wsX10_lookBehind := by decide +kernel
theorem flX10_lookBehind_24 : Cond.fieldLink RX10 24 "BeforeTheEnd$Tree" "nexts" "[I" ∈ wsX10_lookBehind := by decide +kernel
theorem flX10_lookBehind_27 : Cond.fieldLink RX10 27 "BeforeTheEnd$Tree" "nextSum" "[I" ∈ wsX10_lookBehind := by decide +kernel
theorem flX10_lookBehind_30 : Cond.fieldLink RX10 30 "BeforeTheEnd$Tree" "behind" "[I" ∈ wsX10_lookBehind := by decide +kernel
theorem flX10_lookBehind_36 : Cond.fieldLink RX10 36 "BeforeTheEnd$Tree" "below" "[J" ∈ wsX10_lookBehind := by decide +kernel
theorem flX10_lookBehind_40 : Cond.fieldLink RX10 40 "BeforeTheEnd$Tree" "step" "[J" ∈ wsX10_lookBehind := by decide +kernel
theorem flX10_lookBehind_48 : Cond.fieldLink RX10 48 "BeforeTheEnd$Tree" "share" "[[J" ∈ wsX10_lookBehind := by decide +kernel
theorem flX10_lookBehind_51 : Cond.fieldLink RX10 51 "BeforeTheEnd$Tree" "far" "[[J" ∈ wsX10_lookBehind := by decide +kernel
theorem flX10_lookBehind_54 : Cond.fieldLink RX10 54 "BeforeTheEnd$Tree" "count" "I" ∈ wsX10_lookBehind := by decide +kernel
theorem flX10_lookBehind_58 : Cond.fieldLink RX10 58 "BeforeTheEnd$Tree" "ends" "I" ∈ wsX10_lookBehind := by decide +kernel
theorem flX10_lookBehind_61 : Cond.fieldLink RX10 61 "BeforeTheEnd$Tree" "allClosed" "Z" ∈ wsX10_lookBehind := by decide +kernel
theorem flX10_lookBehind_9 : Cond.fieldLink RX10 9 "BeforeTheEnd$Tree" "parent" "[I" ∈ wsX10_lookBehind := by decide +kernel
theorem iniX10_lookBehind_X11 : Cond.initialized yX11_commonDivisor.cls ∈ wsX10_lookBehind := by decide +kernel
theorem staX10_lookBehind_X11_commonDivisor : Cond.static yX11_commonDivisor ∈ wsX10_lookBehind := by decide +kernel
theorem staX10_lookBehind_X11_parted : Cond.static yX11_parted ∈ wsX10_lookBehind := by decide +kernel
theorem hinX10_lookBehind_X10 : ∀ w ∈ wsX100, w ∈ wsX10_lookBehind := fun _ h => List.mem_cons_of_mem _ (List.mem_append_right _ h)
def xX10_lookBehind_L60_b54 (v1 : Int32) (a : (zM × Int64 × Int64 × Int32)) : Option ((zM × Int64 × Int64 × Int32) ⊕ (zM × Int64 × Int64)) :=
  if (24 : Int32) ≤ a.2.2.2 then
  (some (.inr (a.1, a.2.1, a.2.2.1)))
  else
  if (a.1.1 0 13) ≤ a.2.2.2 then
  (some (.inr (a.1, a.2.1, a.2.2.1)))
  else
  if (a.2.2.2 < 0 ∨ 24 ≤ a.2.2.2.toNatClampNeg) then none else
  if (a.1.1 1 a.2.2.2.toNatClampNeg) = v1 then
  (if (v1 < 0 ∨ 24 ≤ v1.toNatClampNeg) then none else
  zlet (zsi a.1 5 v1.toNatClampNeg ((a.1.1 5 v1.toNatClampNeg) + (1 : Int32))) fun M6 =>
  zlet (zsi M6 6 v1.toNatClampNeg ((M6.1 6 v1.toNatClampNeg) + (M6.1 2 a.2.2.2.toNatClampNeg))) fun M8 =>
  zlet (zsi M8 7 v1.toNatClampNeg ((M8.1 7 v1.toNatClampNeg) ||| (M8.1 7 a.2.2.2.toNatClampNeg))) fun M10 =>
  (xX11_commonDivisor a.2.1 (M10.1 2 a.2.2.2.toNatClampNeg).toInt64).bind fun q12 =>
  (xX11_commonDivisor a.2.2.1 (M10.2 9 a.2.2.2.toNatClampNeg)).bind fun q13 =>
  (xX11_parted a.2.2.1 q13).bind fun q14 =>
  zlet (q14 * (M10.2 9 a.2.2.2.toNatClampNeg)) fun z15 =>
  some (.inl (M10, q12, z15, (a.2.2.2 + (1 : Int32)))))
  else
  some (.inl (a.1, a.2.1, a.2.2.1, (a.2.2.2 + (1 : Int32))))
set_option maxHeartbeats 4000000 in
set_option maxRecDepth 100000 in
theorem tX10_lookBehind_L60_b54 {κ : Nat → ClassId} {tg : Nat} {S : zEn} {ad : Nat → Nat} {X : zX} {pT : zM} {pR : zM} {pX : zM} {pF : zM} {pB : zM} {pP : zP} {v1 : Int32} {a : (zM × Int64 × Int64 × Int32)} {r : ((zM × Int64 × Int64 × Int32) ⊕ (zM × Int64 × Int64))} (hC : zC X cX10_lookBehind RX10 wsX10_lookBehind vwCl (zty κ) (zE tg S) 7 ({ frames := 2, cells := 0, slots := 0, locals := 51 } : Room)) (hEk : zEk (zE tg S)) (hin : ∀ a', r = .inl a' → zV X 0 0 (zwC κ ad a'.1 pR pX pF pB pP) [(0, .ref (ad 0)), (1, .int v1), (2, .long a'.2.1), (4, .long a'.2.2.1), (6, .int a'.2.2.2)] [] 60) (hout : ∀ b', r = .inr b' → zV X 0 0 (zwC κ ad b'.1 pR pX pF pB pP) [(0, .ref (ad 0)), (1, .int v1), (2, .long b'.2.1), (4, .long b'.2.2)] [] 178) (h : xX10_lookBehind_L60_b54  v1 a = some r) : zV X 0 0 (zwC κ ad a.1 pR pX pF pB pP) [(0, .ref (ad 0)), (1, .int v1), (2, .long a.2.1), (4, .long a.2.2.1), (6, .int a.2.2.2)] [] 60 := by
  unfold xX10_lookBehind_L60_b54 at h
  refine zr_iload (pc := 60) hC 4 rfl dX10_lookBehind_60 ?_
  refine zr_bipush (pc := 62) hC zkb_24 dX10_lookBehind_62 ?_
  refine zr_icmp_ge (pc := 64) (tgt := 178) hC dX10_lookBehind_64 (by decide) (fun c1 => ?_) (fun c1 => ?_)
  · replace h := zip h c1
    obtain rfl := Option.some.inj h
    exact zV.sub (lv' := [(0, .ref (ad 0)), (1, .int v1), (2, .long a.2.1), (4, .long a.2.2.1)]) [0, 1, 2, 3] rfl (hout _ rfl)
  · replace h := zin h c1
    refine zr_iload (pc := 67) hC 4 rfl dX10_lookBehind_67 ?_
    refine zr_aload_n (pc := 69) hC 0 rfl rfl dX10_lookBehind_69 ?_
    refine zcg_0_13 (pc := 70) hC hinX10_lookBehind_X10 flX10_lookBehind_54 dX10_lookBehind_70 ?_
    refine zr_icmp_ge (pc := 73) (tgt := 178) hC dX10_lookBehind_73 (by decide) (fun c2 => ?_) (fun c2 => ?_)
    · replace h := zip h c2
      obtain rfl := Option.some.inj h
      exact zV.sub (lv' := [(0, .ref (ad 0)), (1, .int v1), (2, .long a.2.1), (4, .long a.2.2.1)]) [0, 1, 2, 3] rfl (hout _ rfl)
    · replace h := zin h c2
      refine zr_aload_n (pc := 76) hC 0 rfl rfl dX10_lookBehind_76 ?_
      refine zcg_0_0 (pc := 77) hC hinX10_lookBehind_X10 flX10_lookBehind_9 dX10_lookBehind_77 ?_
      refine zr_iload (pc := 80) hC 4 rfl dX10_lookBehind_80 ?_
      obtain ⟨i3, h⟩ := zgd h
      refine zcl_1 (pc := 82) hC i3 dX10_lookBehind_82 ?_
      refine zr_iload_n (pc := 83) hC 1 rfl rfl dX10_lookBehind_83 ?_
      refine zr_icmp_eq (pc := 84) (tgt := 90) hC dX10_lookBehind_84 (by decide) (fun c4 => ?_) (fun c4 => ?_)
      · replace h := zip h c4
        refine zr_aload_n (pc := 90) hC 0 rfl rfl dX10_lookBehind_90 ?_
        refine zcg_0_4 (pc := 91) hC hinX10_lookBehind_X10 flX10_lookBehind_24 dX10_lookBehind_91 ?_
        refine zr_iload_n (pc := 94) hC 1 rfl rfl dX10_lookBehind_94 ?_
        refine zr_dup2 (pc := 95) hC rfl rfl dX10_lookBehind_95 ?_
        obtain ⟨i5, h⟩ := zgd h
        refine zcl_5 (pc := 96) hC i5 dX10_lookBehind_96 ?_
        refine zr_iconst (pc := 97) hC zki_1 dX10_lookBehind_97 ?_
        refine zr_iadd (pc := 98) hC dX10_lookBehind_98 ?_
        obtain ⟨M6, e7, h⟩ := zle h
        refine zcs_5 (pc := 99) hC i5 e7 dX10_lookBehind_99 ?_
        refine zr_aload_n (pc := 100) hC 0 rfl rfl dX10_lookBehind_100 ?_
        refine zcg_0_5 (pc := 101) hC hinX10_lookBehind_X10 flX10_lookBehind_27 dX10_lookBehind_101 ?_
        refine zr_iload_n (pc := 104) hC 1 rfl rfl dX10_lookBehind_104 ?_
        refine zr_dup2 (pc := 105) hC rfl rfl dX10_lookBehind_105 ?_
        refine zcl_6 (pc := 106) hC i5 dX10_lookBehind_106 ?_
        refine zr_aload_n (pc := 107) hC 0 rfl rfl dX10_lookBehind_107 ?_
        refine zcg_0_1 (pc := 108) hC hinX10_lookBehind_X10 flX10_lookBehind_15 dX10_lookBehind_108 ?_
        refine zr_iload (pc := 111) hC 4 rfl dX10_lookBehind_111 ?_
        refine zcl_2 (pc := 113) hC i3 dX10_lookBehind_113 ?_
        refine zr_iadd (pc := 114) hC dX10_lookBehind_114 ?_
        obtain ⟨M8, e9, h⟩ := zle h
        refine zcs_6 (pc := 115) hC i5 e9 dX10_lookBehind_115 ?_
        refine zr_aload_n (pc := 116) hC 0 rfl rfl dX10_lookBehind_116 ?_
        refine zcg_0_6 (pc := 117) hC hinX10_lookBehind_X10 flX10_lookBehind_30 dX10_lookBehind_117 ?_
        refine zr_iload_n (pc := 120) hC 1 rfl rfl dX10_lookBehind_120 ?_
        refine zr_dup2 (pc := 121) hC rfl rfl dX10_lookBehind_121 ?_
        refine zcl_7 (pc := 122) hC i5 dX10_lookBehind_122 ?_
        refine zr_aload_n (pc := 123) hC 0 rfl rfl dX10_lookBehind_123 ?_
        refine zcg_0_6 (pc := 124) hC hinX10_lookBehind_X10 flX10_lookBehind_30 dX10_lookBehind_124 ?_
        refine zr_iload (pc := 127) hC 4 rfl dX10_lookBehind_127 ?_
        refine zcl_7 (pc := 129) hC i3 dX10_lookBehind_129 ?_
        refine zr_ior (pc := 130) hC dX10_lookBehind_130 ?_
        obtain ⟨M10, e11, h⟩ := zle h
        refine zcs_7 (pc := 131) hC i5 e11 dX10_lookBehind_131 ?_
        refine zr_lload_n (pc := 132) hC 2 rfl rfl dX10_lookBehind_132 ?_
        refine zr_aload_n (pc := 133) hC 0 rfl rfl dX10_lookBehind_133 ?_
        refine zcg_0_1 (pc := 134) hC hinX10_lookBehind_X10 flX10_lookBehind_15 dX10_lookBehind_134 ?_
        refine zr_iload (pc := 137) hC 4 rfl dX10_lookBehind_137 ?_
        refine zcl_2 (pc := 139) hC i3 dX10_lookBehind_139 ?_
        refine zr_i2l (pc := 140) hC dX10_lookBehind_140 ?_
        obtain ⟨q12, hq12, h⟩ := zbd h
        refine zr_cNl (pc := 141) (host := "BeforeTheEnd") hC hEk [.long a.2.1, .long (M10.1 2 a.2.2.2.toNatClampNeg).toInt64] [] 2 (fun l D => tX11_commonDivisor hEk hq12 l D) gX10_lookBehind_X11_commonDivisor_n79 (zE_n79) (iniX10_lookBehind_X11) (staX10_lookBehind_X11_commonDivisor) rfl rfl rfl ⟨Nat.le_of_ble_eq_true rfl, Nat.le_of_ble_eq_true rfl⟩ hyX11_commonDivisor rfl rfl (Nat.le_of_ble_eq_true rfl) ⟨Nat.le_of_ble_eq_true rfl, Nat.le_of_ble_eq_true rfl⟩ dX10_lookBehind_141 ?_
        refine zr_lstore_n (pc := 144) (lv' := [(2, .long q12), (0, .ref (ad 0)), (1, .int v1), (4, .long a.2.2.1), (6, .int a.2.2.2)]) hC rfl (by decide) rfl dX10_lookBehind_144 ?_
        refine zr_lload (pc := 145) hC 3 rfl dX10_lookBehind_145 ?_
        refine zr_lload (pc := 147) hC 3 rfl dX10_lookBehind_147 ?_
        refine zr_aload_n (pc := 149) hC 1 rfl rfl dX10_lookBehind_149 ?_
        refine zcg_0_8 (pc := 150) hC hinX10_lookBehind_X10 flX10_lookBehind_36 dX10_lookBehind_150 ?_
        refine zr_iload (pc := 153) hC 4 rfl dX10_lookBehind_153 ?_
        refine zcl_9 (pc := 155) hC i3 dX10_lookBehind_155 ?_
        obtain ⟨q13, hq13, h⟩ := zbd h
        refine zr_cNl (pc := 156) (host := "BeforeTheEnd") hC hEk [.long a.2.2.1, .long (M10.2 9 a.2.2.2.toNatClampNeg)] [.long a.2.2.1] 2 (fun l D => tX11_commonDivisor hEk hq13 l D) gX10_lookBehind_X11_commonDivisor_n79 (zE_n79) (iniX10_lookBehind_X11) (staX10_lookBehind_X11_commonDivisor) rfl rfl rfl ⟨Nat.le_of_ble_eq_true rfl, Nat.le_of_ble_eq_true rfl⟩ hyX11_commonDivisor rfl rfl (Nat.le_of_ble_eq_true rfl) ⟨Nat.le_of_ble_eq_true rfl, Nat.le_of_ble_eq_true rfl⟩ dX10_lookBehind_156 ?_
        obtain ⟨q14, hq14, h⟩ := zbd h
        refine zr_cNl (pc := 159) (host := "BeforeTheEnd") hC hEk [.long a.2.2.1, .long q13] [] 2 (fun l D => tX11_parted hEk hq14 l D) gX10_lookBehind_X11_parted_n83 (zE_n83) (iniX10_lookBehind_X11) (staX10_lookBehind_X11_parted) rfl rfl rfl ⟨Nat.le_of_ble_eq_true rfl, Nat.le_of_ble_eq_true rfl⟩ hyX11_parted rfl rfl (Nat.le_of_ble_eq_true rfl) ⟨Nat.le_of_ble_eq_true rfl, Nat.le_of_ble_eq_true rfl⟩ dX10_lookBehind_159 ?_
        refine zr_aload_n (pc := 162) hC 1 rfl rfl dX10_lookBehind_162 ?_
        refine zcg_0_8 (pc := 163) hC hinX10_lookBehind_X10 flX10_lookBehind_36 dX10_lookBehind_163 ?_
        refine zr_iload (pc := 166) hC 4 rfl dX10_lookBehind_166 ?_
        refine zcl_9 (pc := 168) hC i3 dX10_lookBehind_168 ?_
        refine zr_lmul (pc := 169) hC dX10_lookBehind_169 ?_
        obtain ⟨z15, e16, h⟩ := zle h
        refine zr_topl e16 ?_
        refine zr_lstore (pc := 170) (lv' := [(4, .long z15), (2, .long q12), (0, .ref (ad 0)), (1, .int v1), (6, .int a.2.2.2)]) hC (by decide) rfl dX10_lookBehind_170 ?_
        refine zr_iinc (pc := 172) (k := 4) (lv' := [(6, .int (a.2.2.2 + (1 : Int32))), (4, .long z15), (2, .long q12), (0, .ref (ad 0)), (1, .int v1)]) hC zki_1 (by decide) rfl rfl dX10_lookBehind_172 ?_
        refine zr_goto (pc := 175) (tgt := 60) hC dX10_lookBehind_175 (by decide) ?_
        obtain rfl := Option.some.inj h
        exact zV.sub (lv' := [(0, .ref (ad 0)), (1, .int v1), (2, .long q12), (4, .long z15), (6, .int (a.2.2.2 + (1 : Int32)))]) [3, 4, 2, 1, 0] rfl (hin _ rfl)
      · replace h := zin h c4
        refine zr_goto (pc := 87) (tgt := 172) hC dX10_lookBehind_87 (by decide) ?_
        refine zr_iinc (pc := 172) (k := 4) (lv' := [(6, .int (a.2.2.2 + (1 : Int32))), (0, .ref (ad 0)), (1, .int v1), (2, .long a.2.1), (4, .long a.2.2.1)]) hC zki_1 (by decide) rfl rfl dX10_lookBehind_172 ?_
        refine zr_goto (pc := 175) (tgt := 60) hC dX10_lookBehind_175 (by decide) ?_
        obtain rfl := Option.some.inj h
        exact zV.sub (lv' := [(0, .ref (ad 0)), (1, .int v1), (2, .long a.2.1), (4, .long a.2.2.1), (6, .int (a.2.2.2 + (1 : Int32)))]) [1, 2, 3, 4, 0] rfl (hin _ rfl)
def xX10_lookBehind_L214_b210 (v1 : Int32) (v2 : Int64) (v4 : Int64) (a : (zM × Int32)) : Option ((zM × Int32) ⊕ zM) :=
  if (10 : Int32) ≤ a.2 then
  (some (.inr a.1))
  else
  if (v1 < 0 ∨ 24 ≤ v1.toNatClampNeg) then none else
  if a.2 ≤ 0 then
  (if (a.2 < 0 ∨ 10 ≤ a.2.toNatClampNeg) then none else
  zlet (zsj a.1 (14 + v1.toNatClampNeg) a.2.toNatClampNeg (0 : Int64)) fun M5 =>
  zlet (zsj M5 (38 + v1.toNatClampNeg) a.2.toNatClampNeg (0 : Int64)) fun M7 =>
  some (.inl (M7, (a.2 + (1 : Int32)))))
  else
  if a.2 = (a.1.1 3 v1.toNatClampNeg) then
  (if (a.2 < 0 ∨ 10 ≤ a.2.toNatClampNeg) then none else
  zlet (zsj a.1 (14 + v1.toNatClampNeg) a.2.toNatClampNeg (1 : Int64)) fun M16 =>
  zlet (zsj M16 (38 + v1.toNatClampNeg) a.2.toNatClampNeg (0 : Int64)) fun M18 =>
  some (.inl (M18, (a.2 + (1 : Int32)))))
  else
  if (a.2 < 0 ∨ 10 ≤ a.2.toNatClampNeg) then none else
  zlet (zsj a.1 (14 + v1.toNatClampNeg) a.2.toNatClampNeg (0 : Int64)) fun M11 =>
  zlet (zsj M11 (38 + v1.toNatClampNeg) a.2.toNatClampNeg (0 : Int64)) fun M13 =>
  some (.inl (M13, (a.2 + (1 : Int32))))
set_option maxHeartbeats 4000000 in
set_option maxRecDepth 100000 in
theorem tX10_lookBehind_L214_b210 {κ : Nat → ClassId} {tg : Nat} {S : zEn} {ad : Nat → Nat} {X : zX} {pT : zM} {pR : zM} {pX : zM} {pF : zM} {pB : zM} {pP : zP} {v1 : Int32} {v2 : Int64} {v4 : Int64} {a : (zM × Int32)} {r : ((zM × Int32) ⊕ zM)} (hC : zC X cX10_lookBehind RX10 wsX10_lookBehind vwCl (zty κ) (zE tg S) 7 ({ frames := 2, cells := 0, slots := 0, locals := 51 } : Room)) (hEk : zEk (zE tg S)) (hin : ∀ a', r = .inl a' → zV X 0 0 (zwC κ ad a'.1 pR pX pF pB pP) [(0, .ref (ad 0)), (1, .int v1), (2, .long v2), (4, .long v4), (6, .int a'.2)] [] 214) (hout : ∀ b', r = .inr b' → zV X 0 0 (zwC κ ad b' pR pX pF pB pP) [(0, .ref (ad 0)), (1, .int v1), (2, .long v2), (4, .long v4)] [] 267) (h : xX10_lookBehind_L214_b210  v1 v2 v4 a = some r) : zV X 0 0 (zwC κ ad a.1 pR pX pF pB pP) [(0, .ref (ad 0)), (1, .int v1), (2, .long v2), (4, .long v4), (6, .int a.2)] [] 214 := by
  unfold xX10_lookBehind_L214_b210 at h
  refine zr_iload (pc := 214) hC 4 rfl dX10_lookBehind_214 ?_
  refine zr_bipush (pc := 216) hC zkb_10 dX10_lookBehind_216 ?_
  refine zr_icmp_ge (pc := 218) (tgt := 267) hC dX10_lookBehind_218 (by decide) (fun c1 => ?_) (fun c1 => ?_)
  · replace h := zip h c1
    obtain rfl := Option.some.inj h
    exact zV.sub (lv' := [(0, .ref (ad 0)), (1, .int v1), (2, .long v2), (4, .long v4)]) [0, 1, 2, 3] rfl (hout _ rfl)
  · replace h := zin h c1
    refine zr_aload_n (pc := 221) hC 0 rfl rfl dX10_lookBehind_221 ?_
    refine zcg_0_11 (pc := 222) hC hinX10_lookBehind_X10 flX10_lookBehind_48 dX10_lookBehind_222 ?_
    refine zr_iload_n (pc := 225) hC 1 rfl rfl dX10_lookBehind_225 ?_
    obtain ⟨i2, h⟩ := zgd h
    refine zcr_12 (pc := 226) hC i2 dX10_lookBehind_226 ?_
    refine zr_iload (pc := 227) hC 4 rfl dX10_lookBehind_227 ?_
    refine zr_iload (pc := 229) hC 4 rfl dX10_lookBehind_229 ?_
    refine zr_if_le (pc := 231) (tgt := 249) hC dX10_lookBehind_231 (by decide) (fun c3 => ?_) (fun c3 => ?_)
    · replace h := zip h c3
      refine zr_lconst (pc := 249) hC zkl_0 dX10_lookBehind_249 ?_
      obtain ⟨i4, h⟩ := zgd h
      obtain ⟨M5, e6, h⟩ := zle h
      refine zrs_14 (pc := 250) hC i2 i4 e6 dX10_lookBehind_250 ?_
      refine zr_aload_n (pc := 251) hC 0 rfl rfl dX10_lookBehind_251 ?_
      refine zcg_0_12 (pc := 252) hC hinX10_lookBehind_X10 flX10_lookBehind_51 dX10_lookBehind_252 ?_
      refine zr_iload_n (pc := 255) hC 1 rfl rfl dX10_lookBehind_255 ?_
      refine zcr_13 (pc := 256) hC i2 dX10_lookBehind_256 ?_
      refine zr_iload (pc := 257) hC 4 rfl dX10_lookBehind_257 ?_
      refine zr_lconst (pc := 259) hC zkl_0 dX10_lookBehind_259 ?_
      obtain ⟨M7, e8, h⟩ := zle h
      refine zrs_38 (pc := 260) hC i2 i4 e8 dX10_lookBehind_260 ?_
      refine zr_iinc (pc := 261) (k := 4) (lv' := [(6, .int (a.2 + (1 : Int32))), (0, .ref (ad 0)), (1, .int v1), (2, .long v2), (4, .long v4)]) hC zki_1 (by decide) rfl rfl dX10_lookBehind_261 ?_
      refine zr_goto (pc := 264) (tgt := 214) hC dX10_lookBehind_264 (by decide) ?_
      obtain rfl := Option.some.inj h
      exact zV.sub (lv' := [(0, .ref (ad 0)), (1, .int v1), (2, .long v2), (4, .long v4), (6, .int (a.2 + (1 : Int32)))]) [1, 2, 3, 4, 0] rfl (hin _ rfl)
    · replace h := zin h c3
      refine zr_iload (pc := 234) hC 4 rfl dX10_lookBehind_234 ?_
      refine zr_aload_n (pc := 236) hC 0 rfl rfl dX10_lookBehind_236 ?_
      refine zcg_0_2 (pc := 237) hC hinX10_lookBehind_X10 flX10_lookBehind_18 dX10_lookBehind_237 ?_
      refine zr_iload_n (pc := 240) hC 1 rfl rfl dX10_lookBehind_240 ?_
      refine zcl_3 (pc := 241) hC i2 dX10_lookBehind_241 ?_
      refine zr_icmp_ne (pc := 242) (tgt := 249) hC dX10_lookBehind_242 (by decide) (fun c9 => ?_) (fun c9 => ?_)
      · replace h := zin h c9
        refine zr_lconst (pc := 249) hC zkl_0 dX10_lookBehind_249 ?_
        obtain ⟨i10, h⟩ := zgd h
        obtain ⟨M11, e12, h⟩ := zle h
        refine zrs_14 (pc := 250) hC i2 i10 e12 dX10_lookBehind_250 ?_
        refine zr_aload_n (pc := 251) hC 0 rfl rfl dX10_lookBehind_251 ?_
        refine zcg_0_12 (pc := 252) hC hinX10_lookBehind_X10 flX10_lookBehind_51 dX10_lookBehind_252 ?_
        refine zr_iload_n (pc := 255) hC 1 rfl rfl dX10_lookBehind_255 ?_
        refine zcr_13 (pc := 256) hC i2 dX10_lookBehind_256 ?_
        refine zr_iload (pc := 257) hC 4 rfl dX10_lookBehind_257 ?_
        refine zr_lconst (pc := 259) hC zkl_0 dX10_lookBehind_259 ?_
        obtain ⟨M13, e14, h⟩ := zle h
        refine zrs_38 (pc := 260) hC i2 i10 e14 dX10_lookBehind_260 ?_
        refine zr_iinc (pc := 261) (k := 4) (lv' := [(6, .int (a.2 + (1 : Int32))), (0, .ref (ad 0)), (1, .int v1), (2, .long v2), (4, .long v4)]) hC zki_1 (by decide) rfl rfl dX10_lookBehind_261 ?_
        refine zr_goto (pc := 264) (tgt := 214) hC dX10_lookBehind_264 (by decide) ?_
        obtain rfl := Option.some.inj h
        exact zV.sub (lv' := [(0, .ref (ad 0)), (1, .int v1), (2, .long v2), (4, .long v4), (6, .int (a.2 + (1 : Int32)))]) [1, 2, 3, 4, 0] rfl (hin _ rfl)
      · replace h := zip h c9
        refine zr_lconst (pc := 245) hC zkl_1 dX10_lookBehind_245 ?_
        refine zr_goto (pc := 246) (tgt := 250) hC dX10_lookBehind_246 (by decide) ?_
        obtain ⟨i15, h⟩ := zgd h
        obtain ⟨M16, e17, h⟩ := zle h
        refine zrs_14 (pc := 250) hC i2 i15 e17 dX10_lookBehind_250 ?_
        refine zr_aload_n (pc := 251) hC 0 rfl rfl dX10_lookBehind_251 ?_
        refine zcg_0_12 (pc := 252) hC hinX10_lookBehind_X10 flX10_lookBehind_51 dX10_lookBehind_252 ?_
        refine zr_iload_n (pc := 255) hC 1 rfl rfl dX10_lookBehind_255 ?_
        refine zcr_13 (pc := 256) hC i2 dX10_lookBehind_256 ?_
        refine zr_iload (pc := 257) hC 4 rfl dX10_lookBehind_257 ?_
        refine zr_lconst (pc := 259) hC zkl_0 dX10_lookBehind_259 ?_
        obtain ⟨M18, e19, h⟩ := zle h
        refine zrs_38 (pc := 260) hC i2 i15 e19 dX10_lookBehind_260 ?_
        refine zr_iinc (pc := 261) (k := 4) (lv' := [(6, .int (a.2 + (1 : Int32))), (0, .ref (ad 0)), (1, .int v1), (2, .long v2), (4, .long v4)]) hC zki_1 (by decide) rfl rfl dX10_lookBehind_261 ?_
        refine zr_goto (pc := 264) (tgt := 214) hC dX10_lookBehind_264 (by decide) ?_
        obtain rfl := Option.some.inj h
        exact zV.sub (lv' := [(0, .ref (ad 0)), (1, .int v1), (2, .long v2), (4, .long v4), (6, .int (a.2 + (1 : Int32)))]) [1, 2, 3, 4, 0] rfl (hin _ rfl)
def xX10_lookBehind_L272_b210 (v1 : Int32) (v2 : Int64) (v4 : Int64) (a : (zM × Int32)) : Option ((zM × Int32) ⊕ zM) :=
  if (24 : Int32) ≤ a.2 then
  (some (.inr a.1))
  else
  if (a.1.1 0 13) ≤ a.2 then
  (some (.inr a.1))
  else
  if (a.2 < 0 ∨ 24 ≤ a.2.toNatClampNeg) then none else
  if (a.1.1 1 a.2.toNatClampNeg) = v1 then
  ((xX11_parted (a.1.1 2 a.2.toNatClampNeg).toInt64 v2).bind fun q5 =>
  (xX11_parted v4 (a.1.2 9 a.2.toNatClampNeg)).bind fun q6 =>
  zlet (zsj a.1 10 a.2.toNatClampNeg (q5 * q6)) fun M7 =>
  (xX10_addShares M7 v1 a.2).bind fun q9 =>
  some (.inl (q9, (a.2 + (1 : Int32)))))
  else
  some (.inl (a.1, (a.2 + (1 : Int32))))
set_option maxHeartbeats 4000000 in
set_option maxRecDepth 100000 in
theorem tX10_lookBehind_L272_b210 {κ : Nat → ClassId} {tg : Nat} {S : zEn} {ad : Nat → Nat} {X : zX} {pT : zM} {pR : zM} {pX : zM} {pF : zM} {pB : zM} {pP : zP} {v1 : Int32} {v2 : Int64} {v4 : Int64} {a : (zM × Int32)} {r : ((zM × Int32) ⊕ zM)} (hC : zC X cX10_lookBehind RX10 wsX10_lookBehind vwCl (zty κ) (zE tg S) 7 ({ frames := 2, cells := 0, slots := 0, locals := 51 } : Room)) (hEk : zEk (zE tg S)) (hin : ∀ a', r = .inl a' → zV X 0 0 (zwC κ ad a'.1 pR pX pF pB pP) [(0, .ref (ad 0)), (1, .int v1), (2, .long v2), (4, .long v4), (6, .int a'.2)] [] 272) (hout : ∀ b', r = .inr b' → zV X 0 0 (zwC κ ad b' pR pX pF pB pP) [(0, .ref (ad 0)), (1, .int v1)] [] 347) (h : xX10_lookBehind_L272_b210  v1 v2 v4 a = some r) : zV X 0 0 (zwC κ ad a.1 pR pX pF pB pP) [(0, .ref (ad 0)), (1, .int v1), (2, .long v2), (4, .long v4), (6, .int a.2)] [] 272 := by
  unfold xX10_lookBehind_L272_b210 at h
  refine zr_iload (pc := 272) hC 4 rfl dX10_lookBehind_272 ?_
  refine zr_bipush (pc := 274) hC zkb_24 dX10_lookBehind_274 ?_
  refine zr_icmp_ge (pc := 276) (tgt := 347) hC dX10_lookBehind_276 (by decide) (fun c1 => ?_) (fun c1 => ?_)
  · replace h := zip h c1
    obtain rfl := Option.some.inj h
    exact zV.sub (lv' := [(0, .ref (ad 0)), (1, .int v1)]) [0, 1] rfl (hout _ rfl)
  · replace h := zin h c1
    refine zr_iload (pc := 279) hC 4 rfl dX10_lookBehind_279 ?_
    refine zr_aload_n (pc := 281) hC 0 rfl rfl dX10_lookBehind_281 ?_
    refine zcg_0_13 (pc := 282) hC hinX10_lookBehind_X10 flX10_lookBehind_54 dX10_lookBehind_282 ?_
    refine zr_icmp_ge (pc := 285) (tgt := 347) hC dX10_lookBehind_285 (by decide) (fun c2 => ?_) (fun c2 => ?_)
    · replace h := zip h c2
      obtain rfl := Option.some.inj h
      exact zV.sub (lv' := [(0, .ref (ad 0)), (1, .int v1)]) [0, 1] rfl (hout _ rfl)
    · replace h := zin h c2
      refine zr_aload_n (pc := 288) hC 0 rfl rfl dX10_lookBehind_288 ?_
      refine zcg_0_0 (pc := 289) hC hinX10_lookBehind_X10 flX10_lookBehind_9 dX10_lookBehind_289 ?_
      refine zr_iload (pc := 292) hC 4 rfl dX10_lookBehind_292 ?_
      obtain ⟨i3, h⟩ := zgd h
      refine zcl_1 (pc := 294) hC i3 dX10_lookBehind_294 ?_
      refine zr_iload_n (pc := 295) hC 1 rfl rfl dX10_lookBehind_295 ?_
      refine zr_icmp_eq (pc := 296) (tgt := 302) hC dX10_lookBehind_296 (by decide) (fun c4 => ?_) (fun c4 => ?_)
      · replace h := zip h c4
        refine zr_aload_n (pc := 302) hC 0 rfl rfl dX10_lookBehind_302 ?_
        refine zcg_0_9 (pc := 303) hC hinX10_lookBehind_X10 flX10_lookBehind_40 dX10_lookBehind_303 ?_
        refine zr_iload (pc := 306) hC 4 rfl dX10_lookBehind_306 ?_
        refine zr_aload_n (pc := 308) hC 0 rfl rfl dX10_lookBehind_308 ?_
        refine zcg_0_1 (pc := 309) hC hinX10_lookBehind_X10 flX10_lookBehind_15 dX10_lookBehind_309 ?_
        refine zr_iload (pc := 312) hC 4 rfl dX10_lookBehind_312 ?_
        refine zcl_2 (pc := 314) hC i3 dX10_lookBehind_314 ?_
        refine zr_i2l (pc := 315) hC dX10_lookBehind_315 ?_
        refine zr_lload_n (pc := 316) hC 2 rfl rfl dX10_lookBehind_316 ?_
        obtain ⟨q5, hq5, h⟩ := zbd h
        refine zr_cNl (pc := 317) (host := "BeforeTheEnd") hC hEk [.long (a.1.1 2 a.2.toNatClampNeg).toInt64, .long v2] [.int a.2, .ref (ad 10)] 2 (fun l D => tX11_parted hEk hq5 l D) gX10_lookBehind_X11_parted_n83 (zE_n83) (iniX10_lookBehind_X11) (staX10_lookBehind_X11_parted) rfl rfl rfl ⟨Nat.le_of_ble_eq_true rfl, Nat.le_of_ble_eq_true rfl⟩ hyX11_parted rfl rfl (Nat.le_of_ble_eq_true rfl) ⟨Nat.le_of_ble_eq_true rfl, Nat.le_of_ble_eq_true rfl⟩ dX10_lookBehind_317 ?_
        refine zr_lload (pc := 320) hC 3 rfl dX10_lookBehind_320 ?_
        refine zr_aload_n (pc := 322) hC 0 rfl rfl dX10_lookBehind_322 ?_
        refine zcg_0_8 (pc := 323) hC hinX10_lookBehind_X10 flX10_lookBehind_36 dX10_lookBehind_323 ?_
        refine zr_iload (pc := 326) hC 4 rfl dX10_lookBehind_326 ?_
        refine zcl_9 (pc := 328) hC i3 dX10_lookBehind_328 ?_
        obtain ⟨q6, hq6, h⟩ := zbd h
        refine zr_cNl (pc := 329) (host := "BeforeTheEnd") hC hEk [.long v4, .long (a.1.2 9 a.2.toNatClampNeg)] [.long q5, .int a.2, .ref (ad 10)] 2 (fun l D => tX11_parted hEk hq6 l D) gX10_lookBehind_X11_parted_n83 (zE_n83) (iniX10_lookBehind_X11) (staX10_lookBehind_X11_parted) rfl rfl rfl ⟨Nat.le_of_ble_eq_true rfl, Nat.le_of_ble_eq_true rfl⟩ hyX11_parted rfl rfl (Nat.le_of_ble_eq_true rfl) ⟨Nat.le_of_ble_eq_true rfl, Nat.le_of_ble_eq_true rfl⟩ dX10_lookBehind_329 ?_
        refine zr_lmul (pc := 332) hC dX10_lookBehind_332 ?_
        obtain ⟨M7, e8, h⟩ := zle h
        refine zcs_10 (pc := 333) hC i3 e8 dX10_lookBehind_333 ?_
        refine zr_aload_n (pc := 334) hC 0 rfl rfl dX10_lookBehind_334 ?_
        refine zr_iload_n (pc := 335) hC 1 rfl rfl dX10_lookBehind_335 ?_
        refine zr_iload (pc := 336) hC 4 rfl dX10_lookBehind_336 ?_
        obtain ⟨q9, hq9, h⟩ := zbd h
        refine zr_cVv (pc := 338) hC hEk [.int v1, .int a.2] [] 0 2 (fun l D => tX10_addShares hEk hq9 l D) gX10_lookBehind_X10_addShares rfl rfl rfl ⟨Nat.le_of_ble_eq_true rfl, Nat.le_of_ble_eq_true rfl⟩ hyX10_addShares (zNC (by decide)) entC_0 rfl rfl rfl (Nat.le_of_ble_eq_true rfl) ⟨Nat.le_of_ble_eq_true rfl, Nat.le_of_ble_eq_true rfl⟩ dX10_lookBehind_338 ?_
        refine zr_iinc (pc := 341) (k := 4) (lv' := [(6, .int (a.2 + (1 : Int32))), (0, .ref (ad 0)), (1, .int v1), (2, .long v2), (4, .long v4)]) hC zki_1 (by decide) rfl rfl dX10_lookBehind_341 ?_
        refine zr_goto (pc := 344) (tgt := 272) hC dX10_lookBehind_344 (by decide) ?_
        obtain rfl := Option.some.inj h
        exact zV.sub (lv' := [(0, .ref (ad 0)), (1, .int v1), (2, .long v2), (4, .long v4), (6, .int (a.2 + (1 : Int32)))]) [1, 2, 3, 4, 0] rfl (hin _ rfl)
      · replace h := zin h c4
        refine zr_goto (pc := 299) (tgt := 341) hC dX10_lookBehind_299 (by decide) ?_
        refine zr_iinc (pc := 341) (k := 4) (lv' := [(6, .int (a.2 + (1 : Int32))), (0, .ref (ad 0)), (1, .int v1), (2, .long v2), (4, .long v4)]) hC zki_1 (by decide) rfl rfl dX10_lookBehind_341 ?_
        refine zr_goto (pc := 344) (tgt := 272) hC dX10_lookBehind_344 (by decide) ?_
        obtain rfl := Option.some.inj h
        exact zV.sub (lv' := [(0, .ref (ad 0)), (1, .int v1), (2, .long v2), (4, .long v4), (6, .int (a.2 + (1 : Int32)))]) [1, 2, 3, 4, 0] rfl (hin _ rfl)
def xX10_lookBehind_b210 (pT : zM) (v1 : Int32) (v2 : Int64) (v4 : Int64) (s1 : Int32) (s2 : Int64) : Option zM :=
  if (s1 < 0 ∨ 24 ≤ s1.toNatClampNeg) then none else
  zlet (zsj pT 9 s1.toNatClampNeg s2) fun M2 =>
  (x_it (xX10_lookBehind_L214_b210 v1 v2 v4) zFU (M2, (0 : Int32))).bind fun q4 =>
  zlet (v1 + (1 : Int32)) fun z5 =>
  (x_it (xX10_lookBehind_L272_b210 v1 v2 v4) zFU (q4, z5)).bind fun q7 =>
  if (v1 < 0 ∨ 24 ≤ v1.toNatClampNeg) then none else
  if (q7.1 3 v1.toNatClampNeg) ≤ 0 then
  (if (q7.1 5 v1.toNatClampNeg) = 0 then
  (zlet (zsi q7 0 15 (0 : Int32)) fun M11 =>
  some M11)
  else
  some q7)
  else
  zlet (zsi q7 0 14 ((q7.1 0 14) + (1 : Int32))) fun M13 =>
  some M13
set_option maxHeartbeats 4000000 in
set_option maxRecDepth 100000 in
theorem tX10_lookBehind_b210 {κ : Nat → ClassId} {tg : Nat} {S : zEn} {ad : Nat → Nat} {X : zX} {res : zM} {pR : zM} {pX : zM} {pF : zM} {pB : zM} {pP : zP} {pT : zM} {v1 : Int32} {v2 : Int64} {v4 : Int64} {s1 : Int32} {s2 : Int64} (hC : zC X cX10_lookBehind RX10 wsX10_lookBehind vwCl (zty κ) (zE tg S) 7 ({ frames := 2, cells := 0, slots := 0, locals := 51 } : Room)) (hEk : zEk (zE tg S)) (hR : zR X none (zPd none (zwC κ ad res pR pX pF pB pP)) 0 0) (h : xX10_lookBehind_b210 pT v1 v2 v4 s1 s2 = some res) : zV X 0 0 (zwC κ ad M2 pR pX pF pB pP) [(6, .int (0 : Int32)), (0, .ref (ad 0)), (1, .int v1), (2, .long v2), (4, .long v4)] [] 210 := by
  unfold xX10_lookBehind_b210 at h
  obtain ⟨i1, h⟩ := zgd h
  obtain ⟨M2, e3, h⟩ := zle h
  refine zcs_9 (pc := 210) hC i1 e3 dX10_lookBehind_210 ?_
  refine zr_iconst (pc := 211) hC zki_0 dX10_lookBehind_211 ?_
  refine zr_istore (pc := 212) (lv' := [(6, .int (0 : Int32)), (0, .ref (ad 0)), (1, .int v1), (2, .long v2), (4, .long v4)]) hC (by decide) rfl dX10_lookBehind_212 ?_
  obtain ⟨q4, hq4, h⟩ := zbd h
  refine zV.sub (lv' := [(0, .ref (ad 0)), (1, .int v1), (2, .long v2), (4, .long v4), (6, .int (0 : Int32))]) [1, 2, 3, 4, 0] rfl ?_
  refine zit (Wp := fun (a : (zM × Int32)) => zV X 0 0 (zwC κ ad a.1 pR pX pF pB pP) [(0, .ref (ad 0)), (1, .int v1), (2, .long v2), (4, .long v4), (6, .int a.2)] [] 214) (Ex := fun (b : zM) => zV X 0 0 (zwC κ ad b pR pX pF pB pP) [(0, .ref (ad 0)), (1, .int v1), (2, .long v2), (4, .long v4)] [] 267) (fun a r hr hin hout => tX10_lookBehind_L214_b210 hC hEk hin hout hr) zFU (M2, (0 : Int32)) q4 hq4 ?_
  show zV X 0 0 (zwC κ ad q4 pR pX pF pB pP) [(0, .ref (ad 0)), (1, .int v1), (2, .long v2), (4, .long v4)] [] 267
  refine zr_iload_n (pc := 267) hC 1 rfl rfl dX10_lookBehind_267 ?_
  refine zr_iconst (pc := 268) hC zki_1 dX10_lookBehind_268 ?_
  refine zr_iadd (pc := 269) hC dX10_lookBehind_269 ?_
  obtain ⟨z5, e6, h⟩ := zle h
  refine zr_topi e6 ?_
  refine zr_istore (pc := 270) (lv' := [(6, .int z5), (0, .ref (ad 0)), (1, .int v1), (2, .long v2), (4, .long v4)]) hC (by decide) rfl dX10_lookBehind_270 ?_
  obtain ⟨q7, hq7, h⟩ := zbd h
  refine zV.sub (lv' := [(0, .ref (ad 0)), (1, .int v1), (2, .long v2), (4, .long v4), (6, .int z5)]) [1, 2, 3, 4, 0] rfl ?_
  refine zit (Wp := fun (a : (zM × Int32)) => zV X 0 0 (zwC κ ad a.1 pR pX pF pB pP) [(0, .ref (ad 0)), (1, .int v1), (2, .long v2), (4, .long v4), (6, .int a.2)] [] 272) (Ex := fun (b : zM) => zV X 0 0 (zwC κ ad b pR pX pF pB pP) [(0, .ref (ad 0)), (1, .int v1)] [] 347) (fun a r hr hin hout => tX10_lookBehind_L272_b210 hC hEk hin hout hr) zFU (q4, z5) q7 hq7 ?_
  show zV X 0 0 (zwC κ ad q7 pR pX pF pB pP) [(0, .ref (ad 0)), (1, .int v1)] [] 347
  refine zr_aload_n (pc := 347) hC 0 rfl rfl dX10_lookBehind_347 ?_
  refine zcg_0_2 (pc := 348) hC hinX10_lookBehind_X10 flX10_lookBehind_18 dX10_lookBehind_348 ?_
  refine zr_iload_n (pc := 351) hC 1 rfl rfl dX10_lookBehind_351 ?_
  obtain ⟨i8, h⟩ := zgd h
  refine zcl_3 (pc := 352) hC i8 dX10_lookBehind_352 ?_
  refine zr_if_le (pc := 353) (tgt := 369) hC dX10_lookBehind_353 (by decide) (fun c9 => ?_) (fun c9 => ?_)
  · replace h := zip h c9
    refine zr_aload_n (pc := 369) hC 0 rfl rfl dX10_lookBehind_369 ?_
    refine zcg_0_4 (pc := 370) hC hinX10_lookBehind_X10 flX10_lookBehind_24 dX10_lookBehind_370 ?_
    refine zr_iload_n (pc := 373) hC 1 rfl rfl dX10_lookBehind_373 ?_
    refine zcl_5 (pc := 374) hC i8 dX10_lookBehind_374 ?_
    refine zr_if_ne (pc := 375) (tgt := 383) hC dX10_lookBehind_375 (by decide) (fun c10 => ?_) (fun c10 => ?_)
    · replace h := zin h c10
      obtain rfl := Option.some.inj h
      exact zr_vret hC hR ⟨rfl, rfl⟩ (Nat.le_refl _) (Nat.le_refl _) dX10_lookBehind_383
    · replace h := zip h c10
      refine zr_aload_n (pc := 378) hC 0 rfl rfl dX10_lookBehind_378 ?_
      refine zr_iconst (pc := 379) hC zki_0 dX10_lookBehind_379 ?_
      obtain ⟨M11, e12, h⟩ := zle h
      refine zcp_0_15 (pc := 380) hC hinX10_lookBehind_X10 flX10_lookBehind_61 (by decide) e12 dX10_lookBehind_380 ?_
      obtain rfl := Option.some.inj h
      exact zr_vret hC hR ⟨rfl, rfl⟩ (Nat.le_refl _) (Nat.le_refl _) dX10_lookBehind_383
  · replace h := zin h c9
    refine zr_aload_n (pc := 356) hC 0 rfl rfl dX10_lookBehind_356 ?_
    refine zr_dup (pc := 357) hC rfl dX10_lookBehind_357 ?_
    refine zcg_0_14 (pc := 358) hC hinX10_lookBehind_X10 flX10_lookBehind_58 dX10_lookBehind_358 ?_
    refine zr_iconst (pc := 361) hC zki_1 dX10_lookBehind_361 ?_
    refine zr_iadd (pc := 362) hC dX10_lookBehind_362 ?_
    obtain ⟨M13, e14, h⟩ := zle h
    refine zcp_0_14 (pc := 363) hC hinX10_lookBehind_X10 flX10_lookBehind_58 e14 dX10_lookBehind_363 ?_
    refine zr_goto (pc := 366) (tgt := 383) hC dX10_lookBehind_366 (by decide) ?_
    obtain rfl := Option.some.inj h
    exact zr_vret hC hR ⟨rfl, rfl⟩ (Nat.le_refl _) (Nat.le_refl _) dX10_lookBehind_383
def xX10_lookBehind_b54 (pT : zM) (v1 : Int32) (v2 : Int64) (v4 : Int64) (s1 : Int32) (s2 : Int32) : Option zM :=
  if (s1 < 0 ∨ 24 ≤ s1.toNatClampNeg) then none else
  zlet (zsi pT 7 s1.toNatClampNeg s2) fun M2 =>
  zlet (v1 + (1 : Int32)) fun z4 =>
  (x_it (xX10_lookBehind_L60_b54 v1) zFU (M2, v2, v4, z4)).bind fun q6 =>
  if (v1 < 0 ∨ 24 ≤ v1.toNatClampNeg) then none else
  if (q6.1.1 5 v1.toNatClampNeg) = 0 then
  (xX10_lookBehind_b210 q6.1 v1 q6.2.1 q6.2.2 v1 (1 : Int64))
  else
  (xX11_parted (q6.1.1 6 v1.toNatClampNeg).toInt64 q6.2.1).bind fun q9 =>
  xX10_lookBehind_b210 q6.1 v1 q6.2.1 q6.2.2 v1 (q9 * q6.2.2)
set_option maxHeartbeats 4000000 in
set_option maxRecDepth 100000 in
theorem tX10_lookBehind_b54 {κ : Nat → ClassId} {tg : Nat} {S : zEn} {ad : Nat → Nat} {X : zX} {res : zM} {pR : zM} {pX : zM} {pF : zM} {pB : zM} {pP : zP} {pT : zM} {v1 : Int32} {v2 : Int64} {v4 : Int64} {s1 : Int32} {s2 : Int32} (hC : zC X cX10_lookBehind RX10 wsX10_lookBehind vwCl (zty κ) (zE tg S) 7 ({ frames := 2, cells := 0, slots := 0, locals := 51 } : Room)) (hEk : zEk (zE tg S)) (hR : zR X none (zPd none (zwC κ ad res pR pX pF pB pP)) 0 0) (h : xX10_lookBehind_b54 pT v1 v2 v4 s1 s2 = some res) : zV X 0 0 (zwC κ ad M2 pR pX pF pB pP) [(6, .int z4), (0, .ref (ad 0)), (1, .int v1), (2, .long v2), (4, .long v4)] [] 54 := by
  unfold xX10_lookBehind_b54 at h
  obtain ⟨i1, h⟩ := zgd h
  obtain ⟨M2, e3, h⟩ := zle h
  refine zcs_7 (pc := 54) hC i1 e3 dX10_lookBehind_54 ?_
  refine zr_iload_n (pc := 55) hC 1 rfl rfl dX10_lookBehind_55 ?_
  refine zr_iconst (pc := 56) hC zki_1 dX10_lookBehind_56 ?_
  refine zr_iadd (pc := 57) hC dX10_lookBehind_57 ?_
  obtain ⟨z4, e5, h⟩ := zle h
  refine zr_topi e5 ?_
  refine zr_istore (pc := 58) (lv' := [(6, .int z4), (0, .ref (ad 0)), (1, .int v1), (2, .long v2), (4, .long v4)]) hC (by decide) rfl dX10_lookBehind_58 ?_
  obtain ⟨q6, hq6, h⟩ := zbd h
  refine zV.sub (lv' := [(0, .ref (ad 0)), (1, .int v1), (2, .long v2), (4, .long v4), (6, .int z4)]) [1, 2, 3, 4, 0] rfl ?_
  refine zit (Wp := fun (a : (zM × Int64 × Int64 × Int32)) => zV X 0 0 (zwC κ ad a.1 pR pX pF pB pP) [(0, .ref (ad 0)), (1, .int v1), (2, .long a.2.1), (4, .long a.2.2.1), (6, .int a.2.2.2)] [] 60) (Ex := fun (b : (zM × Int64 × Int64)) => zV X 0 0 (zwC κ ad b.1 pR pX pF pB pP) [(0, .ref (ad 0)), (1, .int v1), (2, .long b.2.1), (4, .long b.2.2)] [] 178) (fun a r hr hin hout => tX10_lookBehind_L60_b54 hC hEk hin hout hr) zFU (M2, v2, v4, z4) q6 hq6 ?_
  show zV X 0 0 (zwC κ ad q6.1 pR pX pF pB pP) [(0, .ref (ad 0)), (1, .int v1), (2, .long q6.2.1), (4, .long q6.2.2)] [] 178
  refine zr_aload_n (pc := 178) hC 0 rfl rfl dX10_lookBehind_178 ?_
  refine zcg_0_8 (pc := 179) hC hinX10_lookBehind_X10 flX10_lookBehind_36 dX10_lookBehind_179 ?_
  refine zr_iload_n (pc := 182) hC 1 rfl rfl dX10_lookBehind_182 ?_
  refine zr_aload_n (pc := 183) hC 0 rfl rfl dX10_lookBehind_183 ?_
  refine zcg_0_4 (pc := 184) hC hinX10_lookBehind_X10 flX10_lookBehind_24 dX10_lookBehind_184 ?_
  refine zr_iload_n (pc := 187) hC 1 rfl rfl dX10_lookBehind_187 ?_
  obtain ⟨i7, h⟩ := zgd h
  refine zcl_5 (pc := 188) hC i7 dX10_lookBehind_188 ?_
  refine zr_if_ne (pc := 189) (tgt := 196) hC dX10_lookBehind_189 (by decide) (fun c8 => ?_) (fun c8 => ?_)
  · replace h := zin h c8
    refine zr_aload_n (pc := 196) hC 0 rfl rfl dX10_lookBehind_196 ?_
    refine zcg_0_5 (pc := 197) hC hinX10_lookBehind_X10 flX10_lookBehind_27 dX10_lookBehind_197 ?_
    refine zr_iload_n (pc := 200) hC 1 rfl rfl dX10_lookBehind_200 ?_
    refine zcl_6 (pc := 201) hC i7 dX10_lookBehind_201 ?_
    refine zr_i2l (pc := 202) hC dX10_lookBehind_202 ?_
    refine zr_lload_n (pc := 203) hC 2 rfl rfl dX10_lookBehind_203 ?_
    obtain ⟨q9, hq9, h⟩ := zbd h
    refine zr_cNl (pc := 204) (host := "BeforeTheEnd") hC hEk [.long (q6.1.1 6 v1.toNatClampNeg).toInt64, .long q6.2.1] [.int v1, .ref (ad 9)] 2 (fun l D => tX11_parted hEk hq9 l D) gX10_lookBehind_X11_parted_n83 (zE_n83) (iniX10_lookBehind_X11) (staX10_lookBehind_X11_parted) rfl rfl rfl ⟨Nat.le_of_ble_eq_true rfl, Nat.le_of_ble_eq_true rfl⟩ hyX11_parted rfl rfl (Nat.le_of_ble_eq_true rfl) ⟨Nat.le_of_ble_eq_true rfl, Nat.le_of_ble_eq_true rfl⟩ dX10_lookBehind_204 ?_
    refine zr_lload (pc := 207) hC 3 rfl dX10_lookBehind_207 ?_
    refine zr_lmul (pc := 209) hC dX10_lookBehind_209 ?_
    exact zV.sub (lv' := [(0, .ref (ad 0)), (1, .int v1), (2, .long q6.2.1), (4, .long q6.2.2)]) [0, 1, 2, 3] rfl (tX10_lookBehind_b210 hC hEk hR h)
  · replace h := zip h c8
    refine zr_lconst (pc := 192) hC zkl_1 dX10_lookBehind_192 ?_
    refine zr_goto (pc := 193) (tgt := 210) hC dX10_lookBehind_193 (by decide) ?_
    exact zV.sub (lv' := [(0, .ref (ad 0)), (1, .int v1), (2, .long q6.2.1), (4, .long q6.2.2)]) [0, 1, 2, 3] rfl (tX10_lookBehind_b210 hC hEk hR h)
def xX10_lookBehind (pT : zM) (v1 : Int32) : Option zM :=
  (xX10_has pT v1).bind fun q1 =>
  if q1 = 0 then
  (some pT)
  else
  if (v1 < 0 ∨ 24 ≤ v1.toNatClampNeg) then none else
  zlet (zsi pT 5 v1.toNatClampNeg (0 : Int32)) fun M4 =>
  zlet (zsi M4 6 v1.toNatClampNeg (0 : Int32)) fun M6 =>
  if (M6.1 3 v1.toNatClampNeg) ≤ 0 then
  (xX10_lookBehind_b54 M6 v1 (0 : Int64) (1 : Int64) v1 (0 : Int32))
  else
  xX10_lookBehind_b54 M6 v1 (0 : Int64) (1 : Int64) v1 ((1 : Int32) <<< ((M6.1 3 v1.toNatClampNeg) &&& 31))
set_option maxHeartbeats 4000000 in
set_option maxRecDepth 100000 in
theorem tX10_lookBehind {κ : Nat → ClassId} {tg : Nat} {S : zEn} {ad : Nat → Nat} (hEk : zEk (zE tg S)) {pT : zM} {pR : zM} {pX : zM} {pF : zM} {pB : zM} {pP : zP} {v1 : Int32} {res : zM} (h : xX10_lookBehind pT v1 = some res) (l : Launch) (D : va_G) : zCT (zE tg S) D vwCl (zty κ) l yX10_lookBehind wsX10_lookBehind ({ frames := 2, cells := 0, slots := 0, locals := 51 } : Room) 0 0 [.ref (ad 0), .int v1] (zwC κ ad pT pR pX pF pB pP) (zPd none (zwC κ ad res pR pX pF pB pP)) := by
  refine zCT.of (cc := cX10_lookBehind) (maxL := 7) (ret := none) (by decide) rfl (Nat.le_of_ble_eq_true rfl) ?_
  intro X hC hR
  unfold xX10_lookBehind at h
  refine zV.sub (lv' := [(0, .ref (ad 0)), (1, .int v1)]) [0, 1] rfl ?_
  refine zr_aload_n (pc := 0) hC 0 rfl rfl dX10_lookBehind_0 ?_
  refine zr_iload_n (pc := 1) hC 1 rfl rfl dX10_lookBehind_1 ?_
  obtain ⟨q1, hq1, h⟩ := zbd h
  refine zr_cVi (pc := 2) hC hEk [.int v1] [] 0 1 (fun l D => tX10_has hEk hq1 l D) gX10_lookBehind_X10_has rfl rfl rfl ⟨Nat.le_of_ble_eq_true rfl, Nat.le_of_ble_eq_true rfl⟩ hyX10_has (zNC (by decide)) entC_0 rfl rfl rfl (Nat.le_of_ble_eq_true rfl) ⟨Nat.le_of_ble_eq_true rfl, Nat.le_of_ble_eq_true rfl⟩ dX10_lookBehind_2 ?_
  refine zr_if_ne (pc := 5) (tgt := 9) hC dX10_lookBehind_5 (by decide) (fun c2 => ?_) (fun c2 => ?_)
  · replace h := zin h c2
    refine zr_lconst (pc := 9) hC zkl_0 dX10_lookBehind_9 ?_
    refine zr_lstore_n (pc := 10) (lv' := [(2, .long (0 : Int64)), (0, .ref (ad 0)), (1, .int v1)]) hC rfl (by decide) rfl dX10_lookBehind_10 ?_
    refine zr_lconst (pc := 11) hC zkl_1 dX10_lookBehind_11 ?_
    refine zr_lstore (pc := 12) (lv' := [(4, .long (1 : Int64)), (2, .long (0 : Int64)), (0, .ref (ad 0)), (1, .int v1)]) hC (by decide) rfl dX10_lookBehind_12 ?_
    refine zr_aload_n (pc := 14) hC 2 rfl rfl dX10_lookBehind_14 ?_
    refine zcg_0_4 (pc := 15) hC hinX10_lookBehind_X10 flX10_lookBehind_24 dX10_lookBehind_15 ?_
    refine zr_iload_n (pc := 18) hC 3 rfl rfl dX10_lookBehind_18 ?_
    refine zr_iconst (pc := 19) hC zki_0 dX10_lookBehind_19 ?_
    obtain ⟨i3, h⟩ := zgd h
    obtain ⟨M4, e5, h⟩ := zle h
    refine zcs_5 (pc := 20) hC i3 e5 dX10_lookBehind_20 ?_
    refine zr_aload_n (pc := 21) hC 2 rfl rfl dX10_lookBehind_21 ?_
    refine zcg_0_5 (pc := 22) hC hinX10_lookBehind_X10 flX10_lookBehind_27 dX10_lookBehind_22 ?_
    refine zr_iload_n (pc := 25) hC 3 rfl rfl dX10_lookBehind_25 ?_
    refine zr_iconst (pc := 26) hC zki_0 dX10_lookBehind_26 ?_
    obtain ⟨M6, e7, h⟩ := zle h
    refine zcs_6 (pc := 27) hC i3 e7 dX10_lookBehind_27 ?_
    refine zr_aload_n (pc := 28) hC 2 rfl rfl dX10_lookBehind_28 ?_
    refine zcg_0_6 (pc := 29) hC hinX10_lookBehind_X10 flX10_lookBehind_30 dX10_lookBehind_29 ?_
    refine zr_iload_n (pc := 32) hC 3 rfl rfl dX10_lookBehind_32 ?_
    refine zr_aload_n (pc := 33) hC 2 rfl rfl dX10_lookBehind_33 ?_
    refine zcg_0_2 (pc := 34) hC hinX10_lookBehind_X10 flX10_lookBehind_18 dX10_lookBehind_34 ?_
    refine zr_iload_n (pc := 37) hC 3 rfl rfl dX10_lookBehind_37 ?_
    refine zcl_3 (pc := 38) hC i3 dX10_lookBehind_38 ?_
    refine zr_if_le (pc := 39) (tgt := 53) hC dX10_lookBehind_39 (by decide) (fun c8 => ?_) (fun c8 => ?_)
    · replace h := zip h c8
      refine zr_iconst (pc := 53) hC zki_0 dX10_lookBehind_53 ?_
      exact zV.sub (lv' := [(0, .ref (ad 0)), (1, .int v1), (2, .long (0 : Int64)), (4, .long (1 : Int64))]) [2, 3, 1, 0] rfl (tX10_lookBehind_b54 hC hEk hR h)
    · replace h := zin h c8
      refine zr_iconst (pc := 42) hC zki_1 dX10_lookBehind_42 ?_
      refine zr_aload_n (pc := 43) hC 2 rfl rfl dX10_lookBehind_43 ?_
      refine zcg_0_2 (pc := 44) hC hinX10_lookBehind_X10 flX10_lookBehind_18 dX10_lookBehind_44 ?_
      refine zr_iload_n (pc := 47) hC 3 rfl rfl dX10_lookBehind_47 ?_
      refine zcl_3 (pc := 48) hC i3 dX10_lookBehind_48 ?_
      refine zr_ishl (pc := 49) hC dX10_lookBehind_49 ?_
      refine zr_goto (pc := 50) (tgt := 54) hC dX10_lookBehind_50 (by decide) ?_
      exact zV.sub (lv' := [(0, .ref (ad 0)), (1, .int v1), (2, .long (0 : Int64)), (4, .long (1 : Int64))]) [2, 3, 1, 0] rfl (tX10_lookBehind_b54 hC hEk hR h)
  · replace h := zip h c2
    obtain rfl := Option.some.inj h
    exact zr_vret hC hR ⟨rfl, rfl⟩ (Nat.le_refl _) (Nat.le_refl _) dX10_lookBehind_8
/-! X10_lookAhead -/
theorem hyX10_lookAhead : yX10_lookAhead.cls = RX10 ∧ yX10_lookAhead.cls ≠ "java/lang/invoke/MethodHandle" ∧ yX10_lookAhead.cls ≠ "java/lang/invoke/VarHandle" ∧ (parseMethodDescriptor yX10_lookAhead.desc).map (fun d => d.parameters.length) = some 1 := by decide +kernel
theorem flX10_lookAhead_21 : Cond.fieldLink RX10 21 "BeforeTheEnd$Tree" "length" "[I" ∈ wsX10_lookAhead := by decide +kernel
theorem flX10_lookAhead_33 : Cond.fieldLink RX10 33 "BeforeTheEnd$Tree" "way" "[I" ∈ wsX10_lookAhead := by decide +kernel
theorem flX10_lookAhead_40 : Cond.fieldLink RX10 40 "BeforeTheEnd$Tree" "step" "[J" ∈ wsX10_lookAhead := by decide +kernel
theorem flX10_lookAhead_43 : Cond.fieldLink RX10 43 "BeforeTheEnd$Tree" "times" "[J" ∈ wsX10_lookAhead := by decide +kernel
theorem flX10_lookAhead_9 : Cond.fieldLink RX10 9 "BeforeTheEnd$Tree" "parent" "[I" ∈ wsX10_lookAhead := by decide +kernel
theorem hinX10_lookAhead_X10 : ∀ w ∈ wsX100, w ∈ wsX10_lookAhead := fun _ h => List.mem_cons_of_mem _ (List.mem_append_right _ h)
def xX10_lookAhead (pT : zM) (v1 : Int32) : Option zM :=
  (xX10_has pT v1).bind fun q1 =>
  if q1 = 0 then
  (some pT)
  else
  if (v1 < 0 ∨ 24 ≤ v1.toNatClampNeg) then none else
  (xX10_has pT (pT.1 1 v1.toNatClampNeg)).bind fun q4 =>
  if q4 = 0 then
  (some pT)
  else
  if ((pT.1 1 v1.toNatClampNeg) < 0 ∨ 24 ≤ (pT.1 1 v1.toNatClampNeg).toNatClampNeg) then none else
  zlet (zsi pT 4 v1.toNatClampNeg ((pT.1 4 (pT.1 1 v1.toNatClampNeg).toNatClampNeg) + (1 : Int32))) fun M7 =>
  if ((M7.1 1 v1.toNatClampNeg) < 0 ∨ 24 ≤ (M7.1 1 v1.toNatClampNeg).toNatClampNeg) then none else
  zlet (zsi M7 8 v1.toNatClampNeg ((M7.1 8 (M7.1 1 v1.toNatClampNeg).toNatClampNeg) ||| ((1 : Int32) <<< (v1 &&& 31)))) fun M10 =>
  if ((M10.1 1 v1.toNatClampNeg) < 0 ∨ 24 ≤ (M10.1 1 v1.toNatClampNeg).toNatClampNeg) then none else
  zlet (zsj M10 11 v1.toNatClampNeg ((M10.2 11 (M10.1 1 v1.toNatClampNeg).toNatClampNeg) * (M10.2 10 v1.toNatClampNeg))) fun M13 =>
  some M13
set_option maxHeartbeats 4000000 in
set_option maxRecDepth 100000 in
theorem tX10_lookAhead {κ : Nat → ClassId} {tg : Nat} {S : zEn} {ad : Nat → Nat} (hEk : zEk (zE tg S)) {pT : zM} {pR : zM} {pX : zM} {pF : zM} {pB : zM} {pP : zP} {v1 : Int32} {res : zM} (h : xX10_lookAhead pT v1 = some res) (l : Launch) (D : va_G) : zCT (zE tg S) D vwCl (zty κ) l yX10_lookAhead wsX10_lookAhead ({ frames := 1, cells := 0, slots := 0, locals := 21 } : Room) 0 0 [.ref (ad 0), .int v1] (zwC κ ad pT pR pX pF pB pP) (zPd none (zwC κ ad res pR pX pF pB pP)) := by
  refine zCT.of (cc := cX10_lookAhead) (maxL := 2) (ret := none) (by decide) rfl (Nat.le_of_ble_eq_true rfl) ?_
  intro X hC hR
  unfold xX10_lookAhead at h
  refine zV.sub (lv' := [(0, .ref (ad 0)), (1, .int v1)]) [0, 1] rfl ?_
  refine zr_aload_n (pc := 0) hC 0 rfl rfl dX10_lookAhead_0 ?_
  refine zr_iload_n (pc := 1) hC 1 rfl rfl dX10_lookAhead_1 ?_
  obtain ⟨q1, hq1, h⟩ := zbd h
  refine zr_cVi (pc := 2) hC hEk [.int v1] [] 0 1 (fun l D => tX10_has hEk hq1 l D) gX10_lookAhead_X10_has rfl rfl rfl ⟨Nat.le_of_ble_eq_true rfl, Nat.le_of_ble_eq_true rfl⟩ hyX10_has (zNC (by decide)) entC_0 rfl rfl rfl (Nat.le_of_ble_eq_true rfl) ⟨Nat.le_of_ble_eq_true rfl, Nat.le_of_ble_eq_true rfl⟩ dX10_lookAhead_2 ?_
  refine zr_if_eq (pc := 5) (tgt := 21) hC dX10_lookAhead_5 (by decide) (fun c2 => ?_) (fun c2 => ?_)
  · replace h := zip h c2
    obtain rfl := Option.some.inj h
    exact zr_vret hC hR ⟨rfl, rfl⟩ (Nat.le_refl _) (Nat.le_refl _) dX10_lookAhead_21
  · replace h := zin h c2
    refine zr_aload_n (pc := 8) hC 0 rfl rfl dX10_lookAhead_8 ?_
    refine zr_aload_n (pc := 9) hC 0 rfl rfl dX10_lookAhead_9 ?_
    refine zcg_0_0 (pc := 10) hC hinX10_lookAhead_X10 flX10_lookAhead_9 dX10_lookAhead_10 ?_
    refine zr_iload_n (pc := 13) hC 1 rfl rfl dX10_lookAhead_13 ?_
    obtain ⟨i3, h⟩ := zgd h
    refine zcl_1 (pc := 14) hC i3 dX10_lookAhead_14 ?_
    obtain ⟨q4, hq4, h⟩ := zbd h
    refine zr_cVi (pc := 15) hC hEk [.int (pT.1 1 v1.toNatClampNeg)] [] 0 1 (fun l D => tX10_has hEk hq4 l D) gX10_lookAhead_X10_has rfl rfl rfl ⟨Nat.le_of_ble_eq_true rfl, Nat.le_of_ble_eq_true rfl⟩ hyX10_has (zNC (by decide)) entC_0 rfl rfl rfl (Nat.le_of_ble_eq_true rfl) ⟨Nat.le_of_ble_eq_true rfl, Nat.le_of_ble_eq_true rfl⟩ dX10_lookAhead_15 ?_
    refine zr_if_ne (pc := 18) (tgt := 22) hC dX10_lookAhead_18 (by decide) (fun c5 => ?_) (fun c5 => ?_)
    · replace h := zin h c5
      refine zr_aload_n (pc := 22) hC 0 rfl rfl dX10_lookAhead_22 ?_
      refine zcg_0_3 (pc := 23) hC hinX10_lookAhead_X10 flX10_lookAhead_21 dX10_lookAhead_23 ?_
      refine zr_iload_n (pc := 26) hC 1 rfl rfl dX10_lookAhead_26 ?_
      refine zr_aload_n (pc := 27) hC 0 rfl rfl dX10_lookAhead_27 ?_
      refine zcg_0_3 (pc := 28) hC hinX10_lookAhead_X10 flX10_lookAhead_21 dX10_lookAhead_28 ?_
      refine zr_aload_n (pc := 31) hC 0 rfl rfl dX10_lookAhead_31 ?_
      refine zcg_0_0 (pc := 32) hC hinX10_lookAhead_X10 flX10_lookAhead_9 dX10_lookAhead_32 ?_
      refine zr_iload_n (pc := 35) hC 1 rfl rfl dX10_lookAhead_35 ?_
      refine zcl_1 (pc := 36) hC i3 dX10_lookAhead_36 ?_
      obtain ⟨i6, h⟩ := zgd h
      refine zcl_4 (pc := 37) hC i6 dX10_lookAhead_37 ?_
      refine zr_iconst (pc := 38) hC zki_1 dX10_lookAhead_38 ?_
      refine zr_iadd (pc := 39) hC dX10_lookAhead_39 ?_
      obtain ⟨M7, e8, h⟩ := zle h
      refine zcs_4 (pc := 40) hC i3 e8 dX10_lookAhead_40 ?_
      refine zr_aload_n (pc := 41) hC 0 rfl rfl dX10_lookAhead_41 ?_
      refine zcg_0_7 (pc := 42) hC hinX10_lookAhead_X10 flX10_lookAhead_33 dX10_lookAhead_42 ?_
      refine zr_iload_n (pc := 45) hC 1 rfl rfl dX10_lookAhead_45 ?_
      refine zr_aload_n (pc := 46) hC 0 rfl rfl dX10_lookAhead_46 ?_
      refine zcg_0_7 (pc := 47) hC hinX10_lookAhead_X10 flX10_lookAhead_33 dX10_lookAhead_47 ?_
      refine zr_aload_n (pc := 50) hC 0 rfl rfl dX10_lookAhead_50 ?_
      refine zcg_0_0 (pc := 51) hC hinX10_lookAhead_X10 flX10_lookAhead_9 dX10_lookAhead_51 ?_
      refine zr_iload_n (pc := 54) hC 1 rfl rfl dX10_lookAhead_54 ?_
      refine zcl_1 (pc := 55) hC i3 dX10_lookAhead_55 ?_
      obtain ⟨i9, h⟩ := zgd h
      refine zcl_8 (pc := 56) hC i9 dX10_lookAhead_56 ?_
      refine zr_iconst (pc := 57) hC zki_1 dX10_lookAhead_57 ?_
      refine zr_iload_n (pc := 58) hC 1 rfl rfl dX10_lookAhead_58 ?_
      refine zr_ishl (pc := 59) hC dX10_lookAhead_59 ?_
      refine zr_ior (pc := 60) hC dX10_lookAhead_60 ?_
      obtain ⟨M10, e11, h⟩ := zle h
      refine zcs_8 (pc := 61) hC i3 e11 dX10_lookAhead_61 ?_
      refine zr_aload_n (pc := 62) hC 0 rfl rfl dX10_lookAhead_62 ?_
      refine zcg_0_10 (pc := 63) hC hinX10_lookAhead_X10 flX10_lookAhead_43 dX10_lookAhead_63 ?_
      refine zr_iload_n (pc := 66) hC 1 rfl rfl dX10_lookAhead_66 ?_
      refine zr_aload_n (pc := 67) hC 0 rfl rfl dX10_lookAhead_67 ?_
      refine zcg_0_10 (pc := 68) hC hinX10_lookAhead_X10 flX10_lookAhead_43 dX10_lookAhead_68 ?_
      refine zr_aload_n (pc := 71) hC 0 rfl rfl dX10_lookAhead_71 ?_
      refine zcg_0_0 (pc := 72) hC hinX10_lookAhead_X10 flX10_lookAhead_9 dX10_lookAhead_72 ?_
      refine zr_iload_n (pc := 75) hC 1 rfl rfl dX10_lookAhead_75 ?_
      refine zcl_1 (pc := 76) hC i3 dX10_lookAhead_76 ?_
      obtain ⟨i12, h⟩ := zgd h
      refine zcl_11 (pc := 77) hC i12 dX10_lookAhead_77 ?_
      refine zr_aload_n (pc := 78) hC 0 rfl rfl dX10_lookAhead_78 ?_
      refine zcg_0_9 (pc := 79) hC hinX10_lookAhead_X10 flX10_lookAhead_40 dX10_lookAhead_79 ?_
      refine zr_iload_n (pc := 82) hC 1 rfl rfl dX10_lookAhead_82 ?_
      refine zcl_10 (pc := 83) hC i3 dX10_lookAhead_83 ?_
      refine zr_lmul (pc := 84) hC dX10_lookAhead_84 ?_
      obtain ⟨M13, e14, h⟩ := zle h
      refine zcs_11 (pc := 85) hC i3 e14 dX10_lookAhead_85 ?_
      obtain rfl := Option.some.inj h
      exact zr_vret hC hR ⟨rfl, rfl⟩ (Nat.le_refl _) (Nat.le_refl _) dX10_lookAhead_86
    · replace h := zip h c5
      obtain rfl := Option.some.inj h
      exact zr_vret hC hR ⟨rfl, rfl⟩ (Nat.le_refl _) (Nat.le_refl _) dX10_lookAhead_21
/-! X10_settle -/
theorem hyX10_settle : yX10_settle.cls = RX10 ∧ yX10_settle.cls ≠ "java/lang/invoke/MethodHandle" ∧ yX10_settle.cls ≠ "java/lang/invoke/VarHandle" ∧ (parseMethodDescriptor yX10_settle.desc).map (fun d => d.parameters.length) = some 0 := by decide +kernel
theorem flX10_settle_54 : Cond.fieldLink RX10 54 "BeforeTheEnd$Tree" "count" "I" ∈ wsX10_settle := by decide +kernel
theorem flX10_settle_58 : Cond.fieldLink RX10 58 "BeforeTheEnd$Tree" "ends" "I" ∈ wsX10_settle := by decide +kernel
theorem flX10_settle_61 : Cond.fieldLink RX10 61 "BeforeTheEnd$Tree" "allClosed" "Z" ∈ wsX10_settle := by decide +kernel
theorem hinX10_settle_X10 : ∀ w ∈ wsX100, w ∈ wsX10_settle := fun _ h => List.mem_cons_of_mem _ (List.mem_append_right _ h)
def xX10_settle_L13  (a : (zM × Int32)) : Option ((zM × Int32) ⊕ zM) :=
  if a.2 < 0 then
  (some (.inr a.1))
  else
  if (a.1.1 0 13) ≤ a.2 then
  (some (.inl (a.1, (a.2 + (-1 : Int32)))))
  else
  (xX10_lookBehind a.1 a.2).bind fun q3 =>
  some (.inl (q3, (a.2 + (-1 : Int32))))
set_option maxHeartbeats 4000000 in
set_option maxRecDepth 100000 in
theorem tX10_settle_L13 {κ : Nat → ClassId} {tg : Nat} {S : zEn} {ad : Nat → Nat} {X : zX} {pT : zM} {pR : zM} {pX : zM} {pF : zM} {pB : zM} {pP : zP} {a : (zM × Int32)} {r : ((zM × Int32) ⊕ zM)} (hC : zC X cX10_settle RX10 wsX10_settle vwCl (zty κ) (zE tg S) 2 ({ frames := 3, cells := 0, slots := 0, locals := 77 } : Room)) (hEk : zEk (zE tg S)) (hin : ∀ a', r = .inl a' → zV X 0 0 (zwC κ ad a'.1 pR pX pF pB pP) [(0, .ref (ad 0)), (1, .int a'.2)] [] 13) (hout : ∀ b', r = .inr b' → zV X 0 0 (zwC κ ad b' pR pX pF pB pP) [(0, .ref (ad 0))] [] 36) (h : xX10_settle_L13   a = some r) : zV X 0 0 (zwC κ ad a.1 pR pX pF pB pP) [(0, .ref (ad 0)), (1, .int a.2)] [] 13 := by
  unfold xX10_settle_L13 at h
  refine zr_iload_n (pc := 13) hC 1 rfl rfl dX10_settle_13 ?_
  refine zr_if_lt (pc := 14) (tgt := 36) hC dX10_settle_14 (by decide) (fun c1 => ?_) (fun c1 => ?_)
  · replace h := zip h c1
    obtain rfl := Option.some.inj h
    exact zV.sub (lv' := [(0, .ref (ad 0))]) [0] rfl (hout _ rfl)
  · replace h := zin h c1
    refine zr_iload_n (pc := 17) hC 1 rfl rfl dX10_settle_17 ?_
    refine zr_aload_n (pc := 18) hC 0 rfl rfl dX10_settle_18 ?_
    refine zcg_0_13 (pc := 19) hC hinX10_settle_X10 flX10_settle_54 dX10_settle_19 ?_
    refine zr_icmp_ge (pc := 22) (tgt := 30) hC dX10_settle_22 (by decide) (fun c2 => ?_) (fun c2 => ?_)
    · replace h := zip h c2
      refine zr_iinc (pc := 30) (k := 1) (lv' := [(1, .int (a.2 + (-1 : Int32))), (0, .ref (ad 0))]) hC zki_m1 (by decide) rfl rfl dX10_settle_30 ?_
      refine zr_goto (pc := 33) (tgt := 13) hC dX10_settle_33 (by decide) ?_
      obtain rfl := Option.some.inj h
      exact zV.sub (lv' := [(0, .ref (ad 0)), (1, .int (a.2 + (-1 : Int32)))]) [1, 0] rfl (hin _ rfl)
    · replace h := zin h c2
      refine zr_aload_n (pc := 25) hC 0 rfl rfl dX10_settle_25 ?_
      refine zr_iload_n (pc := 26) hC 1 rfl rfl dX10_settle_26 ?_
      obtain ⟨q3, hq3, h⟩ := zbd h
      refine zr_cVv (pc := 27) hC hEk [.int a.2] [] 0 1 (fun l D => tX10_lookBehind hEk hq3 l D) gX10_settle_X10_lookBehind rfl rfl rfl ⟨Nat.le_of_ble_eq_true rfl, Nat.le_of_ble_eq_true rfl⟩ hyX10_lookBehind (zNC (by decide)) entC_0 rfl rfl rfl (Nat.le_of_ble_eq_true rfl) ⟨Nat.le_of_ble_eq_true rfl, Nat.le_of_ble_eq_true rfl⟩ dX10_settle_27 ?_
      refine zr_iinc (pc := 30) (k := 1) (lv' := [(1, .int (a.2 + (-1 : Int32))), (0, .ref (ad 0))]) hC zki_m1 (by decide) rfl rfl dX10_settle_30 ?_
      refine zr_goto (pc := 33) (tgt := 13) hC dX10_settle_33 (by decide) ?_
      obtain rfl := Option.some.inj h
      exact zV.sub (lv' := [(0, .ref (ad 0)), (1, .int (a.2 + (-1 : Int32)))]) [1, 0] rfl (hin _ rfl)
def xX10_settle_L38  (a : (zM × Int32)) : Option ((zM × Int32) ⊕ zM) :=
  if (24 : Int32) ≤ a.2 then
  (some (.inr a.1))
  else
  if (a.1.1 0 13) ≤ a.2 then
  (some (.inr a.1))
  else
  (xX10_lookAhead a.1 a.2).bind fun q3 =>
  some (.inl (q3, (a.2 + (1 : Int32))))
set_option maxHeartbeats 4000000 in
set_option maxRecDepth 100000 in
theorem tX10_settle_L38 {κ : Nat → ClassId} {tg : Nat} {S : zEn} {ad : Nat → Nat} {X : zX} {pT : zM} {pR : zM} {pX : zM} {pF : zM} {pB : zM} {pP : zP} {a : (zM × Int32)} {r : ((zM × Int32) ⊕ zM)} (hC : zC X cX10_settle RX10 wsX10_settle vwCl (zty κ) (zE tg S) 2 ({ frames := 3, cells := 0, slots := 0, locals := 77 } : Room)) (hEk : zEk (zE tg S)) (hin : ∀ a', r = .inl a' → zV X 0 0 (zwC κ ad a'.1 pR pX pF pB pP) [(0, .ref (ad 0)), (1, .int a'.2)] [] 38) (hout : ∀ b', r = .inr b' → zV X 0 0 (zwC κ ad b' pR pX pF pB pP) [] [] 63) (h : xX10_settle_L38   a = some r) : zV X 0 0 (zwC κ ad a.1 pR pX pF pB pP) [(0, .ref (ad 0)), (1, .int a.2)] [] 38 := by
  unfold xX10_settle_L38 at h
  refine zr_iload_n (pc := 38) hC 1 rfl rfl dX10_settle_38 ?_
  refine zr_bipush (pc := 39) hC zkb_24 dX10_settle_39 ?_
  refine zr_icmp_ge (pc := 41) (tgt := 63) hC dX10_settle_41 (by decide) (fun c1 => ?_) (fun c1 => ?_)
  · replace h := zip h c1
    obtain rfl := Option.some.inj h
    exact zV.sub (lv' := []) [] rfl (hout _ rfl)
  · replace h := zin h c1
    refine zr_iload_n (pc := 44) hC 1 rfl rfl dX10_settle_44 ?_
    refine zr_aload_n (pc := 45) hC 0 rfl rfl dX10_settle_45 ?_
    refine zcg_0_13 (pc := 46) hC hinX10_settle_X10 flX10_settle_54 dX10_settle_46 ?_
    refine zr_icmp_ge (pc := 49) (tgt := 63) hC dX10_settle_49 (by decide) (fun c2 => ?_) (fun c2 => ?_)
    · replace h := zip h c2
      obtain rfl := Option.some.inj h
      exact zV.sub (lv' := []) [] rfl (hout _ rfl)
    · replace h := zin h c2
      refine zr_aload_n (pc := 52) hC 0 rfl rfl dX10_settle_52 ?_
      refine zr_iload_n (pc := 53) hC 1 rfl rfl dX10_settle_53 ?_
      obtain ⟨q3, hq3, h⟩ := zbd h
      refine zr_cVv (pc := 54) hC hEk [.int a.2] [] 0 1 (fun l D => tX10_lookAhead hEk hq3 l D) gX10_settle_X10_lookAhead rfl rfl rfl ⟨Nat.le_of_ble_eq_true rfl, Nat.le_of_ble_eq_true rfl⟩ hyX10_lookAhead (zNC (by decide)) entC_0 rfl rfl rfl (Nat.le_of_ble_eq_true rfl) ⟨Nat.le_of_ble_eq_true rfl, Nat.le_of_ble_eq_true rfl⟩ dX10_settle_54 ?_
      refine zr_iinc (pc := 57) (k := 1) (lv' := [(1, .int (a.2 + (1 : Int32))), (0, .ref (ad 0))]) hC zki_1 (by decide) rfl rfl dX10_settle_57 ?_
      refine zr_goto (pc := 60) (tgt := 38) hC dX10_settle_60 (by decide) ?_
      obtain rfl := Option.some.inj h
      exact zV.sub (lv' := [(0, .ref (ad 0)), (1, .int (a.2 + (1 : Int32)))]) [1, 0] rfl (hin _ rfl)
def xX10_settle (pT : zM)  : Option zM :=
  zlet (zsi pT 0 14 (0 : Int32)) fun M1 =>
  zlet (zsi M1 0 15 (1 : Int32)) fun M3 =>
  (x_it (xX10_settle_L13 ) zFU (M3, (23 : Int32))).bind fun q5 =>
  (x_it (xX10_settle_L38 ) zFU (q5, (1 : Int32))).bind fun q6 =>
  some q6
set_option maxHeartbeats 4000000 in
set_option maxRecDepth 100000 in
theorem tX10_settle {κ : Nat → ClassId} {tg : Nat} {S : zEn} {ad : Nat → Nat} (hEk : zEk (zE tg S)) {pT : zM} {pR : zM} {pX : zM} {pF : zM} {pB : zM} {pP : zP}  {res : zM} (h : xX10_settle pT  = some res) (l : Launch) (D : va_G) : zCT (zE tg S) D vwCl (zty κ) l yX10_settle wsX10_settle ({ frames := 3, cells := 0, slots := 0, locals := 77 } : Room) 0 0 [.ref (ad 0)] (zwC κ ad pT pR pX pF pB pP) (zPd none (zwC κ ad res pR pX pF pB pP)) := by
  refine zCT.of (cc := cX10_settle) (maxL := 2) (ret := none) (by decide) rfl (Nat.le_of_ble_eq_true rfl) ?_
  intro X hC hR
  unfold xX10_settle at h
  refine zV.sub (lv' := [(0, .ref (ad 0))]) [0] rfl ?_
  refine zr_aload_n (pc := 0) hC 0 rfl rfl dX10_settle_0 ?_
  refine zr_iconst (pc := 1) hC zki_0 dX10_settle_1 ?_
  obtain ⟨M1, e2, h⟩ := zle h
  refine zcp_0_14 (pc := 2) hC hinX10_settle_X10 flX10_settle_58 e2 dX10_settle_2 ?_
  refine zr_aload_n (pc := 5) hC 0 rfl rfl dX10_settle_5 ?_
  refine zr_iconst (pc := 6) hC zki_1 dX10_settle_6 ?_
  obtain ⟨M3, e4, h⟩ := zle h
  refine zcp_0_15 (pc := 7) hC hinX10_settle_X10 flX10_settle_61 (by decide) e4 dX10_settle_7 ?_
  refine zr_bipush (pc := 10) hC zkb_23 dX10_settle_10 ?_
  refine zr_istore_n (pc := 12) (lv' := [(1, .int (23 : Int32)), (0, .ref (ad 0))]) hC rfl (by decide) rfl dX10_settle_12 ?_
  obtain ⟨q5, hq5, h⟩ := zbd h
  refine zV.sub (lv' := [(0, .ref (ad 0)), (1, .int (23 : Int32))]) [1, 0] rfl ?_
  refine zit (Wp := fun (a : (zM × Int32)) => zV X 0 0 (zwC κ ad a.1 pR pX pF pB pP) [(0, .ref (ad 0)), (1, .int a.2)] [] 13) (Ex := fun (b : zM) => zV X 0 0 (zwC κ ad b pR pX pF pB pP) [(0, .ref (ad 0))] [] 36) (fun a r hr hin hout => tX10_settle_L13 hC hEk hin hout hr) zFU (M3, (23 : Int32)) q5 hq5 ?_
  show zV X 0 0 (zwC κ ad q5 pR pX pF pB pP) [(0, .ref (ad 0))] [] 36
  refine zr_iconst (pc := 36) hC zki_1 dX10_settle_36 ?_
  refine zr_istore_n (pc := 37) (lv' := [(1, .int (1 : Int32)), (0, .ref (ad 0))]) hC rfl (by decide) rfl dX10_settle_37 ?_
  obtain ⟨q6, hq6, h⟩ := zbd h
  refine zV.sub (lv' := [(0, .ref (ad 0)), (1, .int (1 : Int32))]) [1, 0] rfl ?_
  refine zit (Wp := fun (a : (zM × Int32)) => zV X 0 0 (zwC κ ad a.1 pR pX pF pB pP) [(0, .ref (ad 0)), (1, .int a.2)] [] 38) (Ex := fun (b : zM) => zV X 0 0 (zwC κ ad b pR pX pF pB pP) [] [] 63) (fun a r hr hin hout => tX10_settle_L38 hC hEk hin hout hr) zFU (q5, (1 : Int32)) q6 hq6 ?_
  show zV X 0 0 (zwC κ ad q6 pR pX pF pB pP) [] [] 63
  obtain rfl := Option.some.inj h
  exact zr_vret hC hR ⟨rfl, rfl⟩ (Nat.le_refl _) (Nat.le_refl _) dX10_settle_63
/-! X11_refuse -/
theorem hyX11_refuse : yX11_refuse.cls = RX11 ∧ yX11_refuse.cls ≠ "java/lang/invoke/MethodHandle" ∧ yX11_refuse.cls ≠ "java/lang/invoke/VarHandle" ∧ (parseMethodDescriptor yX11_refuse.desc).map (fun d => d.parameters.length) = some 1 := by decide +kernel
theorem flX11_refuse_31 : Cond.fieldLink RX11 31 "BeforeTheEnd" "refusals" "[I" ∈ wsX11_refuse := by decide +kernel
theorem hinX11_refuse_X11 : ∀ w ∈ wsX110, w ∈ wsX11_refuse := fun _ h => List.mem_cons_of_mem _ (List.mem_append_right _ h)
def xX11_refuse (pB : zM) (v1 : Int32) : Option (Int32 × zM) :=
  zlet (-v1) fun z1 =>
  if z1 < 0 then
  (some (v1, pB))
  else
  if (7 : Int32) ≤ z1 then
  (some (v1, pB))
  else
  if (z1 < 0 ∨ 7 ≤ z1.toNatClampNeg) then none else
  zlet (zsi pB 78 z1.toNatClampNeg ((pB.1 78 z1.toNatClampNeg) + (1 : Int32))) fun M6 =>
  some (v1, M6)
set_option maxHeartbeats 4000000 in
set_option maxRecDepth 100000 in
theorem tX11_refuse {κ : Nat → ClassId} {tg : Nat} {S : zEn} {ad : Nat → Nat} (hEk : zEk (zE tg S)) {pT : zM} {pR : zM} {pX : zM} {pF : zM} {pB : zM} {pP : zP} {v1 : Int32} {res : (Int32 × zM)} (h : xX11_refuse pB v1 = some res) (l : Launch) (D : va_G) : zCT (zE tg S) D vwCl (zty κ) l yX11_refuse wsX11_refuse ({ frames := 0, cells := 0, slots := 0, locals := 0 } : Room) 0 0 [.ref (ad 76), .int v1] (zwC κ ad pT pR pX pF pB pP) (zPd (some (.int res.1)) (zwC κ ad pT pR pX pF res.2 pP)) := by
  refine zCT.of (cc := cX11_refuse) (maxL := 3) (ret := (some .int)) (by decide) rfl (Nat.le_of_ble_eq_true rfl) ?_
  intro X hC hR
  unfold xX11_refuse at h
  refine zV.sub (lv' := [(0, .ref (ad 76)), (1, .int v1)]) [0, 1] rfl ?_
  refine zr_iload_n (pc := 0) hC 1 rfl rfl dX11_refuse_0 ?_
  refine zr_ineg (pc := 1) hC dX11_refuse_1 ?_
  obtain ⟨z1, e2, h⟩ := zle h
  refine zr_topi e2 ?_
  refine zr_istore_n (pc := 2) (lv' := [(2, .int z1), (0, .ref (ad 76)), (1, .int v1)]) hC rfl (by decide) rfl dX11_refuse_2 ?_
  refine zr_iload_n (pc := 3) hC 0 rfl rfl dX11_refuse_3 ?_
  refine zr_if_lt (pc := 4) (tgt := 26) hC dX11_refuse_4 (by decide) (fun c3 => ?_) (fun c3 => ?_)
  · replace h := zip h c3
    refine zr_iload_n (pc := 26) hC 2 rfl rfl dX11_refuse_26 ?_
    obtain rfl := Option.some.inj h
    exact zr_iret hC hR ⟨rfl, rfl⟩ (Nat.le_refl _) (Nat.le_refl _) dX11_refuse_27
  · replace h := zin h c3
    refine zr_iload_n (pc := 7) hC 0 rfl rfl dX11_refuse_7 ?_
    refine zr_aload_n (pc := 8) hC 1 rfl rfl dX11_refuse_8 ?_
    refine zcg_76_6 (pc := 9) hC hinX11_refuse_X11 flX11_refuse_31 dX11_refuse_9 ?_
    refine zca_78 (pc := 12) hC dX11_refuse_12 ?_
    refine zr_icmp_ge (pc := 13) (tgt := 26) hC dX11_refuse_13 (by decide) (fun c4 => ?_) (fun c4 => ?_)
    · replace h := zip h c4
      refine zr_iload_n (pc := 26) hC 2 rfl rfl dX11_refuse_26 ?_
      obtain rfl := Option.some.inj h
      exact zr_iret hC hR ⟨rfl, rfl⟩ (Nat.le_refl _) (Nat.le_refl _) dX11_refuse_27
    · replace h := zin h c4
      refine zr_aload_n (pc := 16) hC 1 rfl rfl dX11_refuse_16 ?_
      refine zcg_76_6 (pc := 17) hC hinX11_refuse_X11 flX11_refuse_31 dX11_refuse_17 ?_
      refine zr_iload_n (pc := 20) hC 0 rfl rfl dX11_refuse_20 ?_
      refine zr_dup2 (pc := 21) hC rfl rfl dX11_refuse_21 ?_
      obtain ⟨i5, h⟩ := zgd h
      refine zcl_78 (pc := 22) hC i5 dX11_refuse_22 ?_
      refine zr_iconst (pc := 23) hC zki_1 dX11_refuse_23 ?_
      refine zr_iadd (pc := 24) hC dX11_refuse_24 ?_
      obtain ⟨M6, e7, h⟩ := zle h
      refine zcs_78 (pc := 25) hC i5 e7 dX11_refuse_25 ?_
      refine zr_iload_n (pc := 26) hC 2 rfl rfl dX11_refuse_26 ?_
      obtain rfl := Option.some.inj h
      exact zr_iret hC hR ⟨rfl, rfl⟩ (Nat.le_refl _) (Nat.le_refl _) dX11_refuse_27
/-! X11_feed -/
theorem hyX11_feed : yX11_feed.cls = RX11 ∧ yX11_feed.cls ≠ "java/lang/invoke/MethodHandle" ∧ yX11_feed.cls ≠ "java/lang/invoke/VarHandle" ∧ (parseMethodDescriptor yX11_feed.desc).map (fun d => d.parameters.length) = some 2 := by decide +kernel
theorem flX11_feed_10 : Cond.fieldLink RX11 10 "BeforeTheEnd" "tape" "LBeforeTheEnd$Text;" ∈ wsX11_feed := by decide +kernel
theorem flX11_feed_80 : Jvm.Cond.constantLong RX11 80 (255) ∈ wsX11_feed := by decide +kernel
theorem hinX11_feed_X11 : ∀ w ∈ wsX110, w ∈ wsX11_feed := fun _ h => List.mem_cons_of_mem _ (List.mem_append_left _ (List.mem_append_right _ h))
theorem hinX11_feed_X8 : ∀ w ∈ wsX80, w ∈ wsX11_feed := fun _ h => List.mem_cons_of_mem _ (List.mem_append_right _ h)
def xX11_feed_L42 (pB : zM) (v1 : Int32) (v2 : Int64) (a : (zM × Int32)) : Option ((zM × Int32) ⊕ zM) :=
  if v1 ≤ a.2 then
  (some (.inr a.1))
  else
  if (8 : Int32) ≤ a.2 then
  (some (.inr a.1))
  else
  (xX8_append a.1 ((v2 >>> (((8 : Int32) * a.2).toInt64 &&& 63)) &&& (255 : Int64)).toInt32).bind fun q3 =>
  some (.inl (q3, (a.2 + (1 : Int32))))
set_option maxHeartbeats 4000000 in
set_option maxRecDepth 100000 in
theorem tX11_feed_L42 {κ : Nat → ClassId} {tg : Nat} {S : zEn} {ad : Nat → Nat} {X : zX} {pT : zM} {pR : zM} {pX : zM} {pF : zM} {pP : zP} {pB : zM} {v1 : Int32} {v2 : Int64} {a : (zM × Int32)} {r : ((zM × Int32) ⊕ zM)} (hC : zC X cX11_feed RX11 wsX11_feed vwCl (zty κ) (zE tg S) 5 ({ frames := 1, cells := 0, slots := 0, locals := 22 } : Room)) (hEk : zEk (zE tg S)) (hin : ∀ a', r = .inl a' → zV X 0 0 (zwC κ ad pT pR a'.1 pF pB pP) [(0, .ref (ad 76)), (1, .int v1), (2, .long v2), (4, .int a'.2)] [] 42) (hout : ∀ b', r = .inr b' → zV X 0 0 (zwC κ ad pT pR b' pF pB pP) [(0, .ref (ad 76))] [] 80) (h : xX11_feed_L42 pB v1 v2 a = some r) : zV X 0 0 (zwC κ ad pT pR a.1 pF pB pP) [(0, .ref (ad 76)), (1, .int v1), (2, .long v2), (4, .int a.2)] [] 42 := by
  unfold xX11_feed_L42 at h
  refine zr_iload (pc := 42) hC 3 rfl dX11_feed_42 ?_
  refine zr_iload_n (pc := 44) hC 1 rfl rfl dX11_feed_44 ?_
  refine zr_icmp_ge (pc := 45) (tgt := 80) hC dX11_feed_45 (by decide) (fun c1 => ?_) (fun c1 => ?_)
  · replace h := zip h c1
    obtain rfl := Option.some.inj h
    exact zV.sub (lv' := [(0, .ref (ad 76))]) [0] rfl (hout _ rfl)
  · replace h := zin h c1
    refine zr_iload (pc := 48) hC 3 rfl dX11_feed_48 ?_
    refine zr_bipush (pc := 50) hC zkb_8 dX11_feed_50 ?_
    refine zr_icmp_ge (pc := 52) (tgt := 80) hC dX11_feed_52 (by decide) (fun c2 => ?_) (fun c2 => ?_)
    · replace h := zip h c2
      obtain rfl := Option.some.inj h
      exact zV.sub (lv' := [(0, .ref (ad 76))]) [0] rfl (hout _ rfl)
    · replace h := zin h c2
      refine zr_aload_n (pc := 55) hC 0 rfl rfl dX11_feed_55 ?_
      refine zcg_76_2 (pc := 56) hC hinX11_feed_X11 flX11_feed_10 dX11_feed_56 ?_
      refine zr_lload_n (pc := 59) hC 2 rfl rfl dX11_feed_59 ?_
      refine zr_bipush (pc := 60) hC zkb_8 dX11_feed_60 ?_
      refine zr_iload (pc := 62) hC 3 rfl dX11_feed_62 ?_
      refine zr_imul (pc := 64) hC dX11_feed_64 ?_
      refine zr_lshr (pc := 65) hC dX11_feed_65 ?_
      refine zr_ldc2 (pc := 66) hC flX11_feed_80 dX11_feed_66 ?_
      refine zr_land (pc := 69) hC dX11_feed_69 ?_
      refine zr_l2i (pc := 70) hC dX11_feed_70 ?_
      obtain ⟨q3, hq3, h⟩ := zbd h
      refine zr_cVv (pc := 71) hC hEk [.int ((v2 >>> (((8 : Int32) * a.2).toInt64 &&& 63)) &&& (255 : Int64)).toInt32] [] 70 1 (fun l D => tX8_append hEk hq3 l D) gX11_feed_X8_append rfl rfl rfl ⟨Nat.le_of_ble_eq_true rfl, Nat.le_of_ble_eq_true rfl⟩ hyX8_append (zNC (by decide)) entC_70 rfl rfl rfl (Nat.le_of_ble_eq_true rfl) ⟨Nat.le_of_ble_eq_true rfl, Nat.le_of_ble_eq_true rfl⟩ dX11_feed_71 ?_
      refine zr_iinc (pc := 74) (k := 3) (lv' := [(4, .int (a.2 + (1 : Int32))), (0, .ref (ad 76)), (1, .int v1), (2, .long v2)]) hC zki_1 (by decide) rfl rfl dX11_feed_74 ?_
      refine zr_goto (pc := 77) (tgt := 42) hC dX11_feed_77 (by decide) ?_
      obtain rfl := Option.some.inj h
      exact zV.sub (lv' := [(0, .ref (ad 76)), (1, .int v1), (2, .long v2), (4, .int (a.2 + (1 : Int32)))]) [1, 2, 3, 0] rfl (hin _ rfl)
def xX11_feed (pX : zM) (pB : zM) (v1 : Int32) (v2 : Int64) : Option (Int32 × zM × zM) :=
  if (1 : Int32) ≤ v1 then
  (if (8 : Int32) < v1 then
  ((xX11_refuse pB (-6 : Int32)).bind fun q3 =>
  some (q3.1, pX, q3.2))
  else
  (xX8_size pX).bind fun q4 =>
  if (q4 + v1) ≤ (64 : Int32) then
  ((x_it (xX11_feed_L42 pB v1 v2) zFU (pX, (0 : Int32))).bind fun q6 =>
  (xX8_size q6).bind fun q7 =>
  some (q7, q6, pB))
  else
  (xX11_refuse pB (-6 : Int32)).bind fun q8 =>
  some (q8.1, pX, q8.2))
  else
  (xX11_refuse pB (-4 : Int32)).bind fun q9 =>
  some (q9.1, pX, q9.2)
set_option maxHeartbeats 4000000 in
set_option maxRecDepth 100000 in
theorem tX11_feed {κ : Nat → ClassId} {tg : Nat} {S : zEn} {ad : Nat → Nat} (hEk : zEk (zE tg S)) {pT : zM} {pR : zM} {pX : zM} {pF : zM} {pB : zM} {pP : zP} {v1 : Int32} {v2 : Int64} {res : (Int32 × zM × zM)} (h : xX11_feed pX pB v1 v2 = some res) (l : Launch) (D : va_G) : zCT (zE tg S) D vwCl (zty κ) l yX11_feed wsX11_feed ({ frames := 1, cells := 0, slots := 0, locals := 22 } : Room) 0 0 [.ref (ad 76), .int v1, .long v2] (zwC κ ad pT pR pX pF pB pP) (zPd (some (.int res.1)) (zwC κ ad pT pR res.2.1 pF res.2.2 pP)) := by
  refine zCT.of (cc := cX11_feed) (maxL := 5) (ret := (some .int)) (by decide) rfl (Nat.le_of_ble_eq_true rfl) ?_
  intro X hC hR
  unfold xX11_feed at h
  refine zV.sub (lv' := [(0, .ref (ad 76)), (1, .int v1), (2, .long v2)]) [0, 1, 2] rfl ?_
  refine zr_iload_n (pc := 0) hC 1 rfl rfl dX11_feed_0 ?_
  refine zr_iconst (pc := 1) hC zki_1 dX11_feed_1 ?_
  refine zr_icmp_ge (pc := 2) (tgt := 12) hC dX11_feed_2 (by decide) (fun c1 => ?_) (fun c1 => ?_)
  · replace h := zip h c1
    refine zr_iload_n (pc := 12) hC 1 rfl rfl dX11_feed_12 ?_
    refine zr_bipush (pc := 13) hC zkb_8 dX11_feed_13 ?_
    refine zr_icmp_gt (pc := 15) (tgt := 32) hC dX11_feed_15 (by decide) (fun c2 => ?_) (fun c2 => ?_)
    · replace h := zip h c2
      refine zr_aload_n (pc := 32) hC 0 rfl rfl dX11_feed_32 ?_
      refine zr_bipush (pc := 33) hC zkb_m6 dX11_feed_33 ?_
      obtain ⟨q3, hq3, h⟩ := zbd h
      refine zr_cVi (pc := 35) hC hEk [.int (-6 : Int32)] [] 76 1 (fun l D => tX11_refuse hEk hq3 l D) gX11_feed_X11_refuse rfl rfl rfl ⟨Nat.le_of_ble_eq_true rfl, Nat.le_of_ble_eq_true rfl⟩ hyX11_refuse (zNC (by decide)) entC_76 rfl rfl rfl (Nat.le_of_ble_eq_true rfl) ⟨Nat.le_of_ble_eq_true rfl, Nat.le_of_ble_eq_true rfl⟩ dX11_feed_35 ?_
      obtain rfl := Option.some.inj h
      exact zr_iret hC hR ⟨rfl, rfl⟩ (Nat.le_refl _) (Nat.le_refl _) dX11_feed_38
    · replace h := zin h c2
      refine zr_aload_n (pc := 18) hC 0 rfl rfl dX11_feed_18 ?_
      refine zcg_76_2 (pc := 19) hC hinX11_feed_X11 flX11_feed_10 dX11_feed_19 ?_
      obtain ⟨q4, hq4, h⟩ := zbd h
      refine zr_cVi (pc := 22) hC hEk [] [] 70 0 (fun l D => tX8_size hEk hq4 l D) gX11_feed_X8_size rfl rfl rfl ⟨Nat.le_of_ble_eq_true rfl, Nat.le_of_ble_eq_true rfl⟩ hyX8_size (zNC (by decide)) entC_70 rfl rfl rfl (Nat.le_of_ble_eq_true rfl) ⟨Nat.le_of_ble_eq_true rfl, Nat.le_of_ble_eq_true rfl⟩ dX11_feed_22 ?_
      refine zr_iload_n (pc := 25) hC 1 rfl rfl dX11_feed_25 ?_
      refine zr_iadd (pc := 26) hC dX11_feed_26 ?_
      refine zr_bipush (pc := 27) hC zkb_64 dX11_feed_27 ?_
      refine zr_icmp_le (pc := 29) (tgt := 39) hC dX11_feed_29 (by decide) (fun c5 => ?_) (fun c5 => ?_)
      · replace h := zip h c5
        refine zr_iconst (pc := 39) hC zki_0 dX11_feed_39 ?_
        refine zr_istore (pc := 40) (lv' := [(4, .int (0 : Int32)), (0, .ref (ad 76)), (1, .int v1), (2, .long v2)]) hC (by decide) rfl dX11_feed_40 ?_
        obtain ⟨q6, hq6, h⟩ := zbd h
        refine zV.sub (lv' := [(0, .ref (ad 76)), (1, .int v1), (2, .long v2), (4, .int (0 : Int32))]) [1, 2, 3, 0] rfl ?_
        refine zit (Wp := fun (a : (zM × Int32)) => zV X 0 0 (zwC κ ad pT pR a.1 pF pB pP) [(0, .ref (ad 76)), (1, .int v1), (2, .long v2), (4, .int a.2)] [] 42) (Ex := fun (b : zM) => zV X 0 0 (zwC κ ad pT pR b pF pB pP) [(0, .ref (ad 76))] [] 80) (fun a r hr hin hout => tX11_feed_L42 hC hEk hin hout hr) zFU (pX, (0 : Int32)) q6 hq6 ?_
        show zV X 0 0 (zwC κ ad pT pR q6 pF pB pP) [(0, .ref (ad 76))] [] 80
        refine zr_aload_n (pc := 80) hC 0 rfl rfl dX11_feed_80 ?_
        refine zcg_76_2 (pc := 81) hC hinX11_feed_X11 flX11_feed_10 dX11_feed_81 ?_
        obtain ⟨q7, hq7, h⟩ := zbd h
        refine zr_cVi (pc := 84) hC hEk [] [] 70 0 (fun l D => tX8_size hEk hq7 l D) gX11_feed_X8_size rfl rfl rfl ⟨Nat.le_of_ble_eq_true rfl, Nat.le_of_ble_eq_true rfl⟩ hyX8_size (zNC (by decide)) entC_70 rfl rfl rfl (Nat.le_of_ble_eq_true rfl) ⟨Nat.le_of_ble_eq_true rfl, Nat.le_of_ble_eq_true rfl⟩ dX11_feed_84 ?_
        obtain rfl := Option.some.inj h
        exact zr_iret hC hR ⟨rfl, rfl⟩ (Nat.le_refl _) (Nat.le_refl _) dX11_feed_87
      · replace h := zin h c5
        refine zr_aload_n (pc := 32) hC 0 rfl rfl dX11_feed_32 ?_
        refine zr_bipush (pc := 33) hC zkb_m6 dX11_feed_33 ?_
        obtain ⟨q8, hq8, h⟩ := zbd h
        refine zr_cVi (pc := 35) hC hEk [.int (-6 : Int32)] [] 76 1 (fun l D => tX11_refuse hEk hq8 l D) gX11_feed_X11_refuse rfl rfl rfl ⟨Nat.le_of_ble_eq_true rfl, Nat.le_of_ble_eq_true rfl⟩ hyX11_refuse (zNC (by decide)) entC_76 rfl rfl rfl (Nat.le_of_ble_eq_true rfl) ⟨Nat.le_of_ble_eq_true rfl, Nat.le_of_ble_eq_true rfl⟩ dX11_feed_35 ?_
        obtain rfl := Option.some.inj h
        exact zr_iret hC hR ⟨rfl, rfl⟩ (Nat.le_refl _) (Nat.le_refl _) dX11_feed_38
  · replace h := zin h c1
    refine zr_aload_n (pc := 5) hC 0 rfl rfl dX11_feed_5 ?_
    refine zr_bipush (pc := 6) hC zkb_m4 dX11_feed_6 ?_
    obtain ⟨q9, hq9, h⟩ := zbd h
    refine zr_cVi (pc := 8) hC hEk [.int (-4 : Int32)] [] 76 1 (fun l D => tX11_refuse hEk hq9 l D) gX11_feed_X11_refuse rfl rfl rfl ⟨Nat.le_of_ble_eq_true rfl, Nat.le_of_ble_eq_true rfl⟩ hyX11_refuse (zNC (by decide)) entC_76 rfl rfl rfl (Nat.le_of_ble_eq_true rfl) ⟨Nat.le_of_ble_eq_true rfl, Nat.le_of_ble_eq_true rfl⟩ dX11_feed_8 ?_
    obtain rfl := Option.some.inj h
    exact zr_iret hC hR ⟨rfl, rfl⟩ (Nat.le_refl _) (Nat.le_refl _) dX11_feed_11
/-! X11_word -/
theorem hyX11_word : yX11_word.cls = RX11 ∧ yX11_word.cls ≠ "java/lang/invoke/MethodHandle" ∧ yX11_word.cls ≠ "java/lang/invoke/VarHandle" ∧ (parseMethodDescriptor yX11_word.desc).map (fun d => d.parameters.length) = some 2 := by decide +kernel
theorem flX11_word_59 : Cond.fieldLink RX11 59 "BeforeTheEnd" "tree" "LBeforeTheEnd$Tree;" ∈ wsX11_word := by decide +kernel
theorem hinX11_word_X11 : ∀ w ∈ wsX110, w ∈ wsX11_word := fun _ h => List.mem_cons_of_mem _ (List.mem_append_left _ (List.mem_append_right _ h))
theorem hinX11_word_X10 : ∀ w ∈ wsX100, w ∈ wsX11_word := fun _ h => List.mem_cons_of_mem _ (List.mem_append_right _ h)
def xX11_word (pT : zM) (pB : zM) (v1 : Int32) (v2 : Int32) : Option (Int32 × zM) :=
  (xX10_has pT v1).bind fun q1 =>
  if q1 = 0 then
  ((xX11_refuse pB (-1 : Int32)).bind fun q14 =>
  some (q14.1, q14.2))
  else
  if v2 = (0 : Int32) then
  ((xX10_parentOf pT v1).bind fun q4 =>
  some (q4, pB))
  else
  if v2 = (1 : Int32) then
  ((xX10_weightOf pT v1).bind fun q6 =>
  some (q6, pB))
  else
  if v2 = (2 : Int32) then
  ((xX10_answerOf pT v1).bind fun q8 =>
  some (q8, pB))
  else
  if v2 = (3 : Int32) then
  ((xX10_lengthOf pT v1).bind fun q10 =>
  some (q10, pB))
  else
  if v2 = (4 : Int32) then
  ((xX10_nextsOf pT v1).bind fun q12 =>
  some (q12, pB))
  else
  (xX11_refuse pB (-2 : Int32)).bind fun q13 =>
  some (q13.1, q13.2)
set_option maxHeartbeats 4000000 in
set_option maxRecDepth 100000 in
theorem tX11_word {κ : Nat → ClassId} {tg : Nat} {S : zEn} {ad : Nat → Nat} (hEk : zEk (zE tg S)) {pT : zM} {pR : zM} {pX : zM} {pF : zM} {pB : zM} {pP : zP} {v1 : Int32} {v2 : Int32} {res : (Int32 × zM)} (h : xX11_word pT pB v1 v2 = some res) (l : Launch) (D : va_G) : zCT (zE tg S) D vwCl (zty κ) l yX11_word wsX11_word ({ frames := 2, cells := 0, slots := 0, locals := 42 } : Room) 0 0 [.ref (ad 76), .int v1, .int v2] (zwC κ ad pT pR pX pF pB pP) (zPd (some (.int res.1)) (zwC κ ad pT pR pX pF res.2 pP)) := by
  refine zCT.of (cc := cX11_word) (maxL := 3) (ret := (some .int)) (by decide) rfl (Nat.le_of_ble_eq_true rfl) ?_
  intro X hC hR
  unfold xX11_word at h
  refine zV.sub (lv' := [(0, .ref (ad 76)), (1, .int v1), (2, .int v2)]) [0, 1, 2] rfl ?_
  refine zr_aload_n (pc := 0) hC 0 rfl rfl dX11_word_0 ?_
  refine zcg_76_0 (pc := 1) hC hinX11_word_X11 flX11_word_59 dX11_word_1 ?_
  refine zr_iload_n (pc := 4) hC 1 rfl rfl dX11_word_4 ?_
  obtain ⟨q1, hq1, h⟩ := zbd h
  refine zr_cVi (pc := 5) hC hEk [.int v1] [] 0 1 (fun l D => tX10_has hEk hq1 l D) gX11_word_X10_has rfl rfl rfl ⟨Nat.le_of_ble_eq_true rfl, Nat.le_of_ble_eq_true rfl⟩ hyX10_has (zNC (by decide)) entC_0 rfl rfl rfl (Nat.le_of_ble_eq_true rfl) ⟨Nat.le_of_ble_eq_true rfl, Nat.le_of_ble_eq_true rfl⟩ dX11_word_5 ?_
  refine zr_if_ne (pc := 8) (tgt := 17) hC dX11_word_8 (by decide) (fun c2 => ?_) (fun c2 => ?_)
  · replace h := zin h c2
    refine zr_iload_n (pc := 17) hC 2 rfl rfl dX11_word_17 ?_
    by_cases c3 : v2 = (0 : Int32)
    · replace h := zip h c3
      refine zr_tabIn (pc := 18) (off := 34) (tgt := 52) hC dX11_word_18 (by rw [c3]; decide) (by rw [c3]; decide) (by rw [c3]; decide) (by decide) ?_
      refine zr_aload_n (pc := 52) hC 0 rfl rfl dX11_word_52 ?_
      refine zcg_76_0 (pc := 53) hC hinX11_word_X11 flX11_word_59 dX11_word_53 ?_
      refine zr_iload_n (pc := 56) hC 1 rfl rfl dX11_word_56 ?_
      obtain ⟨q4, hq4, h⟩ := zbd h
      refine zr_cVi (pc := 57) hC hEk [.int v1] [] 0 1 (fun l D => tX10_parentOf hEk hq4 l D) gX11_word_X10_parentOf rfl rfl rfl ⟨Nat.le_of_ble_eq_true rfl, Nat.le_of_ble_eq_true rfl⟩ hyX10_parentOf (zNC (by decide)) entC_0 rfl rfl rfl (Nat.le_of_ble_eq_true rfl) ⟨Nat.le_of_ble_eq_true rfl, Nat.le_of_ble_eq_true rfl⟩ dX11_word_57 ?_
      obtain rfl := Option.some.inj h
      exact zr_iret hC hR ⟨rfl, rfl⟩ (Nat.le_refl _) (Nat.le_refl _) dX11_word_60
    · replace h := zin h c3
      by_cases c5 : v2 = (1 : Int32)
      · replace h := zip h c5
        refine zr_tabIn (pc := 18) (off := 43) (tgt := 61) hC dX11_word_18 (by rw [c5]; decide) (by rw [c5]; decide) (by rw [c5]; decide) (by decide) ?_
        refine zr_aload_n (pc := 61) hC 0 rfl rfl dX11_word_61 ?_
        refine zcg_76_0 (pc := 62) hC hinX11_word_X11 flX11_word_59 dX11_word_62 ?_
        refine zr_iload_n (pc := 65) hC 1 rfl rfl dX11_word_65 ?_
        obtain ⟨q6, hq6, h⟩ := zbd h
        refine zr_cVi (pc := 66) hC hEk [.int v1] [] 0 1 (fun l D => tX10_weightOf hEk hq6 l D) gX11_word_X10_weightOf rfl rfl rfl ⟨Nat.le_of_ble_eq_true rfl, Nat.le_of_ble_eq_true rfl⟩ hyX10_weightOf (zNC (by decide)) entC_0 rfl rfl rfl (Nat.le_of_ble_eq_true rfl) ⟨Nat.le_of_ble_eq_true rfl, Nat.le_of_ble_eq_true rfl⟩ dX11_word_66 ?_
        obtain rfl := Option.some.inj h
        exact zr_iret hC hR ⟨rfl, rfl⟩ (Nat.le_refl _) (Nat.le_refl _) dX11_word_69
      · replace h := zin h c5
        by_cases c7 : v2 = (2 : Int32)
        · replace h := zip h c7
          refine zr_tabIn (pc := 18) (off := 52) (tgt := 70) hC dX11_word_18 (by rw [c7]; decide) (by rw [c7]; decide) (by rw [c7]; decide) (by decide) ?_
          refine zr_aload_n (pc := 70) hC 0 rfl rfl dX11_word_70 ?_
          refine zcg_76_0 (pc := 71) hC hinX11_word_X11 flX11_word_59 dX11_word_71 ?_
          refine zr_iload_n (pc := 74) hC 1 rfl rfl dX11_word_74 ?_
          obtain ⟨q8, hq8, h⟩ := zbd h
          refine zr_cVi (pc := 75) hC hEk [.int v1] [] 0 1 (fun l D => tX10_answerOf hEk hq8 l D) gX11_word_X10_answerOf rfl rfl rfl ⟨Nat.le_of_ble_eq_true rfl, Nat.le_of_ble_eq_true rfl⟩ hyX10_answerOf (zNC (by decide)) entC_0 rfl rfl rfl (Nat.le_of_ble_eq_true rfl) ⟨Nat.le_of_ble_eq_true rfl, Nat.le_of_ble_eq_true rfl⟩ dX11_word_75 ?_
          obtain rfl := Option.some.inj h
          exact zr_iret hC hR ⟨rfl, rfl⟩ (Nat.le_refl _) (Nat.le_refl _) dX11_word_78
        · replace h := zin h c7
          by_cases c9 : v2 = (3 : Int32)
          · replace h := zip h c9
            refine zr_tabIn (pc := 18) (off := 61) (tgt := 79) hC dX11_word_18 (by rw [c9]; decide) (by rw [c9]; decide) (by rw [c9]; decide) (by decide) ?_
            refine zr_aload_n (pc := 79) hC 0 rfl rfl dX11_word_79 ?_
            refine zcg_76_0 (pc := 80) hC hinX11_word_X11 flX11_word_59 dX11_word_80 ?_
            refine zr_iload_n (pc := 83) hC 1 rfl rfl dX11_word_83 ?_
            obtain ⟨q10, hq10, h⟩ := zbd h
            refine zr_cVi (pc := 84) hC hEk [.int v1] [] 0 1 (fun l D => tX10_lengthOf hEk hq10 l D) gX11_word_X10_lengthOf rfl rfl rfl ⟨Nat.le_of_ble_eq_true rfl, Nat.le_of_ble_eq_true rfl⟩ hyX10_lengthOf (zNC (by decide)) entC_0 rfl rfl rfl (Nat.le_of_ble_eq_true rfl) ⟨Nat.le_of_ble_eq_true rfl, Nat.le_of_ble_eq_true rfl⟩ dX11_word_84 ?_
            obtain rfl := Option.some.inj h
            exact zr_iret hC hR ⟨rfl, rfl⟩ (Nat.le_refl _) (Nat.le_refl _) dX11_word_87
          · replace h := zin h c9
            by_cases c11 : v2 = (4 : Int32)
            · replace h := zip h c11
              refine zr_tabIn (pc := 18) (off := 70) (tgt := 88) hC dX11_word_18 (by rw [c11]; decide) (by rw [c11]; decide) (by rw [c11]; decide) (by decide) ?_
              refine zr_aload_n (pc := 88) hC 0 rfl rfl dX11_word_88 ?_
              refine zcg_76_0 (pc := 89) hC hinX11_word_X11 flX11_word_59 dX11_word_89 ?_
              refine zr_iload_n (pc := 92) hC 1 rfl rfl dX11_word_92 ?_
              obtain ⟨q12, hq12, h⟩ := zbd h
              refine zr_cVi (pc := 93) hC hEk [.int v1] [] 0 1 (fun l D => tX10_nextsOf hEk hq12 l D) gX11_word_X10_nextsOf rfl rfl rfl ⟨Nat.le_of_ble_eq_true rfl, Nat.le_of_ble_eq_true rfl⟩ hyX10_nextsOf (zNC (by decide)) entC_0 rfl rfl rfl (Nat.le_of_ble_eq_true rfl) ⟨Nat.le_of_ble_eq_true rfl, Nat.le_of_ble_eq_true rfl⟩ dX11_word_93 ?_
              obtain rfl := Option.some.inj h
              exact zr_iret hC hR ⟨rfl, rfl⟩ (Nat.le_refl _) (Nat.le_refl _) dX11_word_96
            · replace h := zin h c11
              refine zr_tabOut (pc := 18) (tgt := 97) hC dX11_word_18 (zsw_out_0_5 c3 c5 c7 c9 c11) (by decide) ?_
              refine zr_aload_n (pc := 97) hC 0 rfl rfl dX11_word_97 ?_
              refine zr_bipush (pc := 98) hC zkb_m2 dX11_word_98 ?_
              obtain ⟨q13, hq13, h⟩ := zbd h
              refine zr_cVi (pc := 100) hC hEk [.int (-2 : Int32)] [] 76 1 (fun l D => tX11_refuse hEk hq13 l D) gX11_word_X11_refuse rfl rfl rfl ⟨Nat.le_of_ble_eq_true rfl, Nat.le_of_ble_eq_true rfl⟩ hyX11_refuse (zNC (by decide)) entC_76 rfl rfl rfl (Nat.le_of_ble_eq_true rfl) ⟨Nat.le_of_ble_eq_true rfl, Nat.le_of_ble_eq_true rfl⟩ dX11_word_100 ?_
              obtain rfl := Option.some.inj h
              exact zr_iret hC hR ⟨rfl, rfl⟩ (Nat.le_refl _) (Nat.le_refl _) dX11_word_103
  · replace h := zip h c2
    refine zr_aload_n (pc := 11) hC 0 rfl rfl dX11_word_11 ?_
    refine zr_iconst (pc := 12) hC zki_m1 dX11_word_12 ?_
    obtain ⟨q14, hq14, h⟩ := zbd h
    refine zr_cVi (pc := 13) hC hEk [.int (-1 : Int32)] [] 76 1 (fun l D => tX11_refuse hEk hq14 l D) gX11_word_X11_refuse rfl rfl rfl ⟨Nat.le_of_ble_eq_true rfl, Nat.le_of_ble_eq_true rfl⟩ hyX11_refuse (zNC (by decide)) entC_76 rfl rfl rfl (Nat.le_of_ble_eq_true rfl) ⟨Nat.le_of_ble_eq_true rfl, Nat.le_of_ble_eq_true rfl⟩ dX11_word_13 ?_
    obtain rfl := Option.some.inj h
    exact zr_iret hC hR ⟨rfl, rfl⟩ (Nat.le_refl _) (Nat.le_refl _) dX11_word_16
/-! X2_kind_k0 -/
theorem hyX2_kind : yX2_kind.cls = RX2 ∧ yX2_kind.cls ≠ "java/lang/invoke/MethodHandle" ∧ yX2_kind.cls ≠ "java/lang/invoke/VarHandle" ∧ (parseMethodDescriptor yX2_kind.desc).map (fun d => d.parameters.length) = some 0 := by decide +kernel
def xX2_kind_k0 (pP : zP) (v0 : Nat) : Option Int32 :=
  some (0 : Int32)
set_option maxHeartbeats 4000000 in
set_option maxRecDepth 100000 in
theorem tX2_kind_k0 {κ : Nat → ClassId} {tg : Nat} {S : zEn} {ad : Nat → Nat} (hEk : zEk (zE tg S)) {pT : zM} {pR : zM} {pX : zM} {pF : zM} {pB : zM} {pP : zP} {v0 : Nat} (hk : pP.2.1 v0 = 0) (hv0 : v0 < pP.2.2.2) {res : Int32} (h : xX2_kind_k0 pP v0 = some res) (l : Launch) (D : va_G) : zCT (zE tg S) D vwCl (zty κ) l yX2_kind wsX2_kind ({ frames := 0, cells := 0, slots := 0, locals := 0 } : Room) 0 0 [.ref (ad (81 + v0))] (zwC κ ad pT pR pX pF pB pP) (zPd (some (.int res)) (zwC κ ad pT pR pX pF pB pP)) := by
  refine zCT.of (cc := cX2_kind) (maxL := 1) (ret := (some .int)) (by decide) rfl (Nat.le_of_ble_eq_true rfl) ?_
  intro X hC hR
  unfold xX2_kind_k0 at h
  refine zV.sub (lv' := [(0, .ref (ad (81 + v0)))]) [0] rfl ?_
  refine zr_iconst (pc := 0) hC zki_0 dX2_kind_0 ?_
  obtain rfl := Option.some.inj h
  exact zr_iret hC hR ⟨rfl, rfl⟩ (Nat.le_refl _) (Nat.le_refl _) dX2_kind_1
/-! X7_kind_k1 -/
theorem hyX7_kind : yX7_kind.cls = RX7 ∧ yX7_kind.cls ≠ "java/lang/invoke/MethodHandle" ∧ yX7_kind.cls ≠ "java/lang/invoke/VarHandle" ∧ (parseMethodDescriptor yX7_kind.desc).map (fun d => d.parameters.length) = some 0 := by decide +kernel
def xX7_kind_k1 (pP : zP) (v0 : Nat) : Option Int32 :=
  some (1 : Int32)
set_option maxHeartbeats 4000000 in
set_option maxRecDepth 100000 in
theorem tX7_kind_k1 {κ : Nat → ClassId} {tg : Nat} {S : zEn} {ad : Nat → Nat} (hEk : zEk (zE tg S)) {pT : zM} {pR : zM} {pX : zM} {pF : zM} {pB : zM} {pP : zP} {v0 : Nat} (hk : pP.2.1 v0 = 1) (hv0 : v0 < pP.2.2.2) {res : Int32} (h : xX7_kind_k1 pP v0 = some res) (l : Launch) (D : va_G) : zCT (zE tg S) D vwCl (zty κ) l yX7_kind wsX7_kind ({ frames := 0, cells := 0, slots := 0, locals := 0 } : Room) 0 0 [.ref (ad (81 + v0))] (zwC κ ad pT pR pX pF pB pP) (zPd (some (.int res)) (zwC κ ad pT pR pX pF pB pP)) := by
  refine zCT.of (cc := cX7_kind) (maxL := 1) (ret := (some .int)) (by decide) rfl (Nat.le_of_ble_eq_true rfl) ?_
  intro X hC hR
  unfold xX7_kind_k1 at h
  refine zV.sub (lv' := [(0, .ref (ad (81 + v0)))]) [0] rfl ?_
  refine zr_iconst (pc := 0) hC zki_1 dX7_kind_0 ?_
  obtain rfl := Option.some.inj h
  exact zr_iret hC hR ⟨rfl, rfl⟩ (Nat.le_refl _) (Nat.le_refl _) dX7_kind_1
/-! X1_kind_k2 -/
theorem hyX1_kind : yX1_kind.cls = RX1 ∧ yX1_kind.cls ≠ "java/lang/invoke/MethodHandle" ∧ yX1_kind.cls ≠ "java/lang/invoke/VarHandle" ∧ (parseMethodDescriptor yX1_kind.desc).map (fun d => d.parameters.length) = some 0 := by decide +kernel
def xX1_kind_k2 (pP : zP) (v0 : Nat) : Option Int32 :=
  some (2 : Int32)
set_option maxHeartbeats 4000000 in
set_option maxRecDepth 100000 in
theorem tX1_kind_k2 {κ : Nat → ClassId} {tg : Nat} {S : zEn} {ad : Nat → Nat} (hEk : zEk (zE tg S)) {pT : zM} {pR : zM} {pX : zM} {pF : zM} {pB : zM} {pP : zP} {v0 : Nat} (hk : pP.2.1 v0 = 2) (hv0 : v0 < pP.2.2.2) {res : Int32} (h : xX1_kind_k2 pP v0 = some res) (l : Launch) (D : va_G) : zCT (zE tg S) D vwCl (zty κ) l yX1_kind wsX1_kind ({ frames := 0, cells := 0, slots := 0, locals := 0 } : Room) 0 0 [.ref (ad (81 + v0))] (zwC κ ad pT pR pX pF pB pP) (zPd (some (.int res)) (zwC κ ad pT pR pX pF pB pP)) := by
  refine zCT.of (cc := cX1_kind) (maxL := 1) (ret := (some .int)) (by decide) rfl (Nat.le_of_ble_eq_true rfl) ?_
  intro X hC hR
  unfold xX1_kind_k2 at h
  refine zV.sub (lv' := [(0, .ref (ad (81 + v0)))]) [0] rfl ?_
  refine zr_iconst (pc := 0) hC zki_2 dX1_kind_0 ?_
  obtain rfl := Option.some.inj h
  exact zr_iret hC hR ⟨rfl, rfl⟩ (Nat.le_refl _) (Nat.le_refl _) dX1_kind_1
