/-! J1_indexOf_4cfef -/
theorem hyJ1_indexOf_4cfef : yJ1_indexOf_4cfef.cls ≠ "java/lang/invoke/MethodHandle" ∧ yJ1_indexOf_4cfef.cls ≠ "java/lang/invoke/VarHandle" ∧ (parseMethodDescriptor yJ1_indexOf_4cfef.desc).map (fun d => d.parameters.length) = some 4 := by decide +kernel
theorem lwJ1_indexOf_4cfef_92 : Cond.methodLink RJ1 92 Lib.Math.max.name ∈ wsJ1_indexOf_4cfef ∧ Cond.static Lib.Math.max.name ∈ wsJ1_indexOf_4cfef ∧ Cond.initialized "java/lang/Math" ∈ wsJ1_indexOf_4cfef ∧ Cond.code Lib.Math.max.name Lib.Math.max.code 2 (some .int) ∈ wsJ1_indexOf_4cfef := by decide +kernel
theorem lwJ1_indexOf_4cfef_38 : Cond.methodLink RJ1 38 Lib.Math.min.name ∈ wsJ1_indexOf_4cfef ∧ Cond.static Lib.Math.min.name ∈ wsJ1_indexOf_4cfef ∧ Cond.initialized "java/lang/Math" ∈ wsJ1_indexOf_4cfef ∧ Cond.code Lib.Math.min.name Lib.Math.min.code 2 (some .int) ∈ wsJ1_indexOf_4cfef := by decide +kernel
def xJ1_indexOf_4cfef  (v1 : Int32) (v2 : Int32) (v3 : Int32) : Option Int32 :=
  (xJ1_canEncode_9a6ad v1).bind fun q1 =>
  if q1 = 0 then
  (some (-1 : Int32))
  else
  zlet (if v2 < (0 : Int32) then (0 : Int32) else v2) fun z3 =>
  zlet (if (6 : Int32) < v3 then (6 : Int32) else v3) fun z5 =>
  if z3 < z5 then
  ((xJ1_indexOfChar_4cfef v1 z3 z5).bind fun q8 =>
  some q8)
  else
  some (-1 : Int32)
set_option maxHeartbeats 4000000 in
set_option maxRecDepth 100000 in
theorem tJ1_indexOf_4cfef {κ : Nat → ClassId} {tg : Nat} {adK adV : Nat → Nat} {ws : va_W} (hEk : zEk (zE tg (zS adK adV)))  {v1 : Int32} {v2 : Int32} {v3 : Int32} {res : Int32} (h : xJ1_indexOf_4cfef  v1 v2 v3 = some res) (l : Launch) (D : va_G) : zCT (zE tg (zS adK adV)) D vwCl (zty κ) l yJ1_indexOf_4cfef wsJ1_indexOf_4cfef ({ frames := 1, cells := 0, slots := 0, locals := 25 } : Room) 0 0 [.ref (adV 0), .int v1, .int v2, .int v3] ws (zPd (some (.int res)) ws) := by
  refine zCT.of (cc := cJ1_indexOf_4cfef) (maxL := 4) (ret := (some .int)) (by decide) rfl (Nat.le_of_ble_eq_true rfl) ?_
  intro X hC hR
  unfold xJ1_indexOf_4cfef at h
  refine zV.sub (lv' := [(0, .ref (adV 0)), (1, .int v1), (2, .int v2), (3, .int v3)]) [0, 1, 2, 3] rfl ?_
  refine zr_iload_n (pc := 0) hC 1 rfl rfl dJ1_indexOf_4cfef_0 ?_
  obtain ⟨q1, hq1, h⟩ := zbd h
  refine zr_cSi (pc := 1) hC hEk [.int v1] [] 1 (fun l D => tJ1_canEncode_9a6ad hEk hq1 l D) gJ1_indexOf_4cfef_J1_canEncode_9a6ad rfl rfl rfl ⟨Nat.le_of_ble_eq_true rfl, Nat.le_of_ble_eq_true rfl⟩ hyJ1_canEncode_9a6ad rfl rfl (Nat.le_of_ble_eq_true rfl) ⟨Nat.le_of_ble_eq_true rfl, Nat.le_of_ble_eq_true rfl⟩ dJ1_indexOf_4cfef_1 ?_
  refine zr_if_ne (pc := 4) (tgt := 9) hC dJ1_indexOf_4cfef_4 (by decide) (fun c2 => ?_) (fun c2 => ?_)
  · replace h := zin h c2
    refine zr_iload_n (pc := 9) hC 2 rfl rfl dJ1_indexOf_4cfef_9 ?_
    refine zr_iconst (pc := 10) hC zki_0 dJ1_indexOf_4cfef_10 ?_
    refine zr_mmax (pc := 11) hC lwJ1_indexOf_4cfef_92 (Nat.le_of_ble_eq_true rfl) (Nat.le_of_ble_eq_true rfl) (Nat.le_of_ble_eq_true rfl) (Nat.le_of_ble_eq_true rfl) dJ1_indexOf_4cfef_11 ?_
    obtain ⟨z3, e4, h⟩ := zle h
    refine zr_topi e4 ?_
    refine zr_istore_n (pc := 14) (lv' := [(2, .int z3), (0, .ref (adV 0)), (1, .int v1), (3, .int v3)]) hC rfl (by decide) rfl dJ1_indexOf_4cfef_14 ?_
    refine zr_iload_n (pc := 15) hC 3 rfl rfl dJ1_indexOf_4cfef_15 ?_
    refine zr_aload_n (pc := 16) hC 1 rfl rfl dJ1_indexOf_4cfef_16 ?_
    refine zs_len (pc := 17) hC dJ1_indexOf_4cfef_17 ?_
    refine zr_mmin (pc := 18) hC lwJ1_indexOf_4cfef_38 (Nat.le_of_ble_eq_true rfl) (Nat.le_of_ble_eq_true rfl) (Nat.le_of_ble_eq_true rfl) (Nat.le_of_ble_eq_true rfl) dJ1_indexOf_4cfef_18 ?_
    obtain ⟨z5, e6, h⟩ := zle h
    refine zr_topi e6 ?_
    refine zr_istore_n (pc := 21) (lv' := [(3, .int z5), (2, .int z3), (0, .ref (adV 0)), (1, .int v1)]) hC rfl (by decide) rfl dJ1_indexOf_4cfef_21 ?_
    refine zr_iload_n (pc := 22) hC 1 rfl rfl dJ1_indexOf_4cfef_22 ?_
    refine zr_iload_n (pc := 23) hC 0 rfl rfl dJ1_indexOf_4cfef_23 ?_
    refine zr_icmp_lt (pc := 24) (tgt := 29) hC dJ1_indexOf_4cfef_24 (by decide) (fun c7 => ?_) (fun c7 => ?_)
    · replace h := zip h c7
      refine zr_aload_n (pc := 29) hC 2 rfl rfl dJ1_indexOf_4cfef_29 ?_
      refine zr_iload_n (pc := 30) hC 3 rfl rfl dJ1_indexOf_4cfef_30 ?_
      refine zr_iload_n (pc := 31) hC 1 rfl rfl dJ1_indexOf_4cfef_31 ?_
      refine zr_iload_n (pc := 32) hC 0 rfl rfl dJ1_indexOf_4cfef_32 ?_
      obtain ⟨q8, hq8, h⟩ := zbd h
      refine zr_cSi (pc := 33) hC hEk [.ref (adV 0), .int v1, .int z3, .int z5] [] 4 (fun l D => tJ1_indexOfChar_4cfef hEk hq8 l D) gJ1_indexOf_4cfef_J1_indexOfChar_4cfef rfl rfl rfl ⟨Nat.le_of_ble_eq_true rfl, Nat.le_of_ble_eq_true rfl⟩ hyJ1_indexOfChar_4cfef rfl rfl (Nat.le_of_ble_eq_true rfl) ⟨Nat.le_of_ble_eq_true rfl, Nat.le_of_ble_eq_true rfl⟩ dJ1_indexOf_4cfef_33 ?_
      obtain rfl := Option.some.inj h
      exact zr_iret hC hR ⟨rfl, rfl⟩ (Nat.le_refl _) (Nat.le_refl _) dJ1_indexOf_4cfef_36
    · replace h := zin h c7
      refine zr_iconst (pc := 27) hC zki_m1 dJ1_indexOf_4cfef_27 ?_
      obtain rfl := Option.some.inj h
      exact zr_iret hC hR ⟨rfl, rfl⟩ (Nat.le_refl _) (Nat.le_refl _) dJ1_indexOf_4cfef_28
  · replace h := zip h c2
    refine zr_iconst (pc := 7) hC zki_m1 dJ1_indexOf_4cfef_7 ?_
    obtain rfl := Option.some.inj h
    exact zr_iret hC hR ⟨rfl, rfl⟩ (Nat.le_refl _) (Nat.le_refl _) dJ1_indexOf_4cfef_8
/-! J0_indexOf_7cf53 -/
theorem hyJ0_indexOf_7cf53 : yJ0_indexOf_7cf53.cls = RJ0 ∧ yJ0_indexOf_7cf53.cls ≠ "java/lang/invoke/MethodHandle" ∧ yJ0_indexOf_7cf53.cls ≠ "java/lang/invoke/VarHandle" ∧ (parseMethodDescriptor yJ0_indexOf_7cf53.desc).map (fun d => d.parameters.length) = some 2 := by decide +kernel
theorem flJ0_indexOf_7cf53_9 : Cond.fieldLink RJ0 9 "java/lang/String" "value" "[B" ∈ wsJ0_indexOf_7cf53 := by decide +kernel
def xJ0_indexOf_7cf53  (v1 : Int32) (v2 : Int32) : Option Int32 :=
  (xJ0_isLatin1_aae02 ).bind fun q1 =>
  if q1 = 0 then
  (none)
  else
  (xJ0_length_8abf5 ).bind fun q3 =>
  (xJ1_indexOf_4cfef v1 v2 q3).bind fun q4 =>
  some q4
set_option maxHeartbeats 4000000 in
set_option maxRecDepth 100000 in
theorem tJ0_indexOf_7cf53 {κ : Nat → ClassId} {tg : Nat} {adK adV : Nat → Nat} {ws : va_W} (hEk : zEk (zE tg (zS adK adV)))  {v1 : Int32} {v2 : Int32} {res : Int32} (h : xJ0_indexOf_7cf53  v1 v2 = some res) (l : Launch) (D : va_G) : zCT (zE tg (zS adK adV)) D vwCl (zty κ) l yJ0_indexOf_7cf53 wsJ0_indexOf_7cf53 ({ frames := 2, cells := 0, slots := 0, locals := 48 } : Room) 0 0 [.ref (adK 0), .int v1, .int v2] ws (zPd (some (.int res)) ws) := by
  refine zCT.of (cc := cJ0_indexOf_7cf53) (maxL := 3) (ret := (some .int)) (by decide) rfl (Nat.le_of_ble_eq_true rfl) ?_
  intro X hC hR
  unfold xJ0_indexOf_7cf53 at h
  refine zV.sub (lv' := [(0, .ref (adK 0)), (1, .int v1), (2, .int v2)]) [0, 1, 2] rfl ?_
  refine zr_aload_n (pc := 0) hC 0 rfl rfl dJ0_indexOf_7cf53_0 ?_
  obtain ⟨q1, hq1, h⟩ := zbd h
  refine zr_cTi (pc := 1) hC hEk [] [] 0 (fun l D => tJ0_isLatin1_aae02 hEk hq1 l D) gJ0_indexOf_7cf53_J0_isLatin1_aae02 rfl rfl rfl ⟨Nat.le_of_ble_eq_true rfl, Nat.le_of_ble_eq_true rfl⟩ hyJ0_isLatin1_aae02 rfl rfl (Nat.le_of_ble_eq_true rfl) ⟨Nat.le_of_ble_eq_true rfl, Nat.le_of_ble_eq_true rfl⟩ dJ0_indexOf_7cf53_1 ?_
  refine zr_if_eq (pc := 4) (tgt := 23) hC dJ0_indexOf_7cf53_4 (by decide) (fun c2 => ?_) (fun c2 => ?_)
  · replace h := zip h c2
    cases h
  · replace h := zin h c2
    refine zr_aload_n (pc := 7) hC 0 rfl rfl dJ0_indexOf_7cf53_7 ?_
    refine zs_getv (pc := 8) hC flJ0_indexOf_7cf53_9 dJ0_indexOf_7cf53_8 ?_
    refine zr_iload_n (pc := 11) hC 1 rfl rfl dJ0_indexOf_7cf53_11 ?_
    refine zr_iload_n (pc := 12) hC 2 rfl rfl dJ0_indexOf_7cf53_12 ?_
    refine zr_aload_n (pc := 13) hC 0 rfl rfl dJ0_indexOf_7cf53_13 ?_
    obtain ⟨q3, hq3, h⟩ := zbd h
    refine zr_cTi (pc := 14) hC hEk [] [.int v2, .int v1, .ref (adV 0)] 0 (fun l D => tJ0_length_8abf5 hEk hq3 l D) gJ0_indexOf_7cf53_J0_length_8abf5 rfl rfl rfl ⟨Nat.le_of_ble_eq_true rfl, Nat.le_of_ble_eq_true rfl⟩ hyJ0_length_8abf5 rfl rfl (Nat.le_of_ble_eq_true rfl) ⟨Nat.le_of_ble_eq_true rfl, Nat.le_of_ble_eq_true rfl⟩ dJ0_indexOf_7cf53_14 ?_
    obtain ⟨q4, hq4, h⟩ := zbd h
    refine zr_cSi (pc := 17) hC hEk [.ref (adV 0), .int v1, .int v2, .int q3] [] 4 (fun l D => tJ1_indexOf_4cfef hEk hq4 l D) gJ0_indexOf_7cf53_J1_indexOf_4cfef rfl rfl rfl ⟨Nat.le_of_ble_eq_true rfl, Nat.le_of_ble_eq_true rfl⟩ hyJ1_indexOf_4cfef rfl rfl (Nat.le_of_ble_eq_true rfl) ⟨Nat.le_of_ble_eq_true rfl, Nat.le_of_ble_eq_true rfl⟩ dJ0_indexOf_7cf53_17 ?_
    refine zr_goto (pc := 20) (tgt := 36) hC dJ0_indexOf_7cf53_20 (by decide) ?_
    obtain rfl := Option.some.inj h
    exact zr_iret hC hR ⟨rfl, rfl⟩ (Nat.le_refl _) (Nat.le_refl _) dJ0_indexOf_7cf53_36
/-! J0_indexOf_0f7a4 -/
theorem hyJ0_indexOf_0f7a4 : yJ0_indexOf_0f7a4.cls = RJ0 ∧ yJ0_indexOf_0f7a4.cls ≠ "java/lang/invoke/MethodHandle" ∧ yJ0_indexOf_0f7a4.cls ≠ "java/lang/invoke/VarHandle" ∧ (parseMethodDescriptor yJ0_indexOf_0f7a4.desc).map (fun d => d.parameters.length) = some 1 := by decide +kernel
def xJ0_indexOf_0f7a4  (v1 : Int32) : Option Int32 :=
  (xJ0_indexOf_7cf53 v1 (0 : Int32)).bind fun q1 =>
  some q1
set_option maxHeartbeats 4000000 in
set_option maxRecDepth 100000 in
theorem tJ0_indexOf_0f7a4 {κ : Nat → ClassId} {tg : Nat} {adK adV : Nat → Nat} {ws : va_W} (hEk : zEk (zE tg (zS adK adV)))  {v1 : Int32} {res : Int32} (h : xJ0_indexOf_0f7a4  v1 = some res) (l : Launch) (D : va_G) : zCT (zE tg (zS adK adV)) D vwCl (zty κ) l yJ0_indexOf_0f7a4 wsJ0_indexOf_0f7a4 ({ frames := 3, cells := 0, slots := 0, locals := 70 } : Room) 0 0 [.ref (adK 0), .int v1] ws (zPd (some (.int res)) ws) := by
  refine zCT.of (cc := cJ0_indexOf_0f7a4) (maxL := 2) (ret := (some .int)) (by decide) rfl (Nat.le_of_ble_eq_true rfl) ?_
  intro X hC hR
  unfold xJ0_indexOf_0f7a4 at h
  refine zV.sub (lv' := [(0, .ref (adK 0)), (1, .int v1)]) [0, 1] rfl ?_
  refine zr_aload_n (pc := 0) hC 0 rfl rfl dJ0_indexOf_0f7a4_0 ?_
  refine zr_iload_n (pc := 1) hC 1 rfl rfl dJ0_indexOf_0f7a4_1 ?_
  refine zr_iconst (pc := 2) hC zki_0 dJ0_indexOf_0f7a4_2 ?_
  obtain ⟨q1, hq1, h⟩ := zbd h
  refine zr_cTi (pc := 3) hC hEk [.int v1, .int (0 : Int32)] [] 2 (fun l D => tJ0_indexOf_7cf53 hEk hq1 l D) gJ0_indexOf_0f7a4_J0_indexOf_7cf53 rfl rfl rfl ⟨Nat.le_of_ble_eq_true rfl, Nat.le_of_ble_eq_true rfl⟩ hyJ0_indexOf_7cf53 rfl rfl (Nat.le_of_ble_eq_true rfl) ⟨Nat.le_of_ble_eq_true rfl, Nat.le_of_ble_eq_true rfl⟩ dJ0_indexOf_0f7a4_3 ?_
  obtain rfl := Option.some.inj h
  exact zr_iret hC hR ⟨rfl, rfl⟩ (Nat.le_refl _) (Nat.le_refl _) dJ0_indexOf_0f7a4_6
/-! X8_readKind -/
theorem hyX8_readKind : yX8_readKind.cls = RX8 ∧ yX8_readKind.cls ≠ "java/lang/invoke/MethodHandle" ∧ yX8_readKind.cls ≠ "java/lang/invoke/VarHandle" ∧ (parseMethodDescriptor yX8_readKind.desc).map (fun d => d.parameters.length) = some 0 := by decide +kernel
theorem flX8_readKind_19 : Cond.fieldLink RX8 19 "BeforeTheEnd$Text" "at" "I" ∈ wsX8_readKind := by decide +kernel
theorem hinX8_readKind_X8 : ∀ w ∈ wsX80, w ∈ wsX8_readKind := fun _ h => List.mem_cons_of_mem _ (List.mem_append_right _ h)
def xX8_readKind (pX : zM)  : Option (Int32 × zM) :=
  (xX8_here pX).bind fun q1 =>
  if 0 ≤ q1 then
  ((xJ0_indexOf_0f7a4 (q1.toUInt32 % 65536).toInt32).bind fun q3 =>
  if q3 < 0 then
  (some (q3, pX))
  else
  zlet (zsi pX 70 2 ((pX.1 70 2) + (1 : Int32))) fun M5 =>
  some (q3, M5))
  else
  some ((-1 : Int32), pX)
set_option maxHeartbeats 4000000 in
set_option maxRecDepth 100000 in
theorem tX8_readKind {κ : Nat → ClassId} {tg : Nat} {adK adV : Nat → Nat} {ad : Nat → Nat} (hEk : zEk (zE tg (zS adK adV))) {pT : zM} {pR : zM} {pX : zM} {pF : zM} {pB : zM} {pP : zP}  {res : (Int32 × zM)} (h : xX8_readKind pX  = some res) (l : Launch) (D : va_G) : zCT (zE tg (zS adK adV)) D vwCl (zty κ) l yX8_readKind wsX8_readKind ({ frames := 4, cells := 0, slots := 0, locals := 91 } : Room) 0 0 [.ref (ad 70)] (zwC κ ad pT pR pX pF pB pP) (zPd (some (.int res.1)) (zwC κ ad pT pR res.2 pF pB pP)) := by
  refine zCT.of (cc := cX8_readKind) (maxL := 3) (ret := (some .int)) (by decide) rfl (Nat.le_of_ble_eq_true rfl) ?_
  intro X hC hR
  unfold xX8_readKind at h
  refine zV.sub (lv' := [(0, .ref (ad 70))]) [0] rfl ?_
  refine zr_aload_n (pc := 0) hC 0 rfl rfl dX8_readKind_0 ?_
  obtain ⟨q1, hq1, h⟩ := zbd h
  refine zr_cVi (pc := 1) hC hEk [] [] 70 0 (fun l D => tX8_here hEk hq1 l D) gX8_readKind_X8_here rfl rfl rfl ⟨Nat.le_of_ble_eq_true rfl, Nat.le_of_ble_eq_true rfl⟩ hyX8_here (zNC (by decide)) entC_70 rfl rfl rfl (Nat.le_of_ble_eq_true rfl) ⟨Nat.le_of_ble_eq_true rfl, Nat.le_of_ble_eq_true rfl⟩ dX8_readKind_1 ?_
  refine zr_istore_n (pc := 4) (lv' := [(1, .int q1), (0, .ref (ad 70))]) hC rfl (by decide) rfl dX8_readKind_4 ?_
  refine zr_iload_n (pc := 5) hC 0 rfl rfl dX8_readKind_5 ?_
  refine zr_if_ge (pc := 6) (tgt := 13) hC dX8_readKind_6 (by decide) (fun c2 => ?_) (fun c2 => ?_)
  · replace h := zip h c2
    refine zs_ldc (pc := 13) hC dX8_readKind_13 ?_
    refine zr_iload_n (pc := 15) hC 0 rfl rfl dX8_readKind_15 ?_
    refine zr_i2c (pc := 16) hC dX8_readKind_16 ?_
    obtain ⟨q3, hq3, h⟩ := zbd h
    refine zr_cTi (pc := 17) hC hEk [.int (q1.toUInt32 % 65536).toInt32] [] 1 (fun l D => tJ0_indexOf_0f7a4 hEk hq3 l D) gX8_readKind_J0_indexOf_0f7a4 rfl rfl rfl ⟨Nat.le_of_ble_eq_true rfl, Nat.le_of_ble_eq_true rfl⟩ hyJ0_indexOf_0f7a4 rfl rfl (Nat.le_of_ble_eq_true rfl) ⟨Nat.le_of_ble_eq_true rfl, Nat.le_of_ble_eq_true rfl⟩ dX8_readKind_17 ?_
    refine zr_istore_n (pc := 20) (lv' := [(2, .int q3), (1, .int q1), (0, .ref (ad 70))]) hC rfl (by decide) rfl dX8_readKind_20 ?_
    refine zr_iload_n (pc := 21) hC 0 rfl rfl dX8_readKind_21 ?_
    refine zr_if_lt (pc := 22) (tgt := 35) hC dX8_readKind_22 (by decide) (fun c4 => ?_) (fun c4 => ?_)
    · replace h := zip h c4
      refine zr_iload_n (pc := 35) hC 0 rfl rfl dX8_readKind_35 ?_
      obtain rfl := Option.some.inj h
      exact zr_iret hC hR ⟨rfl, rfl⟩ (Nat.le_refl _) (Nat.le_refl _) dX8_readKind_36
    · replace h := zin h c4
      refine zr_aload_n (pc := 25) hC 2 rfl rfl dX8_readKind_25 ?_
      refine zr_dup (pc := 26) hC rfl dX8_readKind_26 ?_
      refine zcg_70_2 (pc := 27) hC hinX8_readKind_X8 flX8_readKind_19 dX8_readKind_27 ?_
      refine zr_iconst (pc := 30) hC zki_1 dX8_readKind_30 ?_
      refine zr_iadd (pc := 31) hC dX8_readKind_31 ?_
      obtain ⟨M5, e6, h⟩ := zle h
      refine zcp_70_2 (pc := 32) hC hinX8_readKind_X8 flX8_readKind_19 e6 dX8_readKind_32 ?_
      refine zr_iload_n (pc := 35) hC 0 rfl rfl dX8_readKind_35 ?_
      obtain rfl := Option.some.inj h
      exact zr_iret hC hR ⟨rfl, rfl⟩ (Nat.le_refl _) (Nat.le_refl _) dX8_readKind_36
  · replace h := zin h c2
    refine zr_iconst (pc := 9) hC zki_m1 dX8_readKind_9 ?_
    refine zr_goto (pc := 10) (tgt := 20) hC dX8_readKind_10 (by decide) ?_
    refine zr_istore_n (pc := 20) (lv' := [(2, .int (-1 : Int32)), (1, .int q1), (0, .ref (ad 70))]) hC rfl (by decide) rfl dX8_readKind_20 ?_
    refine zr_iload_n (pc := 21) hC 0 rfl rfl dX8_readKind_21 ?_
    refine zr_if_lt (pc := 22) (tgt := 35) hC dX8_readKind_22 (by decide) (fun _ => ?_) (fun c => absurd c (by decide))
    refine zr_iload_n (pc := 35) hC 0 rfl rfl dX8_readKind_35 ?_
    obtain rfl := Option.some.inj h
    exact zr_iret hC hR ⟨rfl, rfl⟩ (Nat.le_refl _) (Nat.le_refl _) dX8_readKind_36
/-! X8_readAnswers -/
theorem hyX8_readAnswers : yX8_readAnswers.cls = RX8 ∧ yX8_readAnswers.cls ≠ "java/lang/invoke/MethodHandle" ∧ yX8_readAnswers.cls ≠ "java/lang/invoke/VarHandle" ∧ (parseMethodDescriptor yX8_readAnswers.desc).map (fun d => d.parameters.length) = some 0 := by decide +kernel
theorem flX8_readAnswers_19 : Cond.fieldLink RX8 19 "BeforeTheEnd$Text" "at" "I" ∈ wsX8_readAnswers := by decide +kernel
theorem flX8_readAnswers_44 : Cond.fieldLink RX8 44 "BeforeTheEnd$Text" "knows" "I" ∈ wsX8_readAnswers := by decide +kernel
theorem flX8_readAnswers_47 : Cond.fieldLink RX8 47 "BeforeTheEnd$Text" "toldTwice" "Z" ∈ wsX8_readAnswers := by decide +kernel
theorem hinX8_readAnswers_X8 : ∀ w ∈ wsX80, w ∈ wsX8_readAnswers := fun _ h => List.mem_cons_of_mem _ (List.mem_append_right _ h)
def xX8_readAnswers_L12 (w0 : zM) (w1 : Int32) : Option ((zM × Int32) ⊕ (zM × Int32)) :=
  if (9 : Int32) ≤ w1 then
  (some (.inr (w0, w1)))
  else
  (xX8_here w0).bind fun q2 =>
  if q2 < (49 : Int32) then
  (some (.inr (w0, w1)))
  else
  (xX8_here w0).bind fun q4 =>
  if (57 : Int32) < q4 then
  (some (.inr (w0, w1)))
  else
  (xX8_here w0).bind fun q6 =>
  zlet ((1 : Int32) <<< ((q6 - (48 : Int32)) &&& 31)) fun z7 =>
  if ((w0.1 70 10) &&& z7) = 0 then
  (zlet (zsi w0 70 10 ((w0.1 70 10) ||| z7)) fun M10 =>
  zlet (zsi M10 70 2 ((M10.1 70 2) + (1 : Int32))) fun M12 =>
  some (.inl (M12, (w1 + (1 : Int32)))))
  else
  zlet (zsi w0 70 11 (1 : Int32)) fun M14 =>
  zlet (zsi M14 70 10 ((M14.1 70 10) ||| z7)) fun M16 =>
  zlet (zsi M16 70 2 ((M16.1 70 2) + (1 : Int32))) fun M18 =>
  some (.inl (M18, (w1 + (1 : Int32))))
set_option maxHeartbeats 4000000 in
set_option maxRecDepth 100000 in
theorem tX8_readAnswers_L12 {κ : Nat → ClassId} {tg : Nat} {S : zEn} {ad : Nat → Nat} {X : zX} {pT : zM} {pR : zM} {pF : zM} {pB : zM} {pP : zP} {w0 : zM} {w1 : Int32} {r : ((zM × Int32) ⊕ (zM × Int32))} (hC : zC X cX8_readAnswers RX8 wsX8_readAnswers vwCl (zty κ) (zE tg S) 3 ({ frames := 1, cells := 0, slots := 0, locals := 20 } : Room)) (hEk : zEk (zE tg S)) (hin : ∀ (x0' : zM) (x1' : Int32), r = .inl (x0', x1') → zV X 0 0 (zwC κ ad pT pR x0' pF pB pP) [(0, .ref (ad 70)), (1, .int x1')] [] 12) (hout0 : ∀ (x0' : zM) (x1' : Int32), r = .inr (x0', x1') → zV X 0 0 (zwC κ ad pT pR x0' pF pB pP) [(1, .int x1')] [] 86) (h : xX8_readAnswers_L12   w0 w1 = some r) : zV X 0 0 (zwC κ ad pT pR w0 pF pB pP) [(0, .ref (ad 70)), (1, .int w1)] [] 12 := by
  unfold xX8_readAnswers_L12 at h
  refine zr_iload_n (pc := 12) hC 1 rfl rfl dX8_readAnswers_12 ?_
  refine zr_bipush (pc := 13) hC zkb_9 dX8_readAnswers_13 ?_
  refine zr_icmp_ge (pc := 15) (tgt := 86) hC dX8_readAnswers_15 (by decide) (fun c1 => ?_) (fun c1 => ?_)
  · replace h := zip h c1
    obtain rfl := Option.some.inj h
    exact zV.sub (lv' := [(1, .int w1)]) [1] rfl (hout0 w0 w1 rfl)
  · replace h := zin h c1
    refine zr_aload_n (pc := 18) hC 0 rfl rfl dX8_readAnswers_18 ?_
    obtain ⟨q2, hq2, h⟩ := zbd h
    refine zr_cVi (pc := 19) hC hEk [] [] 70 0 (fun l D => tX8_here hEk hq2 l D) gX8_readAnswers_X8_here rfl rfl rfl ⟨Nat.le_of_ble_eq_true rfl, Nat.le_of_ble_eq_true rfl⟩ hyX8_here (zNC (by decide)) entC_70 rfl rfl rfl (Nat.le_of_ble_eq_true rfl) ⟨Nat.le_of_ble_eq_true rfl, Nat.le_of_ble_eq_true rfl⟩ dX8_readAnswers_19 ?_
    refine zr_bipush (pc := 22) hC zkb_49 dX8_readAnswers_22 ?_
    refine zr_icmp_lt (pc := 24) (tgt := 86) hC dX8_readAnswers_24 (by decide) (fun c3 => ?_) (fun c3 => ?_)
    · replace h := zip h c3
      obtain rfl := Option.some.inj h
      exact zV.sub (lv' := [(1, .int w1)]) [1] rfl (hout0 w0 w1 rfl)
    · replace h := zin h c3
      refine zr_aload_n (pc := 27) hC 0 rfl rfl dX8_readAnswers_27 ?_
      obtain ⟨q4, hq4, h⟩ := zbd h
      refine zr_cVi (pc := 28) hC hEk [] [] 70 0 (fun l D => tX8_here hEk hq4 l D) gX8_readAnswers_X8_here rfl rfl rfl ⟨Nat.le_of_ble_eq_true rfl, Nat.le_of_ble_eq_true rfl⟩ hyX8_here (zNC (by decide)) entC_70 rfl rfl rfl (Nat.le_of_ble_eq_true rfl) ⟨Nat.le_of_ble_eq_true rfl, Nat.le_of_ble_eq_true rfl⟩ dX8_readAnswers_28 ?_
      refine zr_bipush (pc := 31) hC zkb_57 dX8_readAnswers_31 ?_
      refine zr_icmp_gt (pc := 33) (tgt := 86) hC dX8_readAnswers_33 (by decide) (fun c5 => ?_) (fun c5 => ?_)
      · replace h := zip h c5
        obtain rfl := Option.some.inj h
        exact zV.sub (lv' := [(1, .int w1)]) [1] rfl (hout0 w0 w1 rfl)
      · replace h := zin h c5
        refine zr_iconst (pc := 36) hC zki_1 dX8_readAnswers_36 ?_
        refine zr_aload_n (pc := 37) hC 0 rfl rfl dX8_readAnswers_37 ?_
        obtain ⟨q6, hq6, h⟩ := zbd h
        refine zr_cVi (pc := 38) hC hEk [] [.int (1 : Int32)] 70 0 (fun l D => tX8_here hEk hq6 l D) gX8_readAnswers_X8_here rfl rfl rfl ⟨Nat.le_of_ble_eq_true rfl, Nat.le_of_ble_eq_true rfl⟩ hyX8_here (zNC (by decide)) entC_70 rfl rfl rfl (Nat.le_of_ble_eq_true rfl) ⟨Nat.le_of_ble_eq_true rfl, Nat.le_of_ble_eq_true rfl⟩ dX8_readAnswers_38 ?_
        refine zr_bipush (pc := 41) hC zkb_48 dX8_readAnswers_41 ?_
        refine zr_isub (pc := 43) hC dX8_readAnswers_43 ?_
        refine zr_ishl (pc := 44) hC dX8_readAnswers_44 ?_
        obtain ⟨z7, e8, h⟩ := zle h
        refine zr_topi e8 ?_
        refine zr_istore_n (pc := 45) (lv' := [(2, .int z7), (0, .ref (ad 70)), (1, .int w1)]) hC rfl (by decide) rfl dX8_readAnswers_45 ?_
        refine zr_aload_n (pc := 46) hC 1 rfl rfl dX8_readAnswers_46 ?_
        refine zcg_70_10 (pc := 47) hC hinX8_readAnswers_X8 flX8_readAnswers_44 dX8_readAnswers_47 ?_
        refine zr_iload_n (pc := 50) hC 0 rfl rfl dX8_readAnswers_50 ?_
        refine zr_iand (pc := 51) hC dX8_readAnswers_51 ?_
        refine zr_if_eq (pc := 52) (tgt := 60) hC dX8_readAnswers_52 (by decide) (fun c9 => ?_) (fun c9 => ?_)
        · replace h := zip h c9
          refine zr_aload_n (pc := 60) hC 1 rfl rfl dX8_readAnswers_60 ?_
          refine zr_dup (pc := 61) hC rfl dX8_readAnswers_61 ?_
          refine zcg_70_10 (pc := 62) hC hinX8_readAnswers_X8 flX8_readAnswers_44 dX8_readAnswers_62 ?_
          refine zr_iload_n (pc := 65) hC 0 rfl rfl dX8_readAnswers_65 ?_
          refine zr_ior (pc := 66) hC dX8_readAnswers_66 ?_
          obtain ⟨M10, e11, h⟩ := zle h
          refine zcp_70_10 (pc := 67) hC hinX8_readAnswers_X8 flX8_readAnswers_44 e11 dX8_readAnswers_67 ?_
          refine zr_iinc (pc := 70) (k := 2) (lv' := [(1, .int (w1 + (1 : Int32))), (2, .int z7), (0, .ref (ad 70))]) hC zki_1 (by decide) rfl rfl dX8_readAnswers_70 ?_
          refine zr_aload_n (pc := 73) hC 2 rfl rfl dX8_readAnswers_73 ?_
          refine zr_dup (pc := 74) hC rfl dX8_readAnswers_74 ?_
          refine zcg_70_2 (pc := 75) hC hinX8_readAnswers_X8 flX8_readAnswers_19 dX8_readAnswers_75 ?_
          refine zr_iconst (pc := 78) hC zki_1 dX8_readAnswers_78 ?_
          refine zr_iadd (pc := 79) hC dX8_readAnswers_79 ?_
          obtain ⟨M12, e13, h⟩ := zle h
          refine zcp_70_2 (pc := 80) hC hinX8_readAnswers_X8 flX8_readAnswers_19 e13 dX8_readAnswers_80 ?_
          refine zr_goto (pc := 83) (tgt := 12) hC dX8_readAnswers_83 (by decide) ?_
          obtain rfl := Option.some.inj h
          exact zV.sub (lv' := [(0, .ref (ad 70)), (1, .int (w1 + (1 : Int32)))]) [2, 0] rfl (hin M12 (w1 + (1 : Int32)) rfl)
        · replace h := zin h c9
          refine zr_aload_n (pc := 55) hC 1 rfl rfl dX8_readAnswers_55 ?_
          refine zr_iconst (pc := 56) hC zki_1 dX8_readAnswers_56 ?_
          obtain ⟨M14, e15, h⟩ := zle h
          refine zcp_70_11 (pc := 57) hC hinX8_readAnswers_X8 flX8_readAnswers_47 (by decide) e15 dX8_readAnswers_57 ?_
          refine zr_aload_n (pc := 60) hC 1 rfl rfl dX8_readAnswers_60 ?_
          refine zr_dup (pc := 61) hC rfl dX8_readAnswers_61 ?_
          refine zcg_70_10 (pc := 62) hC hinX8_readAnswers_X8 flX8_readAnswers_44 dX8_readAnswers_62 ?_
          refine zr_iload_n (pc := 65) hC 0 rfl rfl dX8_readAnswers_65 ?_
          refine zr_ior (pc := 66) hC dX8_readAnswers_66 ?_
          obtain ⟨M16, e17, h⟩ := zle h
          refine zcp_70_10 (pc := 67) hC hinX8_readAnswers_X8 flX8_readAnswers_44 e17 dX8_readAnswers_67 ?_
          refine zr_iinc (pc := 70) (k := 2) (lv' := [(1, .int (w1 + (1 : Int32))), (2, .int z7), (0, .ref (ad 70))]) hC zki_1 (by decide) rfl rfl dX8_readAnswers_70 ?_
          refine zr_aload_n (pc := 73) hC 2 rfl rfl dX8_readAnswers_73 ?_
          refine zr_dup (pc := 74) hC rfl dX8_readAnswers_74 ?_
          refine zcg_70_2 (pc := 75) hC hinX8_readAnswers_X8 flX8_readAnswers_19 dX8_readAnswers_75 ?_
          refine zr_iconst (pc := 78) hC zki_1 dX8_readAnswers_78 ?_
          refine zr_iadd (pc := 79) hC dX8_readAnswers_79 ?_
          obtain ⟨M18, e19, h⟩ := zle h
          refine zcp_70_2 (pc := 80) hC hinX8_readAnswers_X8 flX8_readAnswers_19 e19 dX8_readAnswers_80 ?_
          refine zr_goto (pc := 83) (tgt := 12) hC dX8_readAnswers_83 (by decide) ?_
          obtain rfl := Option.some.inj h
          exact zV.sub (lv' := [(0, .ref (ad 70)), (1, .int (w1 + (1 : Int32)))]) [2, 0] rfl (hin M18 (w1 + (1 : Int32)) rfl)
def xX8_readAnswers (pX : zM)  : Option (Int32 × zM) :=
  zlet (zsi pX 70 10 (0 : Int32)) fun M1 =>
  zlet (zsi M1 70 11 (0 : Int32)) fun M3 =>
  (x_it (fun a9 => xX8_readAnswers_L12 a9.1 a9.2) zFU (M3, (0 : Int32))).bind fun q5 =>
  if q5.2 ≤ 0 then
  (some ((0 : Int32), q5.1))
  else
  some ((1 : Int32), q5.1)
set_option maxHeartbeats 4000000 in
set_option maxRecDepth 100000 in
theorem tX8_readAnswers {κ : Nat → ClassId} {tg : Nat} {S : zEn} {ad : Nat → Nat} (hEk : zEk (zE tg S)) {pT : zM} {pR : zM} {pX : zM} {pF : zM} {pB : zM} {pP : zP}  {res : (Int32 × zM)} (h : xX8_readAnswers pX  = some res) (l : Launch) (D : va_G) : zCT (zE tg S) D vwCl (zty κ) l yX8_readAnswers wsX8_readAnswers ({ frames := 1, cells := 0, slots := 0, locals := 20 } : Room) 0 0 [.ref (ad 70)] (zwC κ ad pT pR pX pF pB pP) (zPd (some (.int res.1)) (zwC κ ad pT pR res.2 pF pB pP)) := by
  refine zCT.of (cc := cX8_readAnswers) (maxL := 3) (ret := (some .boolean)) (by decide) rfl (Nat.le_of_ble_eq_true rfl) ?_
  intro X hC hR
  unfold xX8_readAnswers at h
  refine zV.sub (lv' := [(0, .ref (ad 70))]) [0] rfl ?_
  refine zr_aload_n (pc := 0) hC 0 rfl rfl dX8_readAnswers_0 ?_
  refine zr_iconst (pc := 1) hC zki_0 dX8_readAnswers_1 ?_
  obtain ⟨M1, e2, h⟩ := zle h
  refine zcp_70_10 (pc := 2) hC hinX8_readAnswers_X8 flX8_readAnswers_44 e2 dX8_readAnswers_2 ?_
  refine zr_aload_n (pc := 5) hC 0 rfl rfl dX8_readAnswers_5 ?_
  refine zr_iconst (pc := 6) hC zki_0 dX8_readAnswers_6 ?_
  obtain ⟨M3, e4, h⟩ := zle h
  refine zcp_70_11 (pc := 7) hC hinX8_readAnswers_X8 flX8_readAnswers_47 (by decide) e4 dX8_readAnswers_7 ?_
  refine zr_iconst (pc := 10) hC zki_0 dX8_readAnswers_10 ?_
  refine zr_istore_n (pc := 11) (lv' := [(1, .int (0 : Int32)), (0, .ref (ad 70))]) hC rfl (by decide) rfl dX8_readAnswers_11 ?_
  obtain ⟨q5, hq5, h⟩ := zbd h
  refine zV.sub (lv' := [(0, .ref (ad 70)), (1, .int (0 : Int32))]) [1, 0] rfl ?_
  refine zit2 (Wp := fun (y0 : zM) (y1 : Int32) => zV X 0 0 (zwC κ ad pT pR y0 pF pB pP) [(0, .ref (ad 70)), (1, .int y1)] [] 12) (Ex := fun (b9 : (zM × Int32)) => zV X 0 0 (zwC κ ad pT pR b9.1 pF pB pP) [(1, .int b9.2)] [] 86) (fun y0 y1 r9 hr hin hout => tX8_readAnswers_L12 hC hEk hin (fun z0 z1 e9 => hout (z0, z1) e9) hr) zFU M3 (0 : Int32) q5 hq5 ?_
  show zV X 0 0 (zwC κ ad pT pR q5.1 pF pB pP) [(1, .int q5.2)] [] 86
  refine zr_iload_n (pc := 86) hC 0 rfl rfl dX8_readAnswers_86 ?_
  refine zr_if_le (pc := 87) (tgt := 94) hC dX8_readAnswers_87 (by decide) (fun c6 => ?_) (fun c6 => ?_)
  · replace h := zip h c6
    refine zr_iconst (pc := 94) hC zki_0 dX8_readAnswers_94 ?_
    obtain rfl := Option.some.inj h
    exact zr_zret hC hR (by decide) ⟨rfl, rfl⟩ (Nat.le_refl _) (Nat.le_refl _) dX8_readAnswers_95
  · replace h := zin h c6
    refine zr_iconst (pc := 90) hC zki_1 dX8_readAnswers_90 ?_
    refine zr_goto (pc := 91) (tgt := 95) hC dX8_readAnswers_91 (by decide) ?_
    obtain rfl := Option.some.inj h
    exact zr_zret hC hR (by decide) ⟨rfl, rfl⟩ (Nat.le_refl _) (Nat.le_refl _) dX8_readAnswers_95
/-! X8_readPlayer -/
theorem hyX8_readPlayer : yX8_readPlayer.cls = RX8 ∧ yX8_readPlayer.cls ≠ "java/lang/invoke/MethodHandle" ∧ yX8_readPlayer.cls ≠ "java/lang/invoke/VarHandle" ∧ (parseMethodDescriptor yX8_readPlayer.desc).map (fun d => d.parameters.length) = some 0 := by decide +kernel
theorem flX8_readPlayer_35 : Cond.fieldLink RX8 35 "BeforeTheEnd$Text" "kind" "I" ∈ wsX8_readPlayer := by decide +kernel
theorem flX8_readPlayer_38 : Cond.fieldLink RX8 38 "BeforeTheEnd$Text" "hand" "I" ∈ wsX8_readPlayer := by decide +kernel
theorem flX8_readPlayer_41 : Cond.fieldLink RX8 41 "BeforeTheEnd$Text" "sure" "I" ∈ wsX8_readPlayer := by decide +kernel
theorem hinX8_readPlayer_X8 : ∀ w ∈ wsX80, w ∈ wsX8_readPlayer := fun _ h => List.mem_cons_of_mem _ (List.mem_append_right _ h)
def xX8_readPlayer (pX : zM)  : Option (Int32 × zM) :=
  (xX8_readKind pX).bind fun q1 =>
  zlet (zsi q1.2 70 7 q1.1) fun M2 =>
  if 0 ≤ (M2.1 70 7) then
  ((xX8_readNumber M2 (1 : Int32)).bind fun q5 =>
  zlet (zsi q5.2 70 8 q5.1) fun M6 =>
  if 0 ≤ (M6.1 70 8) then
  ((xX8_readNumber M6 (3 : Int32)).bind fun q9 =>
  zlet (zsi q9.2 70 9 q9.1) fun M10 =>
  if (M10.1 70 9) < 0 then
  (some ((0 : Int32), M10))
  else
  (xX8_accepts M10 (58 : Int32)).bind fun q13 =>
  if q13.1 = 0 then
  (some ((0 : Int32), q13.2))
  else
  (xX8_readAnswers q13.2).bind fun q15 =>
  if q15.1 = 0 then
  (some ((0 : Int32), q15.2))
  else
  (xX8_accepts q15.2 (59 : Int32)).bind fun q17 =>
  if q17.1 = 0 then
  (some ((0 : Int32), q17.2))
  else
  some ((1 : Int32), q17.2))
  else
  some ((0 : Int32), M6))
  else
  some ((0 : Int32), M2)
set_option maxHeartbeats 4000000 in
set_option maxRecDepth 100000 in
theorem tX8_readPlayer {κ : Nat → ClassId} {tg : Nat} {adK adV : Nat → Nat} {ad : Nat → Nat} (hEk : zEk (zE tg (zS adK adV))) {pT : zM} {pR : zM} {pX : zM} {pF : zM} {pB : zM} {pP : zP}  {res : (Int32 × zM)} (h : xX8_readPlayer pX  = some res) (l : Launch) (D : va_G) : zCT (zE tg (zS adK adV)) D vwCl (zty κ) l yX8_readPlayer wsX8_readPlayer ({ frames := 5, cells := 0, slots := 0, locals := 113 } : Room) 0 0 [.ref (ad 70)] (zwC κ ad pT pR pX pF pB pP) (zPd (some (.int res.1)) (zwC κ ad pT pR res.2 pF pB pP)) := by
  refine zCT.of (cc := cX8_readPlayer) (maxL := 1) (ret := (some .boolean)) (by decide) rfl (Nat.le_of_ble_eq_true rfl) ?_
  intro X hC hR
  unfold xX8_readPlayer at h
  refine zV.sub (lv' := [(0, .ref (ad 70))]) [0] rfl ?_
  refine zr_aload_n (pc := 0) hC 0 rfl rfl dX8_readPlayer_0 ?_
  refine zr_aload_n (pc := 1) hC 0 rfl rfl dX8_readPlayer_1 ?_
  obtain ⟨q1, hq1, h⟩ := zbd h
  refine zr_cVi (pc := 2) hC hEk [] [.ref (ad 70)] 70 0 (fun l D => tX8_readKind hEk hq1 l D) gX8_readPlayer_X8_readKind rfl rfl rfl ⟨Nat.le_of_ble_eq_true rfl, Nat.le_of_ble_eq_true rfl⟩ hyX8_readKind (zNC (by decide)) entC_70 rfl rfl rfl (Nat.le_of_ble_eq_true rfl) ⟨Nat.le_of_ble_eq_true rfl, Nat.le_of_ble_eq_true rfl⟩ dX8_readPlayer_2 ?_
  obtain ⟨M2, e3, h⟩ := zle h
  refine zcp_70_7 (pc := 5) hC hinX8_readPlayer_X8 flX8_readPlayer_35 e3 dX8_readPlayer_5 ?_
  refine zr_aload_n (pc := 8) hC 0 rfl rfl dX8_readPlayer_8 ?_
  refine zcg_70_7 (pc := 9) hC hinX8_readPlayer_X8 flX8_readPlayer_35 dX8_readPlayer_9 ?_
  refine zr_if_ge (pc := 12) (tgt := 17) hC dX8_readPlayer_12 (by decide) (fun c4 => ?_) (fun c4 => ?_)
  · replace h := zip h c4
    refine zr_aload_n (pc := 17) hC 0 rfl rfl dX8_readPlayer_17 ?_
    refine zr_aload_n (pc := 18) hC 0 rfl rfl dX8_readPlayer_18 ?_
    refine zr_iconst (pc := 19) hC zki_1 dX8_readPlayer_19 ?_
    obtain ⟨q5, hq5, h⟩ := zbd h
    refine zr_cVi (pc := 20) hC hEk [.int (1 : Int32)] [.ref (ad 70)] 70 1 (fun l D => tX8_readNumber hEk hq5 l D) gX8_readPlayer_X8_readNumber rfl rfl rfl ⟨Nat.le_of_ble_eq_true rfl, Nat.le_of_ble_eq_true rfl⟩ hyX8_readNumber (zNC (by decide)) entC_70 rfl rfl rfl (Nat.le_of_ble_eq_true rfl) ⟨Nat.le_of_ble_eq_true rfl, Nat.le_of_ble_eq_true rfl⟩ dX8_readPlayer_20 ?_
    obtain ⟨M6, e7, h⟩ := zle h
    refine zcp_70_8 (pc := 23) hC hinX8_readPlayer_X8 flX8_readPlayer_38 e7 dX8_readPlayer_23 ?_
    refine zr_aload_n (pc := 26) hC 0 rfl rfl dX8_readPlayer_26 ?_
    refine zcg_70_8 (pc := 27) hC hinX8_readPlayer_X8 flX8_readPlayer_38 dX8_readPlayer_27 ?_
    refine zr_if_ge (pc := 30) (tgt := 35) hC dX8_readPlayer_30 (by decide) (fun c8 => ?_) (fun c8 => ?_)
    · replace h := zip h c8
      refine zr_aload_n (pc := 35) hC 0 rfl rfl dX8_readPlayer_35 ?_
      refine zr_aload_n (pc := 36) hC 0 rfl rfl dX8_readPlayer_36 ?_
      refine zr_iconst (pc := 37) hC zki_3 dX8_readPlayer_37 ?_
      obtain ⟨q9, hq9, h⟩ := zbd h
      refine zr_cVi (pc := 38) hC hEk [.int (3 : Int32)] [.ref (ad 70)] 70 1 (fun l D => tX8_readNumber hEk hq9 l D) gX8_readPlayer_X8_readNumber rfl rfl rfl ⟨Nat.le_of_ble_eq_true rfl, Nat.le_of_ble_eq_true rfl⟩ hyX8_readNumber (zNC (by decide)) entC_70 rfl rfl rfl (Nat.le_of_ble_eq_true rfl) ⟨Nat.le_of_ble_eq_true rfl, Nat.le_of_ble_eq_true rfl⟩ dX8_readPlayer_38 ?_
      obtain ⟨M10, e11, h⟩ := zle h
      refine zcp_70_9 (pc := 41) hC hinX8_readPlayer_X8 flX8_readPlayer_41 e11 dX8_readPlayer_41 ?_
      refine zr_aload_n (pc := 44) hC 0 rfl rfl dX8_readPlayer_44 ?_
      refine zcg_70_9 (pc := 45) hC hinX8_readPlayer_X8 flX8_readPlayer_41 dX8_readPlayer_45 ?_
      refine zr_if_lt (pc := 48) (tgt := 80) hC dX8_readPlayer_48 (by decide) (fun c12 => ?_) (fun c12 => ?_)
      · replace h := zip h c12
        refine zr_iconst (pc := 80) hC zki_0 dX8_readPlayer_80 ?_
        obtain rfl := Option.some.inj h
        exact zr_zret hC hR (by decide) ⟨rfl, rfl⟩ (Nat.le_refl _) (Nat.le_refl _) dX8_readPlayer_81
      · replace h := zin h c12
        refine zr_aload_n (pc := 51) hC 0 rfl rfl dX8_readPlayer_51 ?_
        refine zr_bipush (pc := 52) hC zkb_58 dX8_readPlayer_52 ?_
        obtain ⟨q13, hq13, h⟩ := zbd h
        refine zr_cVi (pc := 54) hC hEk [.int (58 : Int32)] [] 70 1 (fun l D => tX8_accepts hEk hq13 l D) gX8_readPlayer_X8_accepts rfl rfl rfl ⟨Nat.le_of_ble_eq_true rfl, Nat.le_of_ble_eq_true rfl⟩ hyX8_accepts (zNC (by decide)) entC_70 rfl rfl rfl (Nat.le_of_ble_eq_true rfl) ⟨Nat.le_of_ble_eq_true rfl, Nat.le_of_ble_eq_true rfl⟩ dX8_readPlayer_54 ?_
        refine zr_if_eq (pc := 57) (tgt := 80) hC dX8_readPlayer_57 (by decide) (fun c14 => ?_) (fun c14 => ?_)
        · replace h := zip h c14
          refine zr_iconst (pc := 80) hC zki_0 dX8_readPlayer_80 ?_
          obtain rfl := Option.some.inj h
          exact zr_zret hC hR (by decide) ⟨rfl, rfl⟩ (Nat.le_refl _) (Nat.le_refl _) dX8_readPlayer_81
        · replace h := zin h c14
          refine zr_aload_n (pc := 60) hC 0 rfl rfl dX8_readPlayer_60 ?_
          obtain ⟨q15, hq15, h⟩ := zbd h
          refine zr_cVi (pc := 61) hC hEk [] [] 70 0 (fun l D => tX8_readAnswers hEk hq15 l D) gX8_readPlayer_X8_readAnswers rfl rfl rfl ⟨Nat.le_of_ble_eq_true rfl, Nat.le_of_ble_eq_true rfl⟩ hyX8_readAnswers (zNC (by decide)) entC_70 rfl rfl rfl (Nat.le_of_ble_eq_true rfl) ⟨Nat.le_of_ble_eq_true rfl, Nat.le_of_ble_eq_true rfl⟩ dX8_readPlayer_61 ?_
          refine zr_if_eq (pc := 64) (tgt := 80) hC dX8_readPlayer_64 (by decide) (fun c16 => ?_) (fun c16 => ?_)
          · replace h := zip h c16
            refine zr_iconst (pc := 80) hC zki_0 dX8_readPlayer_80 ?_
            obtain rfl := Option.some.inj h
            exact zr_zret hC hR (by decide) ⟨rfl, rfl⟩ (Nat.le_refl _) (Nat.le_refl _) dX8_readPlayer_81
          · replace h := zin h c16
            refine zr_aload_n (pc := 67) hC 0 rfl rfl dX8_readPlayer_67 ?_
            refine zr_bipush (pc := 68) hC zkb_59 dX8_readPlayer_68 ?_
            obtain ⟨q17, hq17, h⟩ := zbd h
            refine zr_cVi (pc := 70) hC hEk [.int (59 : Int32)] [] 70 1 (fun l D => tX8_accepts hEk hq17 l D) gX8_readPlayer_X8_accepts rfl rfl rfl ⟨Nat.le_of_ble_eq_true rfl, Nat.le_of_ble_eq_true rfl⟩ hyX8_accepts (zNC (by decide)) entC_70 rfl rfl rfl (Nat.le_of_ble_eq_true rfl) ⟨Nat.le_of_ble_eq_true rfl, Nat.le_of_ble_eq_true rfl⟩ dX8_readPlayer_70 ?_
            refine zr_if_eq (pc := 73) (tgt := 80) hC dX8_readPlayer_73 (by decide) (fun c18 => ?_) (fun c18 => ?_)
            · replace h := zip h c18
              refine zr_iconst (pc := 80) hC zki_0 dX8_readPlayer_80 ?_
              obtain rfl := Option.some.inj h
              exact zr_zret hC hR (by decide) ⟨rfl, rfl⟩ (Nat.le_refl _) (Nat.le_refl _) dX8_readPlayer_81
            · replace h := zin h c18
              refine zr_iconst (pc := 76) hC zki_1 dX8_readPlayer_76 ?_
              refine zr_goto (pc := 77) (tgt := 81) hC dX8_readPlayer_77 (by decide) ?_
              obtain rfl := Option.some.inj h
              exact zr_zret hC hR (by decide) ⟨rfl, rfl⟩ (Nat.le_refl _) (Nat.le_refl _) dX8_readPlayer_81
    · replace h := zin h c8
      refine zr_iconst (pc := 33) hC zki_0 dX8_readPlayer_33 ?_
      obtain rfl := Option.some.inj h
      exact zr_zret hC hR (by decide) ⟨rfl, rfl⟩ (Nat.le_refl _) (Nat.le_refl _) dX8_readPlayer_34
  · replace h := zin h c4
    refine zr_iconst (pc := 15) hC zki_0 dX8_readPlayer_15 ?_
    obtain rfl := Option.some.inj h
    exact zr_zret hC hR (by decide) ⟨rfl, rfl⟩ (Nat.le_refl _) (Nat.le_refl _) dX8_readPlayer_16
/-! X8_readStatement -/
theorem hyX8_readStatement : yX8_readStatement.cls = RX8 ∧ yX8_readStatement.cls ≠ "java/lang/invoke/MethodHandle" ∧ yX8_readStatement.cls ≠ "java/lang/invoke/VarHandle" ∧ (parseMethodDescriptor yX8_readStatement.desc).map (fun d => d.parameters.length) = some 0 := by decide +kernel
theorem flX8_readStatement_22 : Cond.fieldLink RX8 22 "BeforeTheEnd$Text" "ofWord" "Z" ∈ wsX8_readStatement := by decide +kernel
theorem hinX8_readStatement_X8 : ∀ w ∈ wsX80, w ∈ wsX8_readStatement := fun _ h => List.mem_cons_of_mem _ (List.mem_append_right _ h)
def xX8_readStatement (pX : zM)  : Option (Int32 × zM) :=
  (xX8_accepts pX (119 : Int32)).bind fun q1 =>
  if q1.1 = 0 then
  (zlet (zsi q1.2 70 3 (0 : Int32)) fun M3 =>
  (xX8_accepts M3 (112 : Int32)).bind fun q5 =>
  if q5.1 = 0 then
  (some ((0 : Int32), q5.2))
  else
  (xX8_readPlayer q5.2).bind fun q7 =>
  if q7.1 = 0 then
  (some ((0 : Int32), q7.2))
  else
  some ((1 : Int32), q7.2))
  else
  zlet (zsi q1.2 70 3 (1 : Int32)) fun M9 =>
  (xX8_readWord M9).bind fun q11 =>
  if ¬ (q11.1 = 0 ∨ q11.1 = 1) then none else
  some (q11.1, q11.2)
set_option maxHeartbeats 4000000 in
set_option maxRecDepth 100000 in
theorem tX8_readStatement {κ : Nat → ClassId} {tg : Nat} {adK adV : Nat → Nat} {ad : Nat → Nat} (hEk : zEk (zE tg (zS adK adV))) {pT : zM} {pR : zM} {pX : zM} {pF : zM} {pB : zM} {pP : zP}  {res : (Int32 × zM)} (h : xX8_readStatement pX  = some res) (l : Launch) (D : va_G) : zCT (zE tg (zS adK adV)) D vwCl (zty κ) l yX8_readStatement wsX8_readStatement ({ frames := 6, cells := 0, slots := 0, locals := 133 } : Room) 0 0 [.ref (ad 70)] (zwC κ ad pT pR pX pF pB pP) (zPd (some (.int res.1)) (zwC κ ad pT pR res.2 pF pB pP)) := by
  refine zCT.of (cc := cX8_readStatement) (maxL := 1) (ret := (some .boolean)) (by decide) rfl (Nat.le_of_ble_eq_true rfl) ?_
  intro X hC hR
  unfold xX8_readStatement at h
  refine zV.sub (lv' := [(0, .ref (ad 70))]) [0] rfl ?_
  refine zr_aload_n (pc := 0) hC 0 rfl rfl dX8_readStatement_0 ?_
  refine zr_bipush (pc := 1) hC zkb_119 dX8_readStatement_1 ?_
  obtain ⟨q1, hq1, h⟩ := zbd h
  refine zr_cVi (pc := 3) hC hEk [.int (119 : Int32)] [] 70 1 (fun l D => tX8_accepts hEk hq1 l D) gX8_readStatement_X8_accepts rfl rfl rfl ⟨Nat.le_of_ble_eq_true rfl, Nat.le_of_ble_eq_true rfl⟩ hyX8_accepts (zNC (by decide)) entC_70 rfl rfl rfl (Nat.le_of_ble_eq_true rfl) ⟨Nat.le_of_ble_eq_true rfl, Nat.le_of_ble_eq_true rfl⟩ dX8_readStatement_3 ?_
  refine zr_if_eq (pc := 6) (tgt := 19) hC dX8_readStatement_6 (by decide) (fun c2 => ?_) (fun c2 => ?_)
  · replace h := zip h c2
    refine zr_aload_n (pc := 19) hC 0 rfl rfl dX8_readStatement_19 ?_
    refine zr_iconst (pc := 20) hC zki_0 dX8_readStatement_20 ?_
    obtain ⟨M3, e4, h⟩ := zle h
    refine zcp_70_3 (pc := 21) hC hinX8_readStatement_X8 flX8_readStatement_22 (by decide) e4 dX8_readStatement_21 ?_
    refine zr_aload_n (pc := 24) hC 0 rfl rfl dX8_readStatement_24 ?_
    refine zr_bipush (pc := 25) hC zkb_112 dX8_readStatement_25 ?_
    obtain ⟨q5, hq5, h⟩ := zbd h
    refine zr_cVi (pc := 27) hC hEk [.int (112 : Int32)] [] 70 1 (fun l D => tX8_accepts hEk hq5 l D) gX8_readStatement_X8_accepts rfl rfl rfl ⟨Nat.le_of_ble_eq_true rfl, Nat.le_of_ble_eq_true rfl⟩ hyX8_accepts (zNC (by decide)) entC_70 rfl rfl rfl (Nat.le_of_ble_eq_true rfl) ⟨Nat.le_of_ble_eq_true rfl, Nat.le_of_ble_eq_true rfl⟩ dX8_readStatement_27 ?_
    refine zr_if_eq (pc := 30) (tgt := 44) hC dX8_readStatement_30 (by decide) (fun c6 => ?_) (fun c6 => ?_)
    · replace h := zip h c6
      refine zr_iconst (pc := 44) hC zki_0 dX8_readStatement_44 ?_
      obtain rfl := Option.some.inj h
      exact zr_zret hC hR (by decide) ⟨rfl, rfl⟩ (Nat.le_refl _) (Nat.le_refl _) dX8_readStatement_45
    · replace h := zin h c6
      refine zr_aload_n (pc := 33) hC 0 rfl rfl dX8_readStatement_33 ?_
      obtain ⟨q7, hq7, h⟩ := zbd h
      refine zr_cVi (pc := 34) hC hEk [] [] 70 0 (fun l D => tX8_readPlayer hEk hq7 l D) gX8_readStatement_X8_readPlayer rfl rfl rfl ⟨Nat.le_of_ble_eq_true rfl, Nat.le_of_ble_eq_true rfl⟩ hyX8_readPlayer (zNC (by decide)) entC_70 rfl rfl rfl (Nat.le_of_ble_eq_true rfl) ⟨Nat.le_of_ble_eq_true rfl, Nat.le_of_ble_eq_true rfl⟩ dX8_readStatement_34 ?_
      refine zr_if_eq (pc := 37) (tgt := 44) hC dX8_readStatement_37 (by decide) (fun c8 => ?_) (fun c8 => ?_)
      · replace h := zip h c8
        refine zr_iconst (pc := 44) hC zki_0 dX8_readStatement_44 ?_
        obtain rfl := Option.some.inj h
        exact zr_zret hC hR (by decide) ⟨rfl, rfl⟩ (Nat.le_refl _) (Nat.le_refl _) dX8_readStatement_45
      · replace h := zin h c8
        refine zr_iconst (pc := 40) hC zki_1 dX8_readStatement_40 ?_
        refine zr_goto (pc := 41) (tgt := 45) hC dX8_readStatement_41 (by decide) ?_
        obtain rfl := Option.some.inj h
        exact zr_zret hC hR (by decide) ⟨rfl, rfl⟩ (Nat.le_refl _) (Nat.le_refl _) dX8_readStatement_45
  · replace h := zin h c2
    refine zr_aload_n (pc := 9) hC 0 rfl rfl dX8_readStatement_9 ?_
    refine zr_iconst (pc := 10) hC zki_1 dX8_readStatement_10 ?_
    obtain ⟨M9, e10, h⟩ := zle h
    refine zcp_70_3 (pc := 11) hC hinX8_readStatement_X8 flX8_readStatement_22 (by decide) e10 dX8_readStatement_11 ?_
    refine zr_aload_n (pc := 14) hC 0 rfl rfl dX8_readStatement_14 ?_
    obtain ⟨q11, hq11, h⟩ := zbd h
    refine zr_cVi (pc := 15) hC hEk [] [] 70 0 (fun l D => tX8_readWord hEk hq11 l D) gX8_readStatement_X8_readWord rfl rfl rfl ⟨Nat.le_of_ble_eq_true rfl, Nat.le_of_ble_eq_true rfl⟩ hyX8_readWord (zNC (by decide)) entC_70 rfl rfl rfl (Nat.le_of_ble_eq_true rfl) ⟨Nat.le_of_ble_eq_true rfl, Nat.le_of_ble_eq_true rfl⟩ dX8_readStatement_15 ?_
    obtain ⟨n12, h⟩ := zgd h
    obtain rfl := Option.some.inj h
    exact zr_zret hC hR (Decidable.not_not.mp n12) ⟨rfl, rfl⟩ (Nat.le_refl _) (Nat.le_refl _) dX8_readStatement_18
/-! X8_firstBadByte -/
theorem hyX8_firstBadByte : yX8_firstBadByte.cls = RX8 ∧ yX8_firstBadByte.cls ≠ "java/lang/invoke/MethodHandle" ∧ yX8_firstBadByte.cls ≠ "java/lang/invoke/VarHandle" ∧ (parseMethodDescriptor yX8_firstBadByte.desc).map (fun d => d.parameters.length) = some 0 := by decide +kernel
theorem flX8_firstBadByte_15 : Cond.fieldLink RX8 15 "BeforeTheEnd$Text" "count" "I" ∈ wsX8_firstBadByte := by decide +kernel
theorem flX8_firstBadByte_19 : Cond.fieldLink RX8 19 "BeforeTheEnd$Text" "at" "I" ∈ wsX8_firstBadByte := by decide +kernel
theorem hinX8_firstBadByte_X8 : ∀ w ∈ wsX80, w ∈ wsX8_firstBadByte := fun _ h => List.mem_cons_of_mem _ (List.mem_append_right _ h)
def xX8_firstBadByte_L7 (w0 : zM) (w1 : Int32) : Option ((zM × Int32) ⊕ (zM ⊕ zM)) :=
  if (64 : Int32) ≤ w1 then
  (some (.inr (.inr w0)))
  else
  if w1 = 0 then
  ((xX8_readStatement w0).bind fun q3 =>
  if q3.1 = 0 then
  (some (.inr (.inl q3.2)))
  else
  some (.inl (q3.2, (w1 + (1 : Int32)))))
  else
  if (w0.1 70 1) ≤ (w0.1 70 2) then
  (some (.inr (.inr w0)))
  else
  (xX8_readStatement w0).bind fun q6 =>
  if q6.1 = 0 then
  (some (.inr (.inl q6.2)))
  else
  some (.inl (q6.2, (w1 + (1 : Int32))))
set_option maxHeartbeats 4000000 in
set_option maxRecDepth 100000 in
theorem tX8_firstBadByte_L7 {κ : Nat → ClassId} {tg : Nat} {adK adV : Nat → Nat} {ad : Nat → Nat} {X : zX} {pT : zM} {pR : zM} {pF : zM} {pB : zM} {pP : zP} {w0 : zM} {w1 : Int32} {r : ((zM × Int32) ⊕ (zM ⊕ zM))} (hC : zC X cX8_firstBadByte RX8 wsX8_firstBadByte vwCl (zty κ) (zE tg (zS adK adV)) 2 ({ frames := 7, cells := 0, slots := 0, locals := 153 } : Room)) (hEk : zEk (zE tg (zS adK adV))) (hin : ∀ (x0' : zM) (x1' : Int32), r = .inl (x0', x1') → zV X 0 0 (zwC κ ad pT pR x0' pF pB pP) [(0, .ref (ad 70)), (1, .int x1')] [] 7) (hout0 : ∀ (x0' : zM), r = .inr (.inl x0') → zV X 0 0 (zwC κ ad pT pR x0' pF pB pP) [(0, .ref (ad 70))] [] 35) (hout1 : ∀ (x0' : zM), r = .inr (.inr x0') → zV X 0 0 (zwC κ ad pT pR x0' pF pB pP) [] [] 46) (h : xX8_firstBadByte_L7   w0 w1 = some r) : zV X 0 0 (zwC κ ad pT pR w0 pF pB pP) [(0, .ref (ad 70)), (1, .int w1)] [] 7 := by
  unfold xX8_firstBadByte_L7 at h
  refine zr_iload_n (pc := 7) hC 1 rfl rfl dX8_firstBadByte_7 ?_
  refine zr_bipush (pc := 8) hC zkb_64 dX8_firstBadByte_8 ?_
  refine zr_icmp_ge (pc := 10) (tgt := 46) hC dX8_firstBadByte_10 (by decide) (fun c1 => ?_) (fun c1 => ?_)
  · replace h := zip h c1
    obtain rfl := Option.some.inj h
    exact zV.sub (lv' := []) [] rfl (hout1 w0 rfl)
  · replace h := zin h c1
    refine zr_iload_n (pc := 13) hC 1 rfl rfl dX8_firstBadByte_13 ?_
    refine zr_if_eq (pc := 14) (tgt := 28) hC dX8_firstBadByte_14 (by decide) (fun c2 => ?_) (fun c2 => ?_)
    · replace h := zip h c2
      refine zr_aload_n (pc := 28) hC 0 rfl rfl dX8_firstBadByte_28 ?_
      obtain ⟨q3, hq3, h⟩ := zbd h
      refine zr_cVi (pc := 29) hC hEk [] [] 70 0 (fun l D => tX8_readStatement hEk hq3 l D) gX8_firstBadByte_X8_readStatement rfl rfl rfl ⟨Nat.le_of_ble_eq_true rfl, Nat.le_of_ble_eq_true rfl⟩ hyX8_readStatement (zNC (by decide)) entC_70 rfl rfl rfl (Nat.le_of_ble_eq_true rfl) ⟨Nat.le_of_ble_eq_true rfl, Nat.le_of_ble_eq_true rfl⟩ dX8_firstBadByte_29 ?_
      refine zr_if_ne (pc := 32) (tgt := 40) hC dX8_firstBadByte_32 (by decide) (fun c4 => ?_) (fun c4 => ?_)
      · replace h := zin h c4
        refine zr_iinc (pc := 40) (k := 1) (lv' := [(1, .int (w1 + (1 : Int32))), (0, .ref (ad 70))]) hC zki_1 (by decide) rfl rfl dX8_firstBadByte_40 ?_
        refine zr_goto (pc := 43) (tgt := 7) hC dX8_firstBadByte_43 (by decide) ?_
        obtain rfl := Option.some.inj h
        exact zV.sub (lv' := [(0, .ref (ad 70)), (1, .int (w1 + (1 : Int32)))]) [1, 0] rfl (hin q3.2 (w1 + (1 : Int32)) rfl)
      · replace h := zip h c4
        obtain rfl := Option.some.inj h
        exact zV.sub (lv' := [(0, .ref (ad 70))]) [0] rfl (hout0 q3.2 rfl)
    · replace h := zin h c2
      refine zr_aload_n (pc := 17) hC 0 rfl rfl dX8_firstBadByte_17 ?_
      refine zcg_70_2 (pc := 18) hC hinX8_firstBadByte_X8 flX8_firstBadByte_19 dX8_firstBadByte_18 ?_
      refine zr_aload_n (pc := 21) hC 0 rfl rfl dX8_firstBadByte_21 ?_
      refine zcg_70_1 (pc := 22) hC hinX8_firstBadByte_X8 flX8_firstBadByte_15 dX8_firstBadByte_22 ?_
      refine zr_icmp_ge (pc := 25) (tgt := 46) hC dX8_firstBadByte_25 (by decide) (fun c5 => ?_) (fun c5 => ?_)
      · replace h := zip h c5
        obtain rfl := Option.some.inj h
        exact zV.sub (lv' := []) [] rfl (hout1 w0 rfl)
      · replace h := zin h c5
        refine zr_aload_n (pc := 28) hC 0 rfl rfl dX8_firstBadByte_28 ?_
        obtain ⟨q6, hq6, h⟩ := zbd h
        refine zr_cVi (pc := 29) hC hEk [] [] 70 0 (fun l D => tX8_readStatement hEk hq6 l D) gX8_firstBadByte_X8_readStatement rfl rfl rfl ⟨Nat.le_of_ble_eq_true rfl, Nat.le_of_ble_eq_true rfl⟩ hyX8_readStatement (zNC (by decide)) entC_70 rfl rfl rfl (Nat.le_of_ble_eq_true rfl) ⟨Nat.le_of_ble_eq_true rfl, Nat.le_of_ble_eq_true rfl⟩ dX8_firstBadByte_29 ?_
        refine zr_if_ne (pc := 32) (tgt := 40) hC dX8_firstBadByte_32 (by decide) (fun c7 => ?_) (fun c7 => ?_)
        · replace h := zin h c7
          refine zr_iinc (pc := 40) (k := 1) (lv' := [(1, .int (w1 + (1 : Int32))), (0, .ref (ad 70))]) hC zki_1 (by decide) rfl rfl dX8_firstBadByte_40 ?_
          refine zr_goto (pc := 43) (tgt := 7) hC dX8_firstBadByte_43 (by decide) ?_
          obtain rfl := Option.some.inj h
          exact zV.sub (lv' := [(0, .ref (ad 70)), (1, .int (w1 + (1 : Int32)))]) [1, 0] rfl (hin q6.2 (w1 + (1 : Int32)) rfl)
        · replace h := zip h c7
          obtain rfl := Option.some.inj h
          exact zV.sub (lv' := [(0, .ref (ad 70))]) [0] rfl (hout0 q6.2 rfl)
def xX8_firstBadByte (pX : zM)  : Option (Int32 × zM) :=
  zlet (zsi pX 70 2 (0 : Int32)) fun M1 =>
  (x_it (fun a9 => xX8_firstBadByte_L7 a9.1 a9.2) zFU (M1, (0 : Int32))).bind fun q3 =>
  Sum.elim (fun b4 => some ((b4.1 70 2), b4)) (fun c5 => some ((-1 : Int32), c5)) q3
set_option maxHeartbeats 4000000 in
set_option maxRecDepth 100000 in
theorem tX8_firstBadByte {κ : Nat → ClassId} {tg : Nat} {adK adV : Nat → Nat} {ad : Nat → Nat} (hEk : zEk (zE tg (zS adK adV))) {pT : zM} {pR : zM} {pX : zM} {pF : zM} {pB : zM} {pP : zP}  {res : (Int32 × zM)} (h : xX8_firstBadByte pX  = some res) (l : Launch) (D : va_G) : zCT (zE tg (zS adK adV)) D vwCl (zty κ) l yX8_firstBadByte wsX8_firstBadByte ({ frames := 7, cells := 0, slots := 0, locals := 153 } : Room) 0 0 [.ref (ad 70)] (zwC κ ad pT pR pX pF pB pP) (zPd (some (.int res.1)) (zwC κ ad pT pR res.2 pF pB pP)) := by
  refine zCT.of (cc := cX8_firstBadByte) (maxL := 2) (ret := (some .int)) (by decide) rfl (Nat.le_of_ble_eq_true rfl) ?_
  intro X hC hR
  unfold xX8_firstBadByte at h
  refine zV.sub (lv' := [(0, .ref (ad 70))]) [0] rfl ?_
  refine zr_aload_n (pc := 0) hC 0 rfl rfl dX8_firstBadByte_0 ?_
  refine zr_iconst (pc := 1) hC zki_0 dX8_firstBadByte_1 ?_
  obtain ⟨M1, e2, h⟩ := zle h
  refine zcp_70_2 (pc := 2) hC hinX8_firstBadByte_X8 flX8_firstBadByte_19 e2 dX8_firstBadByte_2 ?_
  refine zr_iconst (pc := 5) hC zki_0 dX8_firstBadByte_5 ?_
  refine zr_istore_n (pc := 6) (lv' := [(1, .int (0 : Int32)), (0, .ref (ad 70))]) hC rfl (by decide) rfl dX8_firstBadByte_6 ?_
  obtain ⟨q3, hq3, h⟩ := zbd h
  refine zV.sub (lv' := [(0, .ref (ad 70)), (1, .int (0 : Int32))]) [1, 0] rfl ?_
  refine zit2 (Wp := fun (y0 : zM) (y1 : Int32) => zV X 0 0 (zwC κ ad pT pR y0 pF pB pP) [(0, .ref (ad 70)), (1, .int y1)] [] 7) (Ex := fun (b9 : (zM ⊕ zM)) => Sum.elim (fun (b0 : zM) => zV X 0 0 (zwC κ ad pT pR b0 pF pB pP) [(0, .ref (ad 70))] [] 35) (fun (c0 : zM) => zV X 0 0 (zwC κ ad pT pR c0 pF pB pP) [] [] 46) b9) (fun y0 y1 r9 hr hin hout => tX8_firstBadByte_L7 hC hEk hin (fun z0 e9 => hout (.inl z0) e9) (fun z0 e9 => hout (.inr z0) e9) hr) zFU M1 (0 : Int32) q3 hq3 ?_
  rcases q3 with b4 | c5
  · replace h := zel h
    show zV X 0 0 (zwC κ ad pT pR b4 pF pB pP) [(0, .ref (ad 70))] [] 35
    refine zr_aload_n (pc := 35) hC 0 rfl rfl dX8_firstBadByte_35 ?_
    refine zcg_70_2 (pc := 36) hC hinX8_firstBadByte_X8 flX8_firstBadByte_19 dX8_firstBadByte_36 ?_
    obtain rfl := Option.some.inj h
    exact zr_iret hC hR ⟨rfl, rfl⟩ (Nat.le_refl _) (Nat.le_refl _) dX8_firstBadByte_39
  · replace h := zer h
    show zV X 0 0 (zwC κ ad pT pR c5 pF pB pP) [] [] 46
    refine zr_iconst (pc := 46) hC zki_m1 dX8_firstBadByte_46 ?_
    obtain rfl := Option.some.inj h
    exact zr_iret hC hR ⟨rfl, rfl⟩ (Nat.le_refl _) (Nat.le_refl _) dX8_firstBadByte_47
/-! X10_size -/
theorem hyX10_size : yX10_size.cls = RX10 ∧ yX10_size.cls ≠ "java/lang/invoke/MethodHandle" ∧ yX10_size.cls ≠ "java/lang/invoke/VarHandle" ∧ (parseMethodDescriptor yX10_size.desc).map (fun d => d.parameters.length) = some 0 := by decide +kernel
theorem flX10_size_54 : Cond.fieldLink RX10 54 "BeforeTheEnd$Tree" "count" "I" ∈ wsX10_size := by decide +kernel
theorem hinX10_size_X10 : ∀ w ∈ wsX100, w ∈ wsX10_size := fun _ h => List.mem_cons_of_mem _ (List.mem_append_right _ h)
def xX10_size (pT : zM)  : Option Int32 :=
  some (pT.1 0 13)
set_option maxHeartbeats 4000000 in
set_option maxRecDepth 100000 in
theorem tX10_size {κ : Nat → ClassId} {tg : Nat} {S : zEn} {ad : Nat → Nat} (hEk : zEk (zE tg S)) {pT : zM} {pR : zM} {pX : zM} {pF : zM} {pB : zM} {pP : zP}  {res : Int32} (h : xX10_size pT  = some res) (l : Launch) (D : va_G) : zCT (zE tg S) D vwCl (zty κ) l yX10_size wsX10_size ({ frames := 0, cells := 0, slots := 0, locals := 0 } : Room) 0 0 [.ref (ad 0)] (zwC κ ad pT pR pX pF pB pP) (zPd (some (.int res)) (zwC κ ad pT pR pX pF pB pP)) := by
  refine zCT.of (cc := cX10_size) (maxL := 1) (ret := (some .int)) (by decide) rfl (Nat.le_of_ble_eq_true rfl) ?_
  intro X hC hR
  unfold xX10_size at h
  refine zV.sub (lv' := [(0, .ref (ad 0))]) [0] rfl ?_
  refine zr_aload_n (pc := 0) hC 0 rfl rfl dX10_size_0 ?_
  refine zcg_0_13 (pc := 1) hC hinX10_size_X10 flX10_size_54 dX10_size_1 ?_
  obtain rfl := Option.some.inj h
  exact zr_iret hC hR ⟨rfl, rfl⟩ (Nat.le_refl _) (Nat.le_refl _) dX10_size_4
/-! X10_append -/
theorem hyX10_append : yX10_append.cls = RX10 ∧ yX10_append.cls ≠ "java/lang/invoke/MethodHandle" ∧ yX10_append.cls ≠ "java/lang/invoke/VarHandle" ∧ (parseMethodDescriptor yX10_append.desc).map (fun d => d.parameters.length) = some 3 := by decide +kernel
theorem flX10_append_15 : Cond.fieldLink RX10 15 "BeforeTheEnd$Tree" "weight" "[I" ∈ wsX10_append := by decide +kernel
theorem flX10_append_18 : Cond.fieldLink RX10 18 "BeforeTheEnd$Tree" "answer" "[I" ∈ wsX10_append := by decide +kernel
theorem flX10_append_54 : Cond.fieldLink RX10 54 "BeforeTheEnd$Tree" "count" "I" ∈ wsX10_append := by decide +kernel
theorem flX10_append_9 : Cond.fieldLink RX10 9 "BeforeTheEnd$Tree" "parent" "[I" ∈ wsX10_append := by decide +kernel
theorem hinX10_append_X10 : ∀ w ∈ wsX100, w ∈ wsX10_append := fun _ h => List.mem_cons_of_mem _ (List.mem_append_right _ h)
def xX10_append (pT : zM) (v1 : Int32) (v2 : Int32) (v3 : Int32) : Option (Int32 × zM) :=
  if (pT.1 0 13) < (1 : Int32) then
  (some ((0 : Int32), pT))
  else
  if (24 : Int32) ≤ (pT.1 0 13) then
  (some ((0 : Int32), pT))
  else
  (xX10_has pT v1).bind fun q3 =>
  if q3 = 0 then
  (some ((0 : Int32), pT))
  else
  (xX10_isEnd pT v1).bind fun q5 =>
  if q5 = 0 then
  (if v2 < (1 : Int32) then
  (some ((0 : Int32), pT))
  else
  if (9 : Int32) < v2 then
  (some ((0 : Int32), pT))
  else
  if v3 < 0 then
  (some ((0 : Int32), pT))
  else
  if v3 ≤ (9 : Int32) then
  (if ((pT.1 0 13) < 0 ∨ 24 ≤ (pT.1 0 13).toNatClampNeg) then none else
  zlet (zsi pT 1 (pT.1 0 13).toNatClampNeg v1) fun M12 =>
  if ((M12.1 0 13) < 0 ∨ 24 ≤ (M12.1 0 13).toNatClampNeg) then none else
  zlet (zsi M12 2 (M12.1 0 13).toNatClampNeg v2) fun M15 =>
  if ((M15.1 0 13) < 0 ∨ 24 ≤ (M15.1 0 13).toNatClampNeg) then none else
  zlet (zsi M15 3 (M15.1 0 13).toNatClampNeg v3) fun M18 =>
  zlet (zsi M18 0 13 ((M18.1 0 13) + (1 : Int32))) fun M20 =>
  some ((1 : Int32), M20))
  else
  some ((0 : Int32), pT))
  else
  some ((0 : Int32), pT)
set_option maxHeartbeats 4000000 in
set_option maxRecDepth 100000 in
theorem tX10_append {κ : Nat → ClassId} {tg : Nat} {S : zEn} {ad : Nat → Nat} (hEk : zEk (zE tg S)) {pT : zM} {pR : zM} {pX : zM} {pF : zM} {pB : zM} {pP : zP} {v1 : Int32} {v2 : Int32} {v3 : Int32} {res : (Int32 × zM)} (h : xX10_append pT v1 v2 v3 = some res) (l : Launch) (D : va_G) : zCT (zE tg S) D vwCl (zty κ) l yX10_append wsX10_append ({ frames := 2, cells := 0, slots := 0, locals := 42 } : Room) 0 0 [.ref (ad 0), .int v1, .int v2, .int v3] (zwC κ ad pT pR pX pF pB pP) (zPd (some (.int res.1)) (zwC κ ad res.2 pR pX pF pB pP)) := by
  refine zCT.of (cc := cX10_append) (maxL := 4) (ret := (some .boolean)) (by decide) rfl (Nat.le_of_ble_eq_true rfl) ?_
  intro X hC hR
  unfold xX10_append at h
  refine zV.sub (lv' := [(0, .ref (ad 0)), (1, .int v1), (2, .int v2), (3, .int v3)]) [0, 1, 2, 3] rfl ?_
  refine zr_aload_n (pc := 0) hC 0 rfl rfl dX10_append_0 ?_
  refine zcg_0_13 (pc := 1) hC hinX10_append_X10 flX10_append_54 dX10_append_1 ?_
  refine zr_iconst (pc := 4) hC zki_1 dX10_append_4 ?_
  refine zr_icmp_lt (pc := 5) (tgt := 33) hC dX10_append_5 (by decide) (fun c1 => ?_) (fun c1 => ?_)
  · replace h := zip h c1
    refine zr_iconst (pc := 33) hC zki_0 dX10_append_33 ?_
    obtain rfl := Option.some.inj h
    exact zr_zret hC hR (by decide) ⟨rfl, rfl⟩ (Nat.le_refl _) (Nat.le_refl _) dX10_append_34
  · replace h := zin h c1
    refine zr_aload_n (pc := 8) hC 0 rfl rfl dX10_append_8 ?_
    refine zcg_0_13 (pc := 9) hC hinX10_append_X10 flX10_append_54 dX10_append_9 ?_
    refine zr_bipush (pc := 12) hC zkb_24 dX10_append_12 ?_
    refine zr_icmp_ge (pc := 14) (tgt := 33) hC dX10_append_14 (by decide) (fun c2 => ?_) (fun c2 => ?_)
    · replace h := zip h c2
      refine zr_iconst (pc := 33) hC zki_0 dX10_append_33 ?_
      obtain rfl := Option.some.inj h
      exact zr_zret hC hR (by decide) ⟨rfl, rfl⟩ (Nat.le_refl _) (Nat.le_refl _) dX10_append_34
    · replace h := zin h c2
      refine zr_aload_n (pc := 17) hC 0 rfl rfl dX10_append_17 ?_
      refine zr_iload_n (pc := 18) hC 1 rfl rfl dX10_append_18 ?_
      obtain ⟨q3, hq3, h⟩ := zbd h
      refine zr_cVi (pc := 19) hC hEk [.int v1] [] 0 1 (fun l D => tX10_has hEk hq3 l D) gX10_append_X10_has rfl rfl rfl ⟨Nat.le_of_ble_eq_true rfl, Nat.le_of_ble_eq_true rfl⟩ hyX10_has (zNC (by decide)) entC_0 rfl rfl rfl (Nat.le_of_ble_eq_true rfl) ⟨Nat.le_of_ble_eq_true rfl, Nat.le_of_ble_eq_true rfl⟩ dX10_append_19 ?_
      refine zr_if_eq (pc := 22) (tgt := 33) hC dX10_append_22 (by decide) (fun c4 => ?_) (fun c4 => ?_)
      · replace h := zip h c4
        refine zr_iconst (pc := 33) hC zki_0 dX10_append_33 ?_
        obtain rfl := Option.some.inj h
        exact zr_zret hC hR (by decide) ⟨rfl, rfl⟩ (Nat.le_refl _) (Nat.le_refl _) dX10_append_34
      · replace h := zin h c4
        refine zr_aload_n (pc := 25) hC 0 rfl rfl dX10_append_25 ?_
        refine zr_iload_n (pc := 26) hC 1 rfl rfl dX10_append_26 ?_
        obtain ⟨q5, hq5, h⟩ := zbd h
        refine zr_cVi (pc := 27) hC hEk [.int v1] [] 0 1 (fun l D => tX10_isEnd hEk hq5 l D) gX10_append_X10_isEnd rfl rfl rfl ⟨Nat.le_of_ble_eq_true rfl, Nat.le_of_ble_eq_true rfl⟩ hyX10_isEnd (zNC (by decide)) entC_0 rfl rfl rfl (Nat.le_of_ble_eq_true rfl) ⟨Nat.le_of_ble_eq_true rfl, Nat.le_of_ble_eq_true rfl⟩ dX10_append_27 ?_
        refine zr_if_eq (pc := 30) (tgt := 35) hC dX10_append_30 (by decide) (fun c6 => ?_) (fun c6 => ?_)
        · replace h := zip h c6
          refine zr_iload_n (pc := 35) hC 2 rfl rfl dX10_append_35 ?_
          refine zr_iconst (pc := 36) hC zki_1 dX10_append_36 ?_
          refine zr_icmp_lt (pc := 37) (tgt := 56) hC dX10_append_37 (by decide) (fun c7 => ?_) (fun c7 => ?_)
          · replace h := zip h c7
            refine zr_iconst (pc := 56) hC zki_0 dX10_append_56 ?_
            obtain rfl := Option.some.inj h
            exact zr_zret hC hR (by decide) ⟨rfl, rfl⟩ (Nat.le_refl _) (Nat.le_refl _) dX10_append_57
          · replace h := zin h c7
            refine zr_iload_n (pc := 40) hC 2 rfl rfl dX10_append_40 ?_
            refine zr_bipush (pc := 41) hC zkb_9 dX10_append_41 ?_
            refine zr_icmp_gt (pc := 43) (tgt := 56) hC dX10_append_43 (by decide) (fun c8 => ?_) (fun c8 => ?_)
            · replace h := zip h c8
              refine zr_iconst (pc := 56) hC zki_0 dX10_append_56 ?_
              obtain rfl := Option.some.inj h
              exact zr_zret hC hR (by decide) ⟨rfl, rfl⟩ (Nat.le_refl _) (Nat.le_refl _) dX10_append_57
            · replace h := zin h c8
              refine zr_iload_n (pc := 46) hC 3 rfl rfl dX10_append_46 ?_
              refine zr_if_lt (pc := 47) (tgt := 56) hC dX10_append_47 (by decide) (fun c9 => ?_) (fun c9 => ?_)
              · replace h := zip h c9
                refine zr_iconst (pc := 56) hC zki_0 dX10_append_56 ?_
                obtain rfl := Option.some.inj h
                exact zr_zret hC hR (by decide) ⟨rfl, rfl⟩ (Nat.le_refl _) (Nat.le_refl _) dX10_append_57
              · replace h := zin h c9
                refine zr_iload_n (pc := 50) hC 3 rfl rfl dX10_append_50 ?_
                refine zr_bipush (pc := 51) hC zkb_9 dX10_append_51 ?_
                refine zr_icmp_le (pc := 53) (tgt := 58) hC dX10_append_53 (by decide) (fun c10 => ?_) (fun c10 => ?_)
                · replace h := zip h c10
                  refine zr_aload_n (pc := 58) hC 0 rfl rfl dX10_append_58 ?_
                  refine zcg_0_0 (pc := 59) hC hinX10_append_X10 flX10_append_9 dX10_append_59 ?_
                  refine zr_aload_n (pc := 62) hC 0 rfl rfl dX10_append_62 ?_
                  refine zcg_0_13 (pc := 63) hC hinX10_append_X10 flX10_append_54 dX10_append_63 ?_
                  refine zr_iload_n (pc := 66) hC 1 rfl rfl dX10_append_66 ?_
                  obtain ⟨i11, h⟩ := zgd h
                  obtain ⟨M12, e13, h⟩ := zle h
                  refine zcs_1 (pc := 67) hC i11 e13 dX10_append_67 ?_
                  refine zr_aload_n (pc := 68) hC 0 rfl rfl dX10_append_68 ?_
                  refine zcg_0_1 (pc := 69) hC hinX10_append_X10 flX10_append_15 dX10_append_69 ?_
                  refine zr_aload_n (pc := 72) hC 0 rfl rfl dX10_append_72 ?_
                  refine zcg_0_13 (pc := 73) hC hinX10_append_X10 flX10_append_54 dX10_append_73 ?_
                  refine zr_iload_n (pc := 76) hC 2 rfl rfl dX10_append_76 ?_
                  obtain ⟨i14, h⟩ := zgd h
                  obtain ⟨M15, e16, h⟩ := zle h
                  refine zcs_2 (pc := 77) hC i14 e16 dX10_append_77 ?_
                  refine zr_aload_n (pc := 78) hC 0 rfl rfl dX10_append_78 ?_
                  refine zcg_0_2 (pc := 79) hC hinX10_append_X10 flX10_append_18 dX10_append_79 ?_
                  refine zr_aload_n (pc := 82) hC 0 rfl rfl dX10_append_82 ?_
                  refine zcg_0_13 (pc := 83) hC hinX10_append_X10 flX10_append_54 dX10_append_83 ?_
                  refine zr_iload_n (pc := 86) hC 3 rfl rfl dX10_append_86 ?_
                  obtain ⟨i17, h⟩ := zgd h
                  obtain ⟨M18, e19, h⟩ := zle h
                  refine zcs_3 (pc := 87) hC i17 e19 dX10_append_87 ?_
                  refine zr_aload_n (pc := 88) hC 0 rfl rfl dX10_append_88 ?_
                  refine zr_dup (pc := 89) hC rfl dX10_append_89 ?_
                  refine zcg_0_13 (pc := 90) hC hinX10_append_X10 flX10_append_54 dX10_append_90 ?_
                  refine zr_iconst (pc := 93) hC zki_1 dX10_append_93 ?_
                  refine zr_iadd (pc := 94) hC dX10_append_94 ?_
                  obtain ⟨M20, e21, h⟩ := zle h
                  refine zcp_0_13 (pc := 95) hC hinX10_append_X10 flX10_append_54 e21 dX10_append_95 ?_
                  refine zr_iconst (pc := 98) hC zki_1 dX10_append_98 ?_
                  obtain rfl := Option.some.inj h
                  exact zr_zret hC hR (by decide) ⟨rfl, rfl⟩ (Nat.le_refl _) (Nat.le_refl _) dX10_append_99
                · replace h := zin h c10
                  refine zr_iconst (pc := 56) hC zki_0 dX10_append_56 ?_
                  obtain rfl := Option.some.inj h
                  exact zr_zret hC hR (by decide) ⟨rfl, rfl⟩ (Nat.le_refl _) (Nat.le_refl _) dX10_append_57
        · replace h := zin h c6
          refine zr_iconst (pc := 33) hC zki_0 dX10_append_33 ?_
          obtain rfl := Option.some.inj h
          exact zr_zret hC hR (by decide) ⟨rfl, rfl⟩ (Nat.le_refl _) (Nat.le_refl _) dX10_append_34
/-! X8_takeStatement -/
theorem hyX8_takeStatement : yX8_takeStatement.cls = RX8 ∧ yX8_takeStatement.cls ≠ "java/lang/invoke/MethodHandle" ∧ yX8_takeStatement.cls ≠ "java/lang/invoke/VarHandle" ∧ (parseMethodDescriptor yX8_takeStatement.desc).map (fun d => d.parameters.length) = some 2 := by decide +kernel
theorem flX8_takeStatement_22 : Cond.fieldLink RX8 22 "BeforeTheEnd$Text" "ofWord" "Z" ∈ wsX8_takeStatement := by decide +kernel
theorem flX8_takeStatement_26 : Cond.fieldLink RX8 26 "BeforeTheEnd$Text" "parent" "I" ∈ wsX8_takeStatement := by decide +kernel
theorem flX8_takeStatement_29 : Cond.fieldLink RX8 29 "BeforeTheEnd$Text" "weight" "I" ∈ wsX8_takeStatement := by decide +kernel
theorem flX8_takeStatement_32 : Cond.fieldLink RX8 32 "BeforeTheEnd$Text" "answer" "I" ∈ wsX8_takeStatement := by decide +kernel
theorem flX8_takeStatement_35 : Cond.fieldLink RX8 35 "BeforeTheEnd$Text" "kind" "I" ∈ wsX8_takeStatement := by decide +kernel
theorem flX8_takeStatement_38 : Cond.fieldLink RX8 38 "BeforeTheEnd$Text" "hand" "I" ∈ wsX8_takeStatement := by decide +kernel
theorem flX8_takeStatement_41 : Cond.fieldLink RX8 41 "BeforeTheEnd$Text" "sure" "I" ∈ wsX8_takeStatement := by decide +kernel
theorem flX8_takeStatement_44 : Cond.fieldLink RX8 44 "BeforeTheEnd$Text" "knows" "I" ∈ wsX8_takeStatement := by decide +kernel
theorem flX8_takeStatement_47 : Cond.fieldLink RX8 47 "BeforeTheEnd$Text" "toldTwice" "Z" ∈ wsX8_takeStatement := by decide +kernel
theorem hinX8_takeStatement_X8 : ∀ w ∈ wsX80, w ∈ wsX8_takeStatement := fun _ h => List.mem_cons_of_mem _ (List.mem_append_left _ (List.mem_append_left _ (List.mem_append_left _ (List.mem_append_left _ (List.mem_append_left _ (List.mem_append_left _ (List.mem_append_left _ (List.mem_append_left _ (List.mem_append_right _ h)))))))))
theorem hinX8_takeStatement_X10 : ∀ w ∈ wsX100, w ∈ wsX8_takeStatement := fun _ h => List.mem_cons_of_mem _ (List.mem_append_left _ (List.mem_append_left _ (List.mem_append_left _ (List.mem_append_left _ (List.mem_append_left _ (List.mem_append_left _ (List.mem_append_left _ (List.mem_append_right _ h))))))))
theorem hinX8_takeStatement_X6 : ∀ w ∈ wsX60, w ∈ wsX8_takeStatement := fun _ h => List.mem_cons_of_mem _ (List.mem_append_left _ (List.mem_append_left _ (List.mem_append_left _ (List.mem_append_left _ (List.mem_append_left _ (List.mem_append_left _ (List.mem_append_right _ h)))))))
theorem hinX8_takeStatement_X2 : ∀ w ∈ wsX20, w ∈ wsX8_takeStatement := fun _ h => List.mem_cons_of_mem _ (List.mem_append_left _ (List.mem_append_left _ (List.mem_append_left _ (List.mem_append_left _ (List.mem_append_left _ (List.mem_append_right _ h))))))
theorem hinX8_takeStatement_X7 : ∀ w ∈ wsX70, w ∈ wsX8_takeStatement := fun _ h => List.mem_cons_of_mem _ (List.mem_append_left _ (List.mem_append_left _ (List.mem_append_left _ (List.mem_append_left _ (List.mem_append_right _ h)))))
theorem hinX8_takeStatement_X1 : ∀ w ∈ wsX10, w ∈ wsX8_takeStatement := fun _ h => List.mem_cons_of_mem _ (List.mem_append_left _ (List.mem_append_left _ (List.mem_append_left _ (List.mem_append_right _ h))))
theorem hinX8_takeStatement_X4 : ∀ w ∈ wsX40, w ∈ wsX8_takeStatement := fun _ h => List.mem_cons_of_mem _ (List.mem_append_left _ (List.mem_append_left _ (List.mem_append_right _ h)))
theorem hinX8_takeStatement_X9 : ∀ w ∈ wsX90, w ∈ wsX8_takeStatement := fun _ h => List.mem_cons_of_mem _ (List.mem_append_left _ (List.mem_append_right _ h))
theorem hinX8_takeStatement_X0 : ∀ w ∈ wsX00, w ∈ wsX8_takeStatement := fun _ h => List.mem_cons_of_mem _ (List.mem_append_right _ h)
noncomputable def xX8_takeStatement (pT : zM) (pR : zM) (pX : zM) (pP : zP)  : Option (Int32 × zM × zM × zP) :=
  if (pX.1 70 3) = 0 then
  (if (pX.1 70 11) = 0 then
  ((xX6_append pR pP (pX.1 70 7) (pX.1 70 8) (pX.1 70 9) (pX.1 70 10)).bind fun q3 =>
  if q3.1 = 0 then
  (some ((0 : Int32), pT, q3.2.1, q3.2.2))
  else
  some ((1 : Int32), pT, q3.2.1, q3.2.2))
  else
  some ((0 : Int32), pT, pR, pP))
  else
  (xX10_append pT (pX.1 70 4) (pX.1 70 5) (pX.1 70 6)).bind fun q5 =>
  if ¬ (q5.1 = 0 ∨ q5.1 = 1) then none else
  some (q5.1, q5.2, pR, pP)
set_option maxHeartbeats 4000000 in
set_option maxRecDepth 100000 in
theorem tX8_takeStatement {κ : Nat → ClassId} {tg : Nat} {S : zEn} {ad : Nat → Nat} (hEk : zEk (zE tg S)) {pT : zM} {pR : zM} {pX : zM} {pF : zM} {pB : zM} {pP : zP}  {res : (Int32 × zM × zM × zP)} (h : xX8_takeStatement pT pR pX pP  = some res) (l : Launch) (D : va_G) : zCT (zE tg S) D vwCl (zty κ) l yX8_takeStatement wsX8_takeStatement ({ frames := 6, cells := 1, slots := 4, locals := 137 } : Room) 1 4 [.ref (ad 70), .ref (ad 0), .ref (ad 62)] (zwC κ ad pT pR pX pF pB pP) (fun rv w => ∃ ad', (∀ j, j < 81 + pP.2.2.2 → ad' j = ad j) ∧ rv = some (.int res.1) ∧ w = (zwC κ ad' res.2.1 res.2.2.1 pX pF pB res.2.2.2)) := by
  refine zCT.of (cc := cX8_takeStatement) (maxL := 3) (ret := (some .boolean)) (by decide) rfl (Nat.le_of_ble_eq_true rfl) ?_
  intro X hC hR
  unfold xX8_takeStatement at h
  refine zV.sub (lv' := [(0, .ref (ad 70)), (1, .ref (ad 0)), (2, .ref (ad 62))]) [0, 1, 2] rfl ?_
  refine zr_aload_n (pc := 0) hC 0 rfl rfl dX8_takeStatement_0 ?_
  refine zcg_70_3 (pc := 1) hC hinX8_takeStatement_X8 flX8_takeStatement_22 dX8_takeStatement_1 ?_
  refine zr_if_eq (pc := 4) (tgt := 24) hC dX8_takeStatement_4 (by decide) (fun c1 => ?_) (fun c1 => ?_)
  · replace h := zip h c1
    refine zr_aload_n (pc := 24) hC 0 rfl rfl dX8_takeStatement_24 ?_
    refine zcg_70_11 (pc := 25) hC hinX8_takeStatement_X8 flX8_takeStatement_47 dX8_takeStatement_25 ?_
    refine zr_if_ne (pc := 28) (tgt := 58) hC dX8_takeStatement_28 (by decide) (fun c2 => ?_) (fun c2 => ?_)
    · replace h := zin h c2
      refine zr_iconst (pc := 58) hC zki_0 dX8_takeStatement_58 ?_
      obtain rfl := Option.some.inj h
      exact zr_zret hC hR (by decide) ⟨ad, fun _ _ => rfl, rfl, rfl⟩ (Nat.le_of_ble_eq_true rfl) (Nat.le_of_ble_eq_true rfl) dX8_takeStatement_59
    · replace h := zip h c2
      refine zr_aload_n (pc := 31) hC 2 rfl rfl dX8_takeStatement_31 ?_
      refine zr_aload_n (pc := 32) hC 0 rfl rfl dX8_takeStatement_32 ?_
      refine zcg_70_7 (pc := 33) hC hinX8_takeStatement_X8 flX8_takeStatement_35 dX8_takeStatement_33 ?_
      refine zr_aload_n (pc := 36) hC 0 rfl rfl dX8_takeStatement_36 ?_
      refine zcg_70_8 (pc := 37) hC hinX8_takeStatement_X8 flX8_takeStatement_38 dX8_takeStatement_37 ?_
      refine zr_aload_n (pc := 40) hC 0 rfl rfl dX8_takeStatement_40 ?_
      refine zcg_70_9 (pc := 41) hC hinX8_takeStatement_X8 flX8_takeStatement_41 dX8_takeStatement_41 ?_
      refine zr_aload_n (pc := 44) hC 0 rfl rfl dX8_takeStatement_44 ?_
      refine zcg_70_10 (pc := 45) hC hinX8_takeStatement_X8 flX8_takeStatement_44 dX8_takeStatement_45 ?_
      obtain ⟨q3, hq3, h⟩ := zbd h
      refine zr_callV (pc := 48) hC hEk [.int (pX.1 70 7), .int (pX.1 70 8), .int (pX.1 70 9), .int (pX.1 70 10)] [] 62 4 (fun l D => tX6_append hEk hq3 l D) gX8_takeStatement_X6_append rfl rfl rfl ⟨Nat.le_of_ble_eq_true rfl, Nat.le_of_ble_eq_true rfl⟩ hyX6_append (zNC (by decide)) entC_62 rfl rfl rfl (Nat.le_of_ble_eq_true rfl) ⟨Nat.le_of_ble_eq_true rfl, Nat.le_of_ble_eq_true rfl⟩ dX8_takeStatement_48 (fun rv w1 hpo => ?_)
      obtain ⟨ad2, hag, rfl, rfl⟩ := hpo
      rw [← hag 0 (zNC (by decide))]
      rw [← hag 62 (zNC (by decide))]
      rw [← hag 70 (zNC (by decide))]
      show zV X 1 4 (zwC κ ad2 pT q3.2.1 pX pF pB q3.2.2) [(0, .ref (ad2 70)), (1, .ref (ad2 0)), (2, .ref (ad2 62))] [.int q3.1] 51
      refine zr_if_eq (pc := 51) (tgt := 58) hC dX8_takeStatement_51 (by decide) (fun c4 => ?_) (fun c4 => ?_)
      · replace h := zip h c4
        refine zr_iconst (pc := 58) hC zki_0 dX8_takeStatement_58 ?_
        obtain rfl := Option.some.inj h
        exact zr_zret hC hR (by decide) ⟨ad2, hag, rfl, rfl⟩ (Nat.le_of_ble_eq_true rfl) (Nat.le_of_ble_eq_true rfl) dX8_takeStatement_59
      · replace h := zin h c4
        refine zr_iconst (pc := 54) hC zki_1 dX8_takeStatement_54 ?_
        refine zr_goto (pc := 55) (tgt := 59) hC dX8_takeStatement_55 (by decide) ?_
        obtain rfl := Option.some.inj h
        exact zr_zret hC hR (by decide) ⟨ad2, hag, rfl, rfl⟩ (Nat.le_of_ble_eq_true rfl) (Nat.le_of_ble_eq_true rfl) dX8_takeStatement_59
  · replace h := zin h c1
    refine zr_aload_n (pc := 7) hC 1 rfl rfl dX8_takeStatement_7 ?_
    refine zr_aload_n (pc := 8) hC 0 rfl rfl dX8_takeStatement_8 ?_
    refine zcg_70_4 (pc := 9) hC hinX8_takeStatement_X8 flX8_takeStatement_26 dX8_takeStatement_9 ?_
    refine zr_aload_n (pc := 12) hC 0 rfl rfl dX8_takeStatement_12 ?_
    refine zcg_70_5 (pc := 13) hC hinX8_takeStatement_X8 flX8_takeStatement_29 dX8_takeStatement_13 ?_
    refine zr_aload_n (pc := 16) hC 0 rfl rfl dX8_takeStatement_16 ?_
    refine zcg_70_6 (pc := 17) hC hinX8_takeStatement_X8 flX8_takeStatement_32 dX8_takeStatement_17 ?_
    obtain ⟨q5, hq5, h⟩ := zbd h
    refine zr_cVi (pc := 20) hC hEk [.int (pX.1 70 4), .int (pX.1 70 5), .int (pX.1 70 6)] [] 0 3 (fun l D => tX10_append hEk hq5 l D) gX8_takeStatement_X10_append rfl rfl rfl ⟨Nat.le_of_ble_eq_true rfl, Nat.le_of_ble_eq_true rfl⟩ hyX10_append (zNC (by decide)) entC_0 rfl rfl rfl (Nat.le_of_ble_eq_true rfl) ⟨Nat.le_of_ble_eq_true rfl, Nat.le_of_ble_eq_true rfl⟩ dX8_takeStatement_20 ?_
    obtain ⟨n6, h⟩ := zgd h
    obtain rfl := Option.some.inj h
    exact zr_zret hC hR (Decidable.not_not.mp n6) ⟨ad, fun _ _ => rfl, rfl, rfl⟩ (Nat.le_of_ble_eq_true rfl) (Nat.le_of_ble_eq_true rfl) dX8_takeStatement_23
/-! X10_cutBack -/
theorem hyX10_cutBack : yX10_cutBack.cls = RX10 ∧ yX10_cutBack.cls ≠ "java/lang/invoke/MethodHandle" ∧ yX10_cutBack.cls ≠ "java/lang/invoke/VarHandle" ∧ (parseMethodDescriptor yX10_cutBack.desc).map (fun d => d.parameters.length) = some 1 := by decide +kernel
theorem flX10_cutBack_54 : Cond.fieldLink RX10 54 "BeforeTheEnd$Tree" "count" "I" ∈ wsX10_cutBack := by decide +kernel
theorem hinX10_cutBack_X10 : ∀ w ∈ wsX100, w ∈ wsX10_cutBack := fun _ h => List.mem_cons_of_mem _ (List.mem_append_right _ h)
def xX10_cutBack (pT : zM) (v1 : Int32) : Option zM :=
  if v1 < (1 : Int32) then
  (some pT)
  else
  if (pT.1 0 13) ≤ v1 then
  (some pT)
  else
  zlet (zsi pT 0 13 v1) fun M3 =>
  some M3
set_option maxHeartbeats 4000000 in
set_option maxRecDepth 100000 in
theorem tX10_cutBack {κ : Nat → ClassId} {tg : Nat} {S : zEn} {ad : Nat → Nat} (hEk : zEk (zE tg S)) {pT : zM} {pR : zM} {pX : zM} {pF : zM} {pB : zM} {pP : zP} {v1 : Int32} {res : zM} (h : xX10_cutBack pT v1 = some res) (l : Launch) (D : va_G) : zCT (zE tg S) D vwCl (zty κ) l yX10_cutBack wsX10_cutBack ({ frames := 0, cells := 0, slots := 0, locals := 0 } : Room) 0 0 [.ref (ad 0), .int v1] (zwC κ ad pT pR pX pF pB pP) (zPd none (zwC κ ad res pR pX pF pB pP)) := by
  refine zCT.of (cc := cX10_cutBack) (maxL := 2) (ret := none) (by decide) rfl (Nat.le_of_ble_eq_true rfl) ?_
  intro X hC hR
  unfold xX10_cutBack at h
  refine zV.sub (lv' := [(0, .ref (ad 0)), (1, .int v1)]) [0, 1] rfl ?_
  refine zr_iload_n (pc := 0) hC 1 rfl rfl dX10_cutBack_0 ?_
  refine zr_iconst (pc := 1) hC zki_1 dX10_cutBack_1 ?_
  refine zr_icmp_lt (pc := 2) (tgt := 18) hC dX10_cutBack_2 (by decide) (fun c1 => ?_) (fun c1 => ?_)
  · replace h := zip h c1
    obtain rfl := Option.some.inj h
    exact zr_vret hC hR ⟨rfl, rfl⟩ (Nat.le_refl _) (Nat.le_refl _) dX10_cutBack_18
  · replace h := zin h c1
    refine zr_iload_n (pc := 5) hC 1 rfl rfl dX10_cutBack_5 ?_
    refine zr_aload_n (pc := 6) hC 0 rfl rfl dX10_cutBack_6 ?_
    refine zcg_0_13 (pc := 7) hC hinX10_cutBack_X10 flX10_cutBack_54 dX10_cutBack_7 ?_
    refine zr_icmp_ge (pc := 10) (tgt := 18) hC dX10_cutBack_10 (by decide) (fun c2 => ?_) (fun c2 => ?_)
    · replace h := zip h c2
      obtain rfl := Option.some.inj h
      exact zr_vret hC hR ⟨rfl, rfl⟩ (Nat.le_refl _) (Nat.le_refl _) dX10_cutBack_18
    · replace h := zin h c2
      refine zr_aload_n (pc := 13) hC 0 rfl rfl dX10_cutBack_13 ?_
      refine zr_iload_n (pc := 14) hC 1 rfl rfl dX10_cutBack_14 ?_
      obtain ⟨M3, e4, h⟩ := zle h
      refine zcp_0_13 (pc := 15) hC hinX10_cutBack_X10 flX10_cutBack_54 e4 dX10_cutBack_15 ?_
      obtain rfl := Option.some.inj h
      exact zr_vret hC hR ⟨rfl, rfl⟩ (Nat.le_refl _) (Nat.le_refl _) dX10_cutBack_18
/-! X8_takeQuiz -/
theorem hyX8_takeQuiz : yX8_takeQuiz.cls = RX8 ∧ yX8_takeQuiz.cls ≠ "java/lang/invoke/MethodHandle" ∧ yX8_takeQuiz.cls ≠ "java/lang/invoke/VarHandle" ∧ (parseMethodDescriptor yX8_takeQuiz.desc).map (fun d => d.parameters.length) = some 2 := by decide +kernel
theorem flX8_takeQuiz_15 : Cond.fieldLink RX8 15 "BeforeTheEnd$Text" "count" "I" ∈ wsX8_takeQuiz := by decide +kernel
theorem flX8_takeQuiz_19 : Cond.fieldLink RX8 19 "BeforeTheEnd$Text" "at" "I" ∈ wsX8_takeQuiz := by decide +kernel
theorem hinX8_takeQuiz_X8 : ∀ w ∈ wsX80, w ∈ wsX8_takeQuiz := fun _ h => List.mem_cons_of_mem _ (List.mem_append_left _ (List.mem_append_left _ (List.mem_append_left _ (List.mem_append_left _ (List.mem_append_left _ (List.mem_append_left _ (List.mem_append_left _ (List.mem_append_left _ (List.mem_append_right _ h)))))))))
theorem hinX8_takeQuiz_X10 : ∀ w ∈ wsX100, w ∈ wsX8_takeQuiz := fun _ h => List.mem_cons_of_mem _ (List.mem_append_left _ (List.mem_append_left _ (List.mem_append_left _ (List.mem_append_left _ (List.mem_append_left _ (List.mem_append_left _ (List.mem_append_left _ (List.mem_append_right _ h))))))))
theorem hinX8_takeQuiz_X6 : ∀ w ∈ wsX60, w ∈ wsX8_takeQuiz := fun _ h => List.mem_cons_of_mem _ (List.mem_append_left _ (List.mem_append_left _ (List.mem_append_left _ (List.mem_append_left _ (List.mem_append_left _ (List.mem_append_left _ (List.mem_append_right _ h)))))))
theorem hinX8_takeQuiz_X2 : ∀ w ∈ wsX20, w ∈ wsX8_takeQuiz := fun _ h => List.mem_cons_of_mem _ (List.mem_append_left _ (List.mem_append_left _ (List.mem_append_left _ (List.mem_append_left _ (List.mem_append_left _ (List.mem_append_right _ h))))))
theorem hinX8_takeQuiz_X7 : ∀ w ∈ wsX70, w ∈ wsX8_takeQuiz := fun _ h => List.mem_cons_of_mem _ (List.mem_append_left _ (List.mem_append_left _ (List.mem_append_left _ (List.mem_append_left _ (List.mem_append_right _ h)))))
theorem hinX8_takeQuiz_X1 : ∀ w ∈ wsX10, w ∈ wsX8_takeQuiz := fun _ h => List.mem_cons_of_mem _ (List.mem_append_left _ (List.mem_append_left _ (List.mem_append_left _ (List.mem_append_right _ h))))
theorem hinX8_takeQuiz_X4 : ∀ w ∈ wsX40, w ∈ wsX8_takeQuiz := fun _ h => List.mem_cons_of_mem _ (List.mem_append_left _ (List.mem_append_left _ (List.mem_append_right _ h)))
theorem hinX8_takeQuiz_X9 : ∀ w ∈ wsX90, w ∈ wsX8_takeQuiz := fun _ h => List.mem_cons_of_mem _ (List.mem_append_left _ (List.mem_append_right _ h))
theorem hinX8_takeQuiz_X0 : ∀ w ∈ wsX00, w ∈ wsX8_takeQuiz := fun _ h => List.mem_cons_of_mem _ (List.mem_append_right _ h)
noncomputable def xX8_takeQuiz_L35 (n0 : Nat) (v4 : Int32) (v5 : Int32) (w0 : Nat) (w1 : zM) (w2 : zM) (w3 : zM) (w4 : zP) (w5 : Int32) : Option ((Nat × zM × zM × zM × zP × Int32) ⊕ ((Nat × zM × zM × zM × zP × Int32) ⊕ (Nat × zM × zM × zM × zP × Int32))) :=
  if 64 < w0 then none else
  if w4.2.2.2 < n0 then none else
  if (w3.1 70 1) ≤ (w3.1 70 2) then
  (some (.inr (.inr (w0, w1, w2, w3, w4, w5))))
  else
  if (64 : Int32) ≤ w5 then
  (some (.inr (.inr (w0, w1, w2, w3, w4, w5))))
  else
  zlet (w3.1 70 2) fun z3 =>
  (xX8_readStatement w3).bind fun q5 =>
  if 64 ≤ w0 then none else
  (xX8_takeStatement w1 w2 q5.2 w4).bind fun q6 =>
  if q6.1 = 0 then
  (some (.inr (.inl ((w0 + 1), q6.2.1, q6.2.2.1, q5.2, q6.2.2.2, z3))))
  else
  some (.inl ((w0 + 1), q6.2.1, q6.2.2.1, q5.2, q6.2.2.2, (w5 + (1 : Int32))))
set_option maxHeartbeats 4000000 in
set_option maxRecDepth 100000 in
theorem tX8_takeQuiz_L35 {κ : Nat → ClassId} {tg : Nat} {adK adV : Nat → Nat} {ad : Nat → Nat} {X : zX} {pF : zM} {pB : zM} {n0 : Nat} {v4 : Int32} {v5 : Int32} {w0 : Nat} {w1 : zM} {w2 : zM} {w3 : zM} {w4 : zP} {w5 : Int32} {r : ((Nat × zM × zM × zM × zP × Int32) ⊕ ((Nat × zM × zM × zM × zP × Int32) ⊕ (Nat × zM × zM × zM × zP × Int32)))} (hC : zC X cX8_takeQuiz RX8 wsX8_takeQuiz vwCl (zty κ) (zE tg (zS adK adV)) 8 ({ frames := 8, cells := 64, slots := 256, locals := 174 } : Room)) (hEk : zEk (zE tg (zS adK adV))) (hin : ∀ (x0' : Nat) (x1' : zM) (x2' : zM) (x3' : zM) (x4' : zP) (x5' : Int32), r = .inl (x0', x1', x2', x3', x4', x5') → (∀ ad2 : Nat → Nat, (∀ j, j < 81 + n0 → ad2 j = ad j) → zV X (0 + 1 * x0') (0 + 4 * x0') (zwC κ ad2 x1' x2' x3' pF pB x4') [(0, .ref (ad2 70)), (1, .ref (ad2 0)), (2, .ref (ad2 62)), (4, .int v4), (5, .int v5), (6, .int x5')] [] 35)) (hout0 : ∀ (x0' : Nat) (x1' : zM) (x2' : zM) (x3' : zM) (x4' : zP) (x5' : Int32), r = .inr (.inl (x0', x1', x2', x3', x4', x5')) → (∀ ad2 : Nat → Nat, (∀ j, j < 81 + n0 → ad2 j = ad j) → zV X (0 + 1 * x0') (0 + 4 * x0') (zwC κ ad2 x1' x2' x3' pF pB x4') [(1, .ref (ad2 0)), (2, .ref (ad2 62)), (4, .int v4), (5, .int v5), (7, .int x5')] [] 73)) (hout1 : ∀ (x0' : Nat) (x1' : zM) (x2' : zM) (x3' : zM) (x4' : zP) (x5' : Int32), r = .inr (.inr (x0', x1', x2', x3', x4', x5')) → (∀ ad2 : Nat → Nat, (∀ j, j < 81 + n0 → ad2 j = ad j) → zV X (0 + 1 * x0') (0 + 4 * x0') (zwC κ ad2 x1' x2' x3' pF pB x4') [(6, .int x5')] [] 98)) (h : xX8_takeQuiz_L35 n0  v4 v5 w0 w1 w2 w3 w4 w5 = some r) : (∀ ad2 : Nat → Nat, (∀ j, j < 81 + n0 → ad2 j = ad j) → zV X (0 + 1 * w0) (0 + 4 * w0) (zwC κ ad2 w1 w2 w3 pF pB w4) [(0, .ref (ad2 70)), (1, .ref (ad2 0)), (2, .ref (ad2 62)), (4, .int v4), (5, .int v5), (6, .int w5)] [] 35) := by
  unfold xX8_takeQuiz_L35 at h
  intro ad2 hag
  obtain ⟨hk9, h⟩ := zgd h
  obtain ⟨hn0, h⟩ := zgd h
  refine zr_aload_n (pc := 35) hC 0 rfl rfl dX8_takeQuiz_35 ?_
  refine zcg_70_2 (pc := 36) hC hinX8_takeQuiz_X8 flX8_takeQuiz_19 dX8_takeQuiz_36 ?_
  refine zr_aload_n (pc := 39) hC 0 rfl rfl dX8_takeQuiz_39 ?_
  refine zcg_70_1 (pc := 40) hC hinX8_takeQuiz_X8 flX8_takeQuiz_15 dX8_takeQuiz_40 ?_
  refine zr_icmp_ge (pc := 43) (tgt := 98) hC dX8_takeQuiz_43 (by decide) (fun c1 => ?_) (fun c1 => ?_)
  · replace h := zip h c1
    obtain rfl := Option.some.inj h
    exact zV.sub (lv' := [(6, .int w5)]) [5] rfl (hout1 w0 w1 w2 w3 w4 w5 rfl ad2 hag)
  · replace h := zin h c1
    refine zr_iload (pc := 46) hC 5 rfl dX8_takeQuiz_46 ?_
    refine zr_bipush (pc := 48) hC zkb_64 dX8_takeQuiz_48 ?_
    refine zr_icmp_ge (pc := 50) (tgt := 98) hC dX8_takeQuiz_50 (by decide) (fun c2 => ?_) (fun c2 => ?_)
    · replace h := zip h c2
      obtain rfl := Option.some.inj h
      exact zV.sub (lv' := [(6, .int w5)]) [5] rfl (hout1 w0 w1 w2 w3 w4 w5 rfl ad2 hag)
    · replace h := zin h c2
      refine zr_aload_n (pc := 53) hC 0 rfl rfl dX8_takeQuiz_53 ?_
      refine zcg_70_2 (pc := 54) hC hinX8_takeQuiz_X8 flX8_takeQuiz_19 dX8_takeQuiz_54 ?_
      obtain ⟨z3, e4, h⟩ := zle h
      refine zr_topi e4 ?_
      refine zr_istore (pc := 57) (lv' := [(7, .int z3), (0, .ref (ad2 70)), (1, .ref (ad2 0)), (2, .ref (ad2 62)), (4, .int v4), (5, .int v5), (6, .int w5)]) hC (by decide) rfl dX8_takeQuiz_57 ?_
      refine zr_aload_n (pc := 59) hC 1 rfl rfl dX8_takeQuiz_59 ?_
      obtain ⟨q5, hq5, h⟩ := zbd h
      refine zr_cVi (pc := 60) hC hEk [] [] 70 0 (fun l D => tX8_readStatement hEk hq5 l D) gX8_takeQuiz_X8_readStatement rfl rfl rfl ⟨Nat.le_of_ble_eq_true rfl, Nat.le_of_ble_eq_true rfl⟩ hyX8_readStatement (zNC (by decide)) entC_70 rfl rfl rfl (Nat.le_of_ble_eq_true rfl) ⟨by show (0 + 1 * w0) + 0 ≤ 64; omega, by show (0 + 4 * w0) + 0 ≤ 256; omega⟩ dX8_takeQuiz_60 ?_
      refine zr_pop (pc := 63) hC rfl dX8_takeQuiz_63 ?_
      refine zr_aload_n (pc := 64) hC 1 rfl rfl dX8_takeQuiz_64 ?_
      refine zr_aload_n (pc := 65) hC 2 rfl rfl dX8_takeQuiz_65 ?_
      refine zr_aload_n (pc := 66) hC 3 rfl rfl dX8_takeQuiz_66 ?_
      obtain ⟨g7, h⟩ := zgd h
      obtain ⟨q6, hq6, h⟩ := zbd h
      refine zr_callV (pc := 67) hC hEk [.ref (ad2 0), .ref (ad2 62)] [] 70 2 (fun l D => tX8_takeStatement hEk hq6 l D) gX8_takeQuiz_X8_takeStatement rfl rfl rfl ⟨Nat.le_of_ble_eq_true rfl, Nat.le_of_ble_eq_true rfl⟩ hyX8_takeStatement (zNC (by decide)) entC_70 rfl rfl rfl (Nat.le_of_ble_eq_true rfl) ⟨by show (0 + 1 * w0) + 1 ≤ 64; omega, by show (0 + 4 * w0) + 4 ≤ 256; omega⟩ dX8_takeQuiz_67 (fun rv w1 hpo => ?_)
      obtain ⟨ad3, hag3, rfl, rfl⟩ := hpo
      rw [← hag3 0 (zNC (by decide))]
      rw [← hag3 62 (zNC (by decide))]
      rw [← hag3 70 (zNC (by decide))]
      have hag : ∀ j, j < 81 + n0 → ad3 j = ad j := fun j hj => (hag3 j (by omega)).trans (hag j hj)
      show zV X (0 + 1 * (w0 + 1)) (0 + 4 * (w0 + 1)) (zwC κ ad3 q6.2.1 q6.2.2.1 q5.2 pF pB q6.2.2.2) [(7, .int z3), (0, .ref (ad3 70)), (1, .ref (ad3 0)), (2, .ref (ad3 62)), (4, .int v4), (5, .int v5), (6, .int w5)] [.int q6.1] 70
      refine zr_if_ne (pc := 70) (tgt := 92) hC dX8_takeQuiz_70 (by decide) (fun c8 => ?_) (fun c8 => ?_)
      · replace h := zin h c8
        refine zr_iinc (pc := 92) (k := 6) (lv' := [(6, .int (w5 + (1 : Int32))), (7, .int z3), (0, .ref (ad3 70)), (1, .ref (ad3 0)), (2, .ref (ad3 62)), (4, .int v4), (5, .int v5)]) hC zki_1 (by decide) rfl rfl dX8_takeQuiz_92 ?_
        refine zr_goto (pc := 95) (tgt := 35) hC dX8_takeQuiz_95 (by decide) ?_
        obtain rfl := Option.some.inj h
        exact zV.sub (lv' := [(0, .ref (ad3 70)), (1, .ref (ad3 0)), (2, .ref (ad3 62)), (4, .int v4), (5, .int v5), (6, .int (w5 + (1 : Int32)))]) [2, 3, 4, 5, 6, 0] rfl (hin (w0 + 1) q6.2.1 q6.2.2.1 q5.2 q6.2.2.2 (w5 + (1 : Int32)) rfl ad3 hag)
      · replace h := zip h c8
        obtain rfl := Option.some.inj h
        exact zV.sub (lv' := [(1, .ref (ad3 0)), (2, .ref (ad3 62)), (4, .int v4), (5, .int v5), (7, .int z3)]) [2, 3, 4, 5, 0] rfl (hout0 (w0 + 1) q6.2.1 q6.2.2.1 q5.2 q6.2.2.2 z3 rfl ad3 hag)
noncomputable def xX8_takeQuiz (pT : zM) (pR : zM) (pX : zM) (pP : zP)  : Option (Int32 × zM × zM × zM × zP) :=
  (xX8_firstBadByte pX).bind fun q1 =>
  if q1.1 < 0 then
  ((xX10_size pT).bind fun q3 =>
  (xX6_size pR).bind fun q4 =>
  zlet (zsi q1.2 70 2 (0 : Int32)) fun M5 =>
  (x_it (fun a9 => xX8_takeQuiz_L35 pP.2.2.2 q3 q4 a9.1 a9.2.1 a9.2.2.1 a9.2.2.2.1 a9.2.2.2.2.1 a9.2.2.2.2.2) zFU ((0 : Nat), pT, pR, M5, pP, (0 : Int32))).bind fun q7 =>
  Sum.elim (fun b8 => if 64 < b8.1 then none else
  (xX10_cutBack b8.2.1 q3).bind fun q11 =>
  (xX6_cutBack b8.2.2.1 q4).bind fun q12 =>
  some (((-2000 : Int32) - b8.2.2.2.2.2), q11, q12, b8.2.2.2.1, b8.2.2.2.2.1)) (fun c9 => if 64 < c9.1 then none else
  some (c9.2.2.2.2.2, c9.2.1, c9.2.2.1, c9.2.2.2.1, c9.2.2.2.2.1)) q7)
  else
  some (((-1000 : Int32) - q1.1), pT, pR, q1.2, pP)
set_option maxHeartbeats 4000000 in
set_option maxRecDepth 100000 in
theorem tX8_takeQuiz {κ : Nat → ClassId} {tg : Nat} {adK adV : Nat → Nat} {ad : Nat → Nat} (hEk : zEk (zE tg (zS adK adV))) {pT : zM} {pR : zM} {pX : zM} {pF : zM} {pB : zM} {pP : zP}  {res : (Int32 × zM × zM × zM × zP)} (h : xX8_takeQuiz pT pR pX pP  = some res) (l : Launch) (D : va_G) : zCT (zE tg (zS adK adV)) D vwCl (zty κ) l yX8_takeQuiz wsX8_takeQuiz ({ frames := 8, cells := 64, slots := 256, locals := 174 } : Room) 64 256 [.ref (ad 70), .ref (ad 0), .ref (ad 62)] (zwC κ ad pT pR pX pF pB pP) (fun rv w => ∃ ad', (∀ j, j < 81 + pP.2.2.2 → ad' j = ad j) ∧ rv = some (.int res.1) ∧ w = (zwC κ ad' res.2.1 res.2.2.1 res.2.2.2.1 pF pB res.2.2.2.2)) := by
  refine zCT.of (cc := cX8_takeQuiz) (maxL := 8) (ret := (some .int)) (by decide) rfl (Nat.le_of_ble_eq_true rfl) ?_
  intro X hC hR
  unfold xX8_takeQuiz at h
  refine zV.sub (lv' := [(0, .ref (ad 70)), (1, .ref (ad 0)), (2, .ref (ad 62))]) [0, 1, 2] rfl ?_
  refine zr_aload_n (pc := 0) hC 0 rfl rfl dX8_takeQuiz_0 ?_
  obtain ⟨q1, hq1, h⟩ := zbd h
  refine zr_cVi (pc := 1) hC hEk [] [] 70 0 (fun l D => tX8_firstBadByte hEk hq1 l D) gX8_takeQuiz_X8_firstBadByte rfl rfl rfl ⟨Nat.le_of_ble_eq_true rfl, Nat.le_of_ble_eq_true rfl⟩ hyX8_firstBadByte (zNC (by decide)) entC_70 rfl rfl rfl (Nat.le_of_ble_eq_true rfl) ⟨Nat.le_of_ble_eq_true rfl, Nat.le_of_ble_eq_true rfl⟩ dX8_takeQuiz_1 ?_
  refine zr_istore_n (pc := 4) (lv' := [(3, .int q1.1), (0, .ref (ad 70)), (1, .ref (ad 0)), (2, .ref (ad 62))]) hC rfl (by decide) rfl dX8_takeQuiz_4 ?_
  refine zr_iload_n (pc := 5) hC 0 rfl rfl dX8_takeQuiz_5 ?_
  refine zr_if_lt (pc := 6) (tgt := 15) hC dX8_takeQuiz_6 (by decide) (fun c2 => ?_) (fun c2 => ?_)
  · replace h := zip h c2
    refine zr_aload_n (pc := 15) hC 2 rfl rfl dX8_takeQuiz_15 ?_
    obtain ⟨q3, hq3, h⟩ := zbd h
    refine zr_cVi (pc := 16) hC hEk [] [] 0 0 (fun l D => tX10_size hEk hq3 l D) gX8_takeQuiz_X10_size rfl rfl rfl ⟨Nat.le_of_ble_eq_true rfl, Nat.le_of_ble_eq_true rfl⟩ hyX10_size (zNC (by decide)) entC_0 rfl rfl rfl (Nat.le_of_ble_eq_true rfl) ⟨Nat.le_of_ble_eq_true rfl, Nat.le_of_ble_eq_true rfl⟩ dX8_takeQuiz_16 ?_
    refine zr_istore (pc := 19) (lv' := [(4, .int q3), (3, .int q1.1), (0, .ref (ad 70)), (1, .ref (ad 0)), (2, .ref (ad 62))]) hC (by decide) rfl dX8_takeQuiz_19 ?_
    refine zr_aload_n (pc := 21) hC 4 rfl rfl dX8_takeQuiz_21 ?_
    obtain ⟨q4, hq4, h⟩ := zbd h
    refine zr_cVi (pc := 22) hC hEk [] [] 62 0 (fun l D => tX6_size hEk hq4 l D) gX8_takeQuiz_X6_size rfl rfl rfl ⟨Nat.le_of_ble_eq_true rfl, Nat.le_of_ble_eq_true rfl⟩ hyX6_size (zNC (by decide)) entC_62 rfl rfl rfl (Nat.le_of_ble_eq_true rfl) ⟨Nat.le_of_ble_eq_true rfl, Nat.le_of_ble_eq_true rfl⟩ dX8_takeQuiz_22 ?_
    refine zr_istore (pc := 25) (lv' := [(5, .int q4), (4, .int q3), (3, .int q1.1), (0, .ref (ad 70)), (1, .ref (ad 0)), (2, .ref (ad 62))]) hC (by decide) rfl dX8_takeQuiz_25 ?_
    refine zr_iconst (pc := 27) hC zki_0 dX8_takeQuiz_27 ?_
    refine zr_istore (pc := 28) (lv' := [(6, .int (0 : Int32)), (5, .int q4), (4, .int q3), (3, .int q1.1), (0, .ref (ad 70)), (1, .ref (ad 0)), (2, .ref (ad 62))]) hC (by decide) rfl dX8_takeQuiz_28 ?_
    refine zr_aload_n (pc := 30) hC 4 rfl rfl dX8_takeQuiz_30 ?_
    refine zr_iconst (pc := 31) hC zki_0 dX8_takeQuiz_31 ?_
    obtain ⟨M5, e6, h⟩ := zle h
    refine zcp_70_2 (pc := 32) hC hinX8_takeQuiz_X8 flX8_takeQuiz_19 e6 dX8_takeQuiz_32 ?_
    obtain ⟨q7, hq7, h⟩ := zbd h
    refine zV.sub (lv' := [(0, .ref (ad 70)), (1, .ref (ad 0)), (2, .ref (ad 62)), (4, .int q3), (5, .int q4), (6, .int (0 : Int32))]) [4, 5, 6, 2, 1, 0] rfl ?_
    refine (zit6 (Wp := fun (y0 : Nat) (y1 : zM) (y2 : zM) (y3 : zM) (y4 : zP) (y5 : Int32) => (∀ ad2 : Nat → Nat, (∀ j, j < 81 + pP.2.2.2 → ad2 j = ad j) → zV X (0 + 1 * y0) (0 + 4 * y0) (zwC κ ad2 y1 y2 y3 pF pB y4) [(0, .ref (ad2 70)), (1, .ref (ad2 0)), (2, .ref (ad2 62)), (4, .int q3), (5, .int q4), (6, .int y5)] [] 35)) (Ex := fun (b9 : ((Nat × zM × zM × zM × zP × Int32) ⊕ (Nat × zM × zM × zM × zP × Int32))) => Sum.elim (fun (b0 : (Nat × zM × zM × zM × zP × Int32)) => (∀ ad2 : Nat → Nat, (∀ j, j < 81 + pP.2.2.2 → ad2 j = ad j) → zV X (0 + 1 * b0.1) (0 + 4 * b0.1) (zwC κ ad2 b0.2.1 b0.2.2.1 b0.2.2.2.1 pF pB b0.2.2.2.2.1) [(1, .ref (ad2 0)), (2, .ref (ad2 62)), (4, .int q3), (5, .int q4), (7, .int b0.2.2.2.2.2)] [] 73)) (fun (c0 : (Nat × zM × zM × zM × zP × Int32)) => (∀ ad2 : Nat → Nat, (∀ j, j < 81 + pP.2.2.2 → ad2 j = ad j) → zV X (0 + 1 * c0.1) (0 + 4 * c0.1) (zwC κ ad2 c0.2.1 c0.2.2.1 c0.2.2.2.1 pF pB c0.2.2.2.2.1) [(6, .int c0.2.2.2.2.2)] [] 98)) b9) (fun y0 y1 y2 y3 y4 y5 r9 hr hin hout => tX8_takeQuiz_L35 hC hEk hin (fun z0 z1 z2 z3 z4 z5 e9 => hout (.inl (z0, z1, z2, z3, z4, z5)) e9) (fun z0 z1 z2 z3 z4 z5 e9 => hout (.inr (z0, z1, z2, z3, z4, z5)) e9) hr) zFU (0 : Nat) pT pR M5 pP (0 : Int32) q7 hq7 ?_) ad (fun _ _ => rfl)
    rcases q7 with b8 | c9
    · replace h := zel h
      show (∀ ad2 : Nat → Nat, (∀ j, j < 81 + pP.2.2.2 → ad2 j = ad j) → zV X (0 + 1 * b8.1) (0 + 4 * b8.1) (zwC κ ad2 b8.2.1 b8.2.2.1 b8.2.2.2.1 pF pB b8.2.2.2.2.1) [(1, .ref (ad2 0)), (2, .ref (ad2 62)), (4, .int q3), (5, .int q4), (7, .int b8.2.2.2.2.2)] [] 73)
      intro ad2 hag
      obtain ⟨hk10, h⟩ := zgd h
      refine zr_aload_n (pc := 73) hC 0 rfl rfl dX8_takeQuiz_73 ?_
      refine zr_iload (pc := 74) hC 2 rfl dX8_takeQuiz_74 ?_
      obtain ⟨q11, hq11, h⟩ := zbd h
      refine zr_cVv (pc := 76) hC hEk [.int q3] [] 0 1 (fun l D => tX10_cutBack hEk hq11 l D) gX8_takeQuiz_X10_cutBack rfl rfl rfl ⟨Nat.le_of_ble_eq_true rfl, Nat.le_of_ble_eq_true rfl⟩ hyX10_cutBack (zNC (by decide)) entC_0 rfl rfl rfl (Nat.le_of_ble_eq_true rfl) ⟨by show (0 + 1 * b8.1) + 0 ≤ 64; omega, by show (0 + 4 * b8.1) + 0 ≤ 256; omega⟩ dX8_takeQuiz_76 ?_
      refine zr_aload_n (pc := 79) hC 1 rfl rfl dX8_takeQuiz_79 ?_
      refine zr_iload (pc := 80) hC 3 rfl dX8_takeQuiz_80 ?_
      obtain ⟨q12, hq12, h⟩ := zbd h
      refine zr_cVv (pc := 82) hC hEk [.int q4] [] 62 1 (fun l D => tX6_cutBack hEk hq12 l D) gX8_takeQuiz_X6_cutBack rfl rfl rfl ⟨Nat.le_of_ble_eq_true rfl, Nat.le_of_ble_eq_true rfl⟩ hyX6_cutBack (zNC (by decide)) entC_62 rfl rfl rfl (Nat.le_of_ble_eq_true rfl) ⟨by show (0 + 1 * b8.1) + 0 ≤ 64; omega, by show (0 + 4 * b8.1) + 0 ≤ 256; omega⟩ dX8_takeQuiz_82 ?_
      refine zr_sipush (pc := 85) hC zks_m2000 dX8_takeQuiz_85 ?_
      refine zr_iload (pc := 88) hC 4 rfl dX8_takeQuiz_88 ?_
      refine zr_isub (pc := 90) hC dX8_takeQuiz_90 ?_
      obtain rfl := Option.some.inj h
      exact zr_iret hC hR ⟨ad2, hag, rfl, rfl⟩ (by show (0 + 1 * b8.1) ≤ 64; omega) (by show (0 + 4 * b8.1) ≤ 256; omega) dX8_takeQuiz_91
    · replace h := zer h
      show (∀ ad2 : Nat → Nat, (∀ j, j < 81 + pP.2.2.2 → ad2 j = ad j) → zV X (0 + 1 * c9.1) (0 + 4 * c9.1) (zwC κ ad2 c9.2.1 c9.2.2.1 c9.2.2.2.1 pF pB c9.2.2.2.2.1) [(6, .int c9.2.2.2.2.2)] [] 98)
      intro ad2 hag
      obtain ⟨hk13, h⟩ := zgd h
      refine zr_iload (pc := 98) hC 0 rfl dX8_takeQuiz_98 ?_
      obtain rfl := Option.some.inj h
      exact zr_iret hC hR ⟨ad2, hag, rfl, rfl⟩ (by show (0 + 1 * c9.1) ≤ 64; omega) (by show (0 + 4 * c9.1) ≤ 256; omega) dX8_takeQuiz_100
  · replace h := zin h c2
    refine zr_sipush (pc := 9) hC zks_m1000 dX8_takeQuiz_9 ?_
    refine zr_iload_n (pc := 12) hC 0 rfl rfl dX8_takeQuiz_12 ?_
    refine zr_isub (pc := 13) hC dX8_takeQuiz_13 ?_
    obtain rfl := Option.some.inj h
    exact zr_iret hC hR ⟨ad, fun _ _ => rfl, rfl, rfl⟩ (Nat.le_of_ble_eq_true rfl) (Nat.le_of_ble_eq_true rfl) dX8_takeQuiz_14
/-! X10_endsCount -/
theorem hyX10_endsCount : yX10_endsCount.cls = RX10 ∧ yX10_endsCount.cls ≠ "java/lang/invoke/MethodHandle" ∧ yX10_endsCount.cls ≠ "java/lang/invoke/VarHandle" ∧ (parseMethodDescriptor yX10_endsCount.desc).map (fun d => d.parameters.length) = some 0 := by decide +kernel
theorem flX10_endsCount_58 : Cond.fieldLink RX10 58 "BeforeTheEnd$Tree" "ends" "I" ∈ wsX10_endsCount := by decide +kernel
theorem hinX10_endsCount_X10 : ∀ w ∈ wsX100, w ∈ wsX10_endsCount := fun _ h => List.mem_cons_of_mem _ (List.mem_append_right _ h)
def xX10_endsCount (pT : zM)  : Option Int32 :=
  some (pT.1 0 14)
set_option maxHeartbeats 4000000 in
set_option maxRecDepth 100000 in
theorem tX10_endsCount {κ : Nat → ClassId} {tg : Nat} {S : zEn} {ad : Nat → Nat} (hEk : zEk (zE tg S)) {pT : zM} {pR : zM} {pX : zM} {pF : zM} {pB : zM} {pP : zP}  {res : Int32} (h : xX10_endsCount pT  = some res) (l : Launch) (D : va_G) : zCT (zE tg S) D vwCl (zty κ) l yX10_endsCount wsX10_endsCount ({ frames := 0, cells := 0, slots := 0, locals := 0 } : Room) 0 0 [.ref (ad 0)] (zwC κ ad pT pR pX pF pB pP) (zPd (some (.int res)) (zwC κ ad pT pR pX pF pB pP)) := by
  refine zCT.of (cc := cX10_endsCount) (maxL := 1) (ret := (some .int)) (by decide) rfl (Nat.le_of_ble_eq_true rfl) ?_
  intro X hC hR
  unfold xX10_endsCount at h
  refine zV.sub (lv' := [(0, .ref (ad 0))]) [0] rfl ?_
  refine zr_aload_n (pc := 0) hC 0 rfl rfl dX10_endsCount_0 ?_
  refine zcg_0_14 (pc := 1) hC hinX10_endsCount_X10 flX10_endsCount_58 dX10_endsCount_1 ?_
  obtain rfl := Option.some.inj h
  exact zr_iret hC hR ⟨rfl, rfl⟩ (Nat.le_refl _) (Nat.le_refl _) dX10_endsCount_4
/-! X10_isWhole -/
theorem hyX10_isWhole : yX10_isWhole.cls = RX10 ∧ yX10_isWhole.cls ≠ "java/lang/invoke/MethodHandle" ∧ yX10_isWhole.cls ≠ "java/lang/invoke/VarHandle" ∧ (parseMethodDescriptor yX10_isWhole.desc).map (fun d => d.parameters.length) = some 0 := by decide +kernel
theorem flX10_isWhole_61 : Cond.fieldLink RX10 61 "BeforeTheEnd$Tree" "allClosed" "Z" ∈ wsX10_isWhole := by decide +kernel
theorem hinX10_isWhole_X10 : ∀ w ∈ wsX100, w ∈ wsX10_isWhole := fun _ h => List.mem_cons_of_mem _ (List.mem_append_right _ h)
def xX10_isWhole (pT : zM)  : Option Int32 :=
  if ¬ ((pT.1 0 15) = 0 ∨ (pT.1 0 15) = 1) then none else
  some (pT.1 0 15)
set_option maxHeartbeats 4000000 in
set_option maxRecDepth 100000 in
theorem tX10_isWhole {κ : Nat → ClassId} {tg : Nat} {S : zEn} {ad : Nat → Nat} (hEk : zEk (zE tg S)) {pT : zM} {pR : zM} {pX : zM} {pF : zM} {pB : zM} {pP : zP}  {res : Int32} (h : xX10_isWhole pT  = some res) (l : Launch) (D : va_G) : zCT (zE tg S) D vwCl (zty κ) l yX10_isWhole wsX10_isWhole ({ frames := 0, cells := 0, slots := 0, locals := 0 } : Room) 0 0 [.ref (ad 0)] (zwC κ ad pT pR pX pF pB pP) (zPd (some (.int res)) (zwC κ ad pT pR pX pF pB pP)) := by
  refine zCT.of (cc := cX10_isWhole) (maxL := 1) (ret := (some .boolean)) (by decide) rfl (Nat.le_of_ble_eq_true rfl) ?_
  intro X hC hR
  unfold xX10_isWhole at h
  refine zV.sub (lv' := [(0, .ref (ad 0))]) [0] rfl ?_
  refine zr_aload_n (pc := 0) hC 0 rfl rfl dX10_isWhole_0 ?_
  refine zcg_0_15 (pc := 1) hC hinX10_isWhole_X10 flX10_isWhole_61 dX10_isWhole_1 ?_
  obtain ⟨n1, h⟩ := zgd h
  obtain rfl := Option.some.inj h
  exact zr_zret hC hR (Decidable.not_not.mp n1) ⟨rfl, rfl⟩ (Nat.le_refl _) (Nat.le_refl _) dX10_isWhole_4
/-! X10_allWords -/
theorem hyX10_allWords : yX10_allWords.cls = RX10 ∧ yX10_allWords.cls ≠ "java/lang/invoke/MethodHandle" ∧ yX10_allWords.cls ≠ "java/lang/invoke/VarHandle" ∧ (parseMethodDescriptor yX10_allWords.desc).map (fun d => d.parameters.length) = some 0 := by decide +kernel
theorem flX10_allWords_54 : Cond.fieldLink RX10 54 "BeforeTheEnd$Tree" "count" "I" ∈ wsX10_allWords := by decide +kernel
theorem hinX10_allWords_X10 : ∀ w ∈ wsX100, w ∈ wsX10_allWords := fun _ h => List.mem_cons_of_mem _ (List.mem_append_right _ h)
def xX10_allWords (pT : zM)  : Option Int32 :=
  some (((1 : Int32) <<< ((pT.1 0 13) &&& 31)) - (1 : Int32))
set_option maxHeartbeats 4000000 in
set_option maxRecDepth 100000 in
theorem tX10_allWords {κ : Nat → ClassId} {tg : Nat} {S : zEn} {ad : Nat → Nat} (hEk : zEk (zE tg S)) {pT : zM} {pR : zM} {pX : zM} {pF : zM} {pB : zM} {pP : zP}  {res : Int32} (h : xX10_allWords pT  = some res) (l : Launch) (D : va_G) : zCT (zE tg S) D vwCl (zty κ) l yX10_allWords wsX10_allWords ({ frames := 0, cells := 0, slots := 0, locals := 0 } : Room) 0 0 [.ref (ad 0)] (zwC κ ad pT pR pX pF pB pP) (zPd (some (.int res)) (zwC κ ad pT pR pX pF pB pP)) := by
  refine zCT.of (cc := cX10_allWords) (maxL := 1) (ret := (some .int)) (by decide) rfl (Nat.le_of_ble_eq_true rfl) ?_
  intro X hC hR
  unfold xX10_allWords at h
  refine zV.sub (lv' := [(0, .ref (ad 0))]) [0] rfl ?_
  refine zr_iconst (pc := 0) hC zki_1 dX10_allWords_0 ?_
  refine zr_aload_n (pc := 1) hC 0 rfl rfl dX10_allWords_1 ?_
  refine zcg_0_13 (pc := 2) hC hinX10_allWords_X10 flX10_allWords_54 dX10_allWords_2 ?_
  refine zr_ishl (pc := 5) hC dX10_allWords_5 ?_
  refine zr_iconst (pc := 6) hC zki_1 dX10_allWords_6 ?_
  refine zr_isub (pc := 7) hC dX10_allWords_7 ?_
  obtain rfl := Option.some.inj h
  exact zr_iret hC hR ⟨rfl, rfl⟩ (Nat.le_refl _) (Nat.le_refl _) dX10_allWords_8
/-! X10_parentOf -/
theorem hyX10_parentOf : yX10_parentOf.cls = RX10 ∧ yX10_parentOf.cls ≠ "java/lang/invoke/MethodHandle" ∧ yX10_parentOf.cls ≠ "java/lang/invoke/VarHandle" ∧ (parseMethodDescriptor yX10_parentOf.desc).map (fun d => d.parameters.length) = some 1 := by decide +kernel
theorem flX10_parentOf_9 : Cond.fieldLink RX10 9 "BeforeTheEnd$Tree" "parent" "[I" ∈ wsX10_parentOf := by decide +kernel
theorem hinX10_parentOf_X10 : ∀ w ∈ wsX100, w ∈ wsX10_parentOf := fun _ h => List.mem_cons_of_mem _ (List.mem_append_right _ h)
def xX10_parentOf (pT : zM) (v1 : Int32) : Option Int32 :=
  (xX10_has pT v1).bind fun q1 =>
  if q1 = 0 then
  (some (0 : Int32))
  else
  if (v1 < 0 ∨ 24 ≤ v1.toNatClampNeg) then none else
  some (pT.1 1 v1.toNatClampNeg)
set_option maxHeartbeats 4000000 in
set_option maxRecDepth 100000 in
theorem tX10_parentOf {κ : Nat → ClassId} {tg : Nat} {S : zEn} {ad : Nat → Nat} (hEk : zEk (zE tg S)) {pT : zM} {pR : zM} {pX : zM} {pF : zM} {pB : zM} {pP : zP} {v1 : Int32} {res : Int32} (h : xX10_parentOf pT v1 = some res) (l : Launch) (D : va_G) : zCT (zE tg S) D vwCl (zty κ) l yX10_parentOf wsX10_parentOf ({ frames := 1, cells := 0, slots := 0, locals := 21 } : Room) 0 0 [.ref (ad 0), .int v1] (zwC κ ad pT pR pX pF pB pP) (zPd (some (.int res)) (zwC κ ad pT pR pX pF pB pP)) := by
  refine zCT.of (cc := cX10_parentOf) (maxL := 2) (ret := (some .int)) (by decide) rfl (Nat.le_of_ble_eq_true rfl) ?_
  intro X hC hR
  unfold xX10_parentOf at h
  refine zV.sub (lv' := [(0, .ref (ad 0)), (1, .int v1)]) [0, 1] rfl ?_
  refine zr_aload_n (pc := 0) hC 0 rfl rfl dX10_parentOf_0 ?_
  refine zr_iload_n (pc := 1) hC 1 rfl rfl dX10_parentOf_1 ?_
  obtain ⟨q1, hq1, h⟩ := zbd h
  refine zr_cVi (pc := 2) hC hEk [.int v1] [] 0 1 (fun l D => tX10_has hEk hq1 l D) gX10_parentOf_X10_has rfl rfl rfl ⟨Nat.le_of_ble_eq_true rfl, Nat.le_of_ble_eq_true rfl⟩ hyX10_has (zNC (by decide)) entC_0 rfl rfl rfl (Nat.le_of_ble_eq_true rfl) ⟨Nat.le_of_ble_eq_true rfl, Nat.le_of_ble_eq_true rfl⟩ dX10_parentOf_2 ?_
  refine zr_if_eq (pc := 5) (tgt := 17) hC dX10_parentOf_5 (by decide) (fun c2 => ?_) (fun c2 => ?_)
  · replace h := zip h c2
    refine zr_iconst (pc := 17) hC zki_0 dX10_parentOf_17 ?_
    obtain rfl := Option.some.inj h
    exact zr_iret hC hR ⟨rfl, rfl⟩ (Nat.le_refl _) (Nat.le_refl _) dX10_parentOf_18
  · replace h := zin h c2
    refine zr_aload_n (pc := 8) hC 0 rfl rfl dX10_parentOf_8 ?_
    refine zcg_0_0 (pc := 9) hC hinX10_parentOf_X10 flX10_parentOf_9 dX10_parentOf_9 ?_
    refine zr_iload_n (pc := 12) hC 1 rfl rfl dX10_parentOf_12 ?_
    obtain ⟨i3, h⟩ := zgd h
    refine zcl_1 (pc := 13) hC i3 dX10_parentOf_13 ?_
    refine zr_goto (pc := 14) (tgt := 18) hC dX10_parentOf_14 (by decide) ?_
    obtain rfl := Option.some.inj h
    exact zr_iret hC hR ⟨rfl, rfl⟩ (Nat.le_refl _) (Nat.le_refl _) dX10_parentOf_18
/-! X10_weightOf -/
theorem hyX10_weightOf : yX10_weightOf.cls = RX10 ∧ yX10_weightOf.cls ≠ "java/lang/invoke/MethodHandle" ∧ yX10_weightOf.cls ≠ "java/lang/invoke/VarHandle" ∧ (parseMethodDescriptor yX10_weightOf.desc).map (fun d => d.parameters.length) = some 1 := by decide +kernel
theorem flX10_weightOf_15 : Cond.fieldLink RX10 15 "BeforeTheEnd$Tree" "weight" "[I" ∈ wsX10_weightOf := by decide +kernel
theorem hinX10_weightOf_X10 : ∀ w ∈ wsX100, w ∈ wsX10_weightOf := fun _ h => List.mem_cons_of_mem _ (List.mem_append_right _ h)
def xX10_weightOf (pT : zM) (v1 : Int32) : Option Int32 :=
  (xX10_has pT v1).bind fun q1 =>
  if q1 = 0 then
  (some (0 : Int32))
  else
  if (v1 < 0 ∨ 24 ≤ v1.toNatClampNeg) then none else
  some (pT.1 2 v1.toNatClampNeg)
set_option maxHeartbeats 4000000 in
set_option maxRecDepth 100000 in
theorem tX10_weightOf {κ : Nat → ClassId} {tg : Nat} {S : zEn} {ad : Nat → Nat} (hEk : zEk (zE tg S)) {pT : zM} {pR : zM} {pX : zM} {pF : zM} {pB : zM} {pP : zP} {v1 : Int32} {res : Int32} (h : xX10_weightOf pT v1 = some res) (l : Launch) (D : va_G) : zCT (zE tg S) D vwCl (zty κ) l yX10_weightOf wsX10_weightOf ({ frames := 1, cells := 0, slots := 0, locals := 21 } : Room) 0 0 [.ref (ad 0), .int v1] (zwC κ ad pT pR pX pF pB pP) (zPd (some (.int res)) (zwC κ ad pT pR pX pF pB pP)) := by
  refine zCT.of (cc := cX10_weightOf) (maxL := 2) (ret := (some .int)) (by decide) rfl (Nat.le_of_ble_eq_true rfl) ?_
  intro X hC hR
  unfold xX10_weightOf at h
  refine zV.sub (lv' := [(0, .ref (ad 0)), (1, .int v1)]) [0, 1] rfl ?_
  refine zr_aload_n (pc := 0) hC 0 rfl rfl dX10_weightOf_0 ?_
  refine zr_iload_n (pc := 1) hC 1 rfl rfl dX10_weightOf_1 ?_
  obtain ⟨q1, hq1, h⟩ := zbd h
  refine zr_cVi (pc := 2) hC hEk [.int v1] [] 0 1 (fun l D => tX10_has hEk hq1 l D) gX10_weightOf_X10_has rfl rfl rfl ⟨Nat.le_of_ble_eq_true rfl, Nat.le_of_ble_eq_true rfl⟩ hyX10_has (zNC (by decide)) entC_0 rfl rfl rfl (Nat.le_of_ble_eq_true rfl) ⟨Nat.le_of_ble_eq_true rfl, Nat.le_of_ble_eq_true rfl⟩ dX10_weightOf_2 ?_
  refine zr_if_eq (pc := 5) (tgt := 17) hC dX10_weightOf_5 (by decide) (fun c2 => ?_) (fun c2 => ?_)
  · replace h := zip h c2
    refine zr_iconst (pc := 17) hC zki_0 dX10_weightOf_17 ?_
    obtain rfl := Option.some.inj h
    exact zr_iret hC hR ⟨rfl, rfl⟩ (Nat.le_refl _) (Nat.le_refl _) dX10_weightOf_18
  · replace h := zin h c2
    refine zr_aload_n (pc := 8) hC 0 rfl rfl dX10_weightOf_8 ?_
    refine zcg_0_1 (pc := 9) hC hinX10_weightOf_X10 flX10_weightOf_15 dX10_weightOf_9 ?_
    refine zr_iload_n (pc := 12) hC 1 rfl rfl dX10_weightOf_12 ?_
    obtain ⟨i3, h⟩ := zgd h
    refine zcl_2 (pc := 13) hC i3 dX10_weightOf_13 ?_
    refine zr_goto (pc := 14) (tgt := 18) hC dX10_weightOf_14 (by decide) ?_
    obtain rfl := Option.some.inj h
    exact zr_iret hC hR ⟨rfl, rfl⟩ (Nat.le_refl _) (Nat.le_refl _) dX10_weightOf_18
/-! X10_behindOf -/
theorem hyX10_behindOf : yX10_behindOf.cls = RX10 ∧ yX10_behindOf.cls ≠ "java/lang/invoke/MethodHandle" ∧ yX10_behindOf.cls ≠ "java/lang/invoke/VarHandle" ∧ (parseMethodDescriptor yX10_behindOf.desc).map (fun d => d.parameters.length) = some 1 := by decide +kernel
theorem flX10_behindOf_30 : Cond.fieldLink RX10 30 "BeforeTheEnd$Tree" "behind" "[I" ∈ wsX10_behindOf := by decide +kernel
theorem hinX10_behindOf_X10 : ∀ w ∈ wsX100, w ∈ wsX10_behindOf := fun _ h => List.mem_cons_of_mem _ (List.mem_append_right _ h)
def xX10_behindOf (pT : zM) (v1 : Int32) : Option Int32 :=
  (xX10_has pT v1).bind fun q1 =>
  if q1 = 0 then
  (some (0 : Int32))
  else
  if (v1 < 0 ∨ 24 ≤ v1.toNatClampNeg) then none else
  some (pT.1 7 v1.toNatClampNeg)
set_option maxHeartbeats 4000000 in
set_option maxRecDepth 100000 in
theorem tX10_behindOf {κ : Nat → ClassId} {tg : Nat} {S : zEn} {ad : Nat → Nat} (hEk : zEk (zE tg S)) {pT : zM} {pR : zM} {pX : zM} {pF : zM} {pB : zM} {pP : zP} {v1 : Int32} {res : Int32} (h : xX10_behindOf pT v1 = some res) (l : Launch) (D : va_G) : zCT (zE tg S) D vwCl (zty κ) l yX10_behindOf wsX10_behindOf ({ frames := 1, cells := 0, slots := 0, locals := 21 } : Room) 0 0 [.ref (ad 0), .int v1] (zwC κ ad pT pR pX pF pB pP) (zPd (some (.int res)) (zwC κ ad pT pR pX pF pB pP)) := by
  refine zCT.of (cc := cX10_behindOf) (maxL := 2) (ret := (some .int)) (by decide) rfl (Nat.le_of_ble_eq_true rfl) ?_
  intro X hC hR
  unfold xX10_behindOf at h
  refine zV.sub (lv' := [(0, .ref (ad 0)), (1, .int v1)]) [0, 1] rfl ?_
  refine zr_aload_n (pc := 0) hC 0 rfl rfl dX10_behindOf_0 ?_
  refine zr_iload_n (pc := 1) hC 1 rfl rfl dX10_behindOf_1 ?_
  obtain ⟨q1, hq1, h⟩ := zbd h
  refine zr_cVi (pc := 2) hC hEk [.int v1] [] 0 1 (fun l D => tX10_has hEk hq1 l D) gX10_behindOf_X10_has rfl rfl rfl ⟨Nat.le_of_ble_eq_true rfl, Nat.le_of_ble_eq_true rfl⟩ hyX10_has (zNC (by decide)) entC_0 rfl rfl rfl (Nat.le_of_ble_eq_true rfl) ⟨Nat.le_of_ble_eq_true rfl, Nat.le_of_ble_eq_true rfl⟩ dX10_behindOf_2 ?_
  refine zr_if_eq (pc := 5) (tgt := 17) hC dX10_behindOf_5 (by decide) (fun c2 => ?_) (fun c2 => ?_)
  · replace h := zip h c2
    refine zr_iconst (pc := 17) hC zki_0 dX10_behindOf_17 ?_
    obtain rfl := Option.some.inj h
    exact zr_iret hC hR ⟨rfl, rfl⟩ (Nat.le_refl _) (Nat.le_refl _) dX10_behindOf_18
  · replace h := zin h c2
    refine zr_aload_n (pc := 8) hC 0 rfl rfl dX10_behindOf_8 ?_
    refine zcg_0_6 (pc := 9) hC hinX10_behindOf_X10 flX10_behindOf_30 dX10_behindOf_9 ?_
    refine zr_iload_n (pc := 12) hC 1 rfl rfl dX10_behindOf_12 ?_
    obtain ⟨i3, h⟩ := zgd h
    refine zcl_7 (pc := 13) hC i3 dX10_behindOf_13 ?_
    refine zr_goto (pc := 14) (tgt := 18) hC dX10_behindOf_14 (by decide) ?_
    obtain rfl := Option.some.inj h
    exact zr_iret hC hR ⟨rfl, rfl⟩ (Nat.le_refl _) (Nat.le_refl _) dX10_behindOf_18
/-! X11_commonDivisor -/
theorem hyX11_commonDivisor : yX11_commonDivisor.cls ≠ "java/lang/invoke/MethodHandle" ∧ yX11_commonDivisor.cls ≠ "java/lang/invoke/VarHandle" ∧ (parseMethodDescriptor yX11_commonDivisor.desc).map (fun d => d.parameters.length) = some 2 := by decide +kernel
theorem lwX11_commonDivisor_286 : Cond.methodLink RX11 286 Lib.MathLoose.abs_long.x ∈ wsX11_commonDivisor ∧ Cond.static Lib.MathLoose.abs_long.x ∈ wsX11_commonDivisor ∧ Cond.initialized "java/lang/Math" ∈ wsX11_commonDivisor ∧ Cond.code Lib.MathLoose.abs_long.x Lib.MathLoose.abs_long.code 2 (some .long) ∈ wsX11_commonDivisor := by decide +kernel
def xX11_commonDivisor_L15 (w0 : Int64) (w1 : Int64) (w2 : Int32) : Option ((Int64 × Int64 × Int32) ⊕ Int64) :=
  if (100 : Int32) ≤ w2 then
  (some (.inr w0))
  else
  if (lg_cmp w1 (0 : Int64)) = 0 then
  (some (.inr w0))
  else
  if w1 = 0 then none else
  zlet (w0 - w0 / w1 * w1) fun z4 =>
  some (.inl (w1, z4, (w2 + (1 : Int32))))
set_option maxHeartbeats 4000000 in
set_option maxRecDepth 100000 in
theorem tX11_commonDivisor_L15 {κ : Nat → ClassId} {E : zEn} {ws : va_W} {X : zX} {w0 : Int64} {w1 : Int64} {w2 : Int32} {r : ((Int64 × Int64 × Int32) ⊕ Int64)} (hC : zC X cX11_commonDivisor RX11 wsX11_commonDivisor vwCl (zty κ) E 11 ({ frames := 1, cells := 0, slots := 0, locals := 21 } : Room)) (hEk : zEk E) (hin : ∀ (x0' : Int64) (x1' : Int64) (x2' : Int32), r = .inl (x0', x1', x2') → zV X 0 0 ws [(4, .long x0'), (6, .long x1'), (8, .int x2')] [] 15) (hout0 : ∀ (x0' : Int64), r = .inr x0' → zV X 0 0 ws [(4, .long x0')] [] 50) (h : xX11_commonDivisor_L15   w0 w1 w2 = some r) : zV X 0 0 ws [(4, .long w0), (6, .long w1), (8, .int w2)] [] 15 := by
  unfold xX11_commonDivisor_L15 at h
  refine zr_iload (pc := 15) hC 2 rfl dX11_commonDivisor_15 ?_
  refine zr_bipush (pc := 17) hC zkb_100 dX11_commonDivisor_17 ?_
  refine zr_icmp_ge (pc := 19) (tgt := 50) hC dX11_commonDivisor_19 (by decide) (fun c1 => ?_) (fun c1 => ?_)
  · replace h := zip h c1
    obtain rfl := Option.some.inj h
    exact zV.sub (lv' := [(4, .long w0)]) [0] rfl (hout0 w0 rfl)
  · replace h := zin h c1
    refine zr_lload (pc := 22) hC 1 rfl dX11_commonDivisor_22 ?_
    refine zr_lconst (pc := 24) hC zkl_0 dX11_commonDivisor_24 ?_
    refine zr_lcmp (pc := 25) hC dX11_commonDivisor_25 ?_
    refine zr_if_eq (pc := 26) (tgt := 50) hC dX11_commonDivisor_26 (by decide) (fun c2 => ?_) (fun c2 => ?_)
    · replace h := zip h c2
      obtain rfl := Option.some.inj h
      exact zV.sub (lv' := [(4, .long w0)]) [0] rfl (hout0 w0 rfl)
    · replace h := zin h c2
      refine zr_lload (pc := 29) hC 0 rfl dX11_commonDivisor_29 ?_
      refine zr_lload (pc := 31) hC 1 rfl dX11_commonDivisor_31 ?_
      obtain ⟨n3, h⟩ := zgd h
      refine zr_lrem (pc := 33) hC n3 dX11_commonDivisor_33 ?_
      obtain ⟨z4, e5, h⟩ := zle h
      refine zr_topl e5 ?_
      refine zr_lstore (pc := 34) (lv' := [(9, .long z4), (4, .long w0), (6, .long w1), (8, .int w2)]) hC (by decide) rfl dX11_commonDivisor_34 ?_
      refine zr_lload (pc := 36) hC 2 rfl dX11_commonDivisor_36 ?_
      refine zr_lstore (pc := 38) (lv' := [(4, .long w1), (9, .long z4), (6, .long w1), (8, .int w2)]) hC (by decide) rfl dX11_commonDivisor_38 ?_
      refine zr_lload (pc := 40) hC 1 rfl dX11_commonDivisor_40 ?_
      refine zr_lstore (pc := 42) (lv' := [(6, .long z4), (4, .long w1), (9, .long z4), (8, .int w2)]) hC (by decide) rfl dX11_commonDivisor_42 ?_
      refine zr_iinc (pc := 44) (k := 3) (lv' := [(8, .int (w2 + (1 : Int32))), (6, .long z4), (4, .long w1), (9, .long z4)]) hC zki_1 (by decide) rfl rfl dX11_commonDivisor_44 ?_
      refine zr_goto (pc := 47) (tgt := 15) hC dX11_commonDivisor_47 (by decide) ?_
      obtain rfl := Option.some.inj h
      exact zV.sub (lv' := [(4, .long w1), (6, .long z4), (8, .int (w2 + (1 : Int32)))]) [2, 1, 0] rfl (hin w1 z4 (w2 + (1 : Int32)) rfl)
def xX11_commonDivisor  (v0 : Int64) (v2 : Int64) : Option Int64 :=
  zlet (if 0 < v0 then v0 else -v0) fun z1 =>
  zlet (if 0 < v2 then v2 else -v2) fun z3 =>
  (x_it (fun a9 => xX11_commonDivisor_L15 a9.1 a9.2.1 a9.2.2) zFU (z1, z3, (0 : Int32))).bind fun q5 =>
  some q5
set_option maxHeartbeats 4000000 in
set_option maxRecDepth 100000 in
theorem tX11_commonDivisor {κ : Nat → ClassId} {E : zEn} {ws : va_W} (hEk : zEk E)  {v0 : Int64} {v2 : Int64} {res : Int64} (h : xX11_commonDivisor  v0 v2 = some res) (l : Launch) (D : va_G) : zCT E D vwCl (zty κ) l yX11_commonDivisor wsX11_commonDivisor ({ frames := 1, cells := 0, slots := 0, locals := 21 } : Room) 0 0 [.long v0, .long v2] ws (zPd (some (.long res)) ws) := by
  refine zCT.of (cc := cX11_commonDivisor) (maxL := 11) (ret := (some .long)) (by decide) rfl (Nat.le_of_ble_eq_true rfl) ?_
  intro X hC hR
  unfold xX11_commonDivisor at h
  refine zV.sub (lv' := [(0, .long v0), (2, .long v2)]) [0, 1] rfl ?_
  refine zr_lload_n (pc := 0) hC 0 rfl rfl dX11_commonDivisor_0 ?_
  refine zr_mabsl (pc := 1) hC lwX11_commonDivisor_286 (Nat.le_of_ble_eq_true rfl) (Nat.le_of_ble_eq_true rfl) (Nat.le_of_ble_eq_true rfl) (Nat.le_of_ble_eq_true rfl) dX11_commonDivisor_1 ?_
  obtain ⟨z1, e2, h⟩ := zle h
  refine zr_topl e2 ?_
  refine zr_lstore (pc := 4) (lv' := [(4, .long z1), (0, .long v0), (2, .long v2)]) hC (by decide) rfl dX11_commonDivisor_4 ?_
  refine zr_lload_n (pc := 6) hC 2 rfl rfl dX11_commonDivisor_6 ?_
  refine zr_mabsl (pc := 7) hC lwX11_commonDivisor_286 (Nat.le_of_ble_eq_true rfl) (Nat.le_of_ble_eq_true rfl) (Nat.le_of_ble_eq_true rfl) (Nat.le_of_ble_eq_true rfl) dX11_commonDivisor_7 ?_
  obtain ⟨z3, e4, h⟩ := zle h
  refine zr_topl e4 ?_
  refine zr_lstore (pc := 10) (lv' := [(6, .long z3), (4, .long z1), (0, .long v0), (2, .long v2)]) hC (by decide) rfl dX11_commonDivisor_10 ?_
  refine zr_iconst (pc := 12) hC zki_0 dX11_commonDivisor_12 ?_
  refine zr_istore (pc := 13) (lv' := [(8, .int (0 : Int32)), (6, .long z3), (4, .long z1), (0, .long v0), (2, .long v2)]) hC (by decide) rfl dX11_commonDivisor_13 ?_
  obtain ⟨q5, hq5, h⟩ := zbd h
  refine zV.sub (lv' := [(4, .long z1), (6, .long z3), (8, .int (0 : Int32))]) [2, 1, 0] rfl ?_
  refine zit3 (Wp := fun (y0 : Int64) (y1 : Int64) (y2 : Int32) => zV X 0 0 ws [(4, .long y0), (6, .long y1), (8, .int y2)] [] 15) (Ex := fun (b9 : Int64) => zV X 0 0 ws [(4, .long b9)] [] 50) (fun y0 y1 y2 r9 hr hin hout => tX11_commonDivisor_L15 hC hEk hin (fun z0 e9 => hout z0 e9) hr) zFU z1 z3 (0 : Int32) q5 hq5 ?_
  show zV X 0 0 ws [(4, .long q5)] [] 50
  refine zr_lload (pc := 50) hC 0 rfl dX11_commonDivisor_50 ?_
  obtain rfl := Option.some.inj h
  exact zr_lret hC hR ⟨rfl, rfl⟩ (Nat.le_refl _) (Nat.le_refl _) dX11_commonDivisor_52
/-! X11_parted -/
theorem hyX11_parted : yX11_parted.cls ≠ "java/lang/invoke/MethodHandle" ∧ yX11_parted.cls ≠ "java/lang/invoke/VarHandle" ∧ (parseMethodDescriptor yX11_parted.desc).map (fun d => d.parameters.length) = some 2 := by decide +kernel
def xX11_parted  (v0 : Int64) (v2 : Int64) : Option Int64 :=
  if (lg_cmp v2 (0 : Int64)) = 0 then
  (some (0 : Int64))
  else
  if v2 = 0 then none else
  some (v0 / v2)
set_option maxHeartbeats 4000000 in
set_option maxRecDepth 100000 in
theorem tX11_parted {κ : Nat → ClassId} {E : zEn} {ws : va_W} (hEk : zEk E)  {v0 : Int64} {v2 : Int64} {res : Int64} (h : xX11_parted  v0 v2 = some res) (l : Launch) (D : va_G) : zCT E D vwCl (zty κ) l yX11_parted wsX11_parted ({ frames := 0, cells := 0, slots := 0, locals := 0 } : Room) 0 0 [.long v0, .long v2] ws (zPd (some (.long res)) ws) := by
  refine zCT.of (cc := cX11_parted) (maxL := 4) (ret := (some .long)) (by decide) rfl (Nat.le_of_ble_eq_true rfl) ?_
  intro X hC hR
  unfold xX11_parted at h
  refine zV.sub (lv' := [(0, .long v0), (2, .long v2)]) [0, 1] rfl ?_
  refine zr_lload_n (pc := 0) hC 1 rfl rfl dX11_parted_0 ?_
  refine zr_lconst (pc := 1) hC zkl_0 dX11_parted_1 ?_
  refine zr_lcmp (pc := 2) hC dX11_parted_2 ?_
  refine zr_if_ne (pc := 3) (tgt := 10) hC dX11_parted_3 (by decide) (fun c1 => ?_) (fun c1 => ?_)
  · replace h := zin h c1
    refine zr_lload_n (pc := 10) hC 0 rfl rfl dX11_parted_10 ?_
    refine zr_lload_n (pc := 11) hC 1 rfl rfl dX11_parted_11 ?_
    obtain ⟨n2, h⟩ := zgd h
    refine zr_ldiv (pc := 12) hC n2 dX11_parted_12 ?_
    obtain rfl := Option.some.inj h
    exact zr_lret hC hR ⟨rfl, rfl⟩ (Nat.le_refl _) (Nat.le_refl _) dX11_parted_13
  · replace h := zip h c1
    refine zr_lconst (pc := 6) hC zkl_0 dX11_parted_6 ?_
    refine zr_goto (pc := 7) (tgt := 13) hC dX11_parted_7 (by decide) ?_
    obtain rfl := Option.some.inj h
    exact zr_lret hC hR ⟨rfl, rfl⟩ (Nat.le_refl _) (Nat.le_refl _) dX11_parted_13
/-! X10_addShares -/
theorem hyX10_addShares : yX10_addShares.cls = RX10 ∧ yX10_addShares.cls ≠ "java/lang/invoke/MethodHandle" ∧ yX10_addShares.cls ≠ "java/lang/invoke/VarHandle" ∧ (parseMethodDescriptor yX10_addShares.desc).map (fun d => d.parameters.length) = some 2 := by decide +kernel
theorem flX10_addShares_40 : Cond.fieldLink RX10 40 "BeforeTheEnd$Tree" "step" "[J" ∈ wsX10_addShares := by decide +kernel
theorem flX10_addShares_48 : Cond.fieldLink RX10 48 "BeforeTheEnd$Tree" "share" "[[J" ∈ wsX10_addShares := by decide +kernel
theorem flX10_addShares_51 : Cond.fieldLink RX10 51 "BeforeTheEnd$Tree" "far" "[[J" ∈ wsX10_addShares := by decide +kernel
theorem hinX10_addShares_X10 : ∀ w ∈ wsX100, w ∈ wsX10_addShares := fun _ h => List.mem_cons_of_mem _ (List.mem_append_right _ h)
def xX10_addShares_L19 (v1 : Int32) (v2 : Int32) (w0 : zM) (w1 : Int32) : Option ((zM × Int32) ⊕ zM) :=
  if (10 : Int32) ≤ w1 then
  (some (.inr w0))
  else
  if (v1 < 0 ∨ 24 ≤ v1.toNatClampNeg) then none else
  if (w1 < 0 ∨ 10 ≤ w1.toNatClampNeg) then none else
  if (v2 < 0 ∨ 24 ≤ v2.toNatClampNeg) then none else
  zlet (zsj w0 (14 + v1.toNatClampNeg) w1.toNatClampNeg ((w0.2 (14 + v1.toNatClampNeg) w1.toNatClampNeg) + ((w0.2 10 v2.toNatClampNeg) * (w0.2 (14 + v2.toNatClampNeg) w1.toNatClampNeg)))) fun M5 =>
  zlet (zsj M5 (38 + v1.toNatClampNeg) w1.toNatClampNeg ((M5.2 (38 + v1.toNatClampNeg) w1.toNatClampNeg) + ((M5.2 10 v2.toNatClampNeg) * ((M5.2 (38 + v2.toNatClampNeg) w1.toNatClampNeg) + (M5.2 (14 + v2.toNatClampNeg) w1.toNatClampNeg))))) fun M7 =>
  some (.inl (M7, (w1 + (1 : Int32))))
set_option maxHeartbeats 4000000 in
set_option maxRecDepth 100000 in
theorem tX10_addShares_L19 {κ : Nat → ClassId} {tg : Nat} {S : zEn} {ad : Nat → Nat} {X : zX} {pR : zM} {pX : zM} {pF : zM} {pB : zM} {pP : zP} {v1 : Int32} {v2 : Int32} {w0 : zM} {w1 : Int32} {r : ((zM × Int32) ⊕ zM)} (hC : zC X cX10_addShares RX10 wsX10_addShares vwCl (zty κ) (zE tg S) 4 ({ frames := 1, cells := 0, slots := 0, locals := 21 } : Room)) (hEk : zEk (zE tg S)) (hin : ∀ (x0' : zM) (x1' : Int32), r = .inl (x0', x1') → zV X 0 0 (zwC κ ad x0' pR pX pF pB pP) [(0, .ref (ad 0)), (1, .int v1), (2, .int v2), (3, .int x1')] [] 19) (hout0 : ∀ (x0' : zM), r = .inr x0' → zV X 0 0 (zwC κ ad x0' pR pX pF pB pP) [] [] 92) (h : xX10_addShares_L19  v1 v2 w0 w1 = some r) : zV X 0 0 (zwC κ ad w0 pR pX pF pB pP) [(0, .ref (ad 0)), (1, .int v1), (2, .int v2), (3, .int w1)] [] 19 := by
  unfold xX10_addShares_L19 at h
  refine zr_iload_n (pc := 19) hC 3 rfl rfl dX10_addShares_19 ?_
  refine zr_bipush (pc := 20) hC zkb_10 dX10_addShares_20 ?_
  refine zr_icmp_ge (pc := 22) (tgt := 92) hC dX10_addShares_22 (by decide) (fun c1 => ?_) (fun c1 => ?_)
  · replace h := zip h c1
    obtain rfl := Option.some.inj h
    exact zV.sub (lv' := []) [] rfl (hout0 w0 rfl)
  · replace h := zin h c1
    refine zr_aload_n (pc := 25) hC 0 rfl rfl dX10_addShares_25 ?_
    refine zcg_0_11 (pc := 26) hC hinX10_addShares_X10 flX10_addShares_48 dX10_addShares_26 ?_
    refine zr_iload_n (pc := 29) hC 1 rfl rfl dX10_addShares_29 ?_
    obtain ⟨i2, h⟩ := zgd h
    refine zcr_12 (pc := 30) hC i2 dX10_addShares_30 ?_
    refine zr_iload_n (pc := 31) hC 3 rfl rfl dX10_addShares_31 ?_
    refine zr_dup2 (pc := 32) hC rfl rfl dX10_addShares_32 ?_
    obtain ⟨i3, h⟩ := zgd h
    refine zrl_14 (pc := 33) hC i2 i3 dX10_addShares_33 ?_
    refine zr_aload_n (pc := 34) hC 0 rfl rfl dX10_addShares_34 ?_
    refine zcg_0_9 (pc := 35) hC hinX10_addShares_X10 flX10_addShares_40 dX10_addShares_35 ?_
    refine zr_iload_n (pc := 38) hC 2 rfl rfl dX10_addShares_38 ?_
    obtain ⟨i4, h⟩ := zgd h
    refine zcl_10 (pc := 39) hC i4 dX10_addShares_39 ?_
    refine zr_aload_n (pc := 40) hC 0 rfl rfl dX10_addShares_40 ?_
    refine zcg_0_11 (pc := 41) hC hinX10_addShares_X10 flX10_addShares_48 dX10_addShares_41 ?_
    refine zr_iload_n (pc := 44) hC 2 rfl rfl dX10_addShares_44 ?_
    refine zcr_12 (pc := 45) hC i4 dX10_addShares_45 ?_
    refine zr_iload_n (pc := 46) hC 3 rfl rfl dX10_addShares_46 ?_
    refine zrl_14 (pc := 47) hC i4 i3 dX10_addShares_47 ?_
    refine zr_lmul (pc := 48) hC dX10_addShares_48 ?_
    refine zr_ladd (pc := 49) hC dX10_addShares_49 ?_
    obtain ⟨M5, e6, h⟩ := zle h
    refine zrs_14 (pc := 50) hC i2 i3 e6 dX10_addShares_50 ?_
    refine zr_aload_n (pc := 51) hC 0 rfl rfl dX10_addShares_51 ?_
    refine zcg_0_12 (pc := 52) hC hinX10_addShares_X10 flX10_addShares_51 dX10_addShares_52 ?_
    refine zr_iload_n (pc := 55) hC 1 rfl rfl dX10_addShares_55 ?_
    refine zcr_13 (pc := 56) hC i2 dX10_addShares_56 ?_
    refine zr_iload_n (pc := 57) hC 3 rfl rfl dX10_addShares_57 ?_
    refine zr_dup2 (pc := 58) hC rfl rfl dX10_addShares_58 ?_
    refine zrl_38 (pc := 59) hC i2 i3 dX10_addShares_59 ?_
    refine zr_aload_n (pc := 60) hC 0 rfl rfl dX10_addShares_60 ?_
    refine zcg_0_9 (pc := 61) hC hinX10_addShares_X10 flX10_addShares_40 dX10_addShares_61 ?_
    refine zr_iload_n (pc := 64) hC 2 rfl rfl dX10_addShares_64 ?_
    refine zcl_10 (pc := 65) hC i4 dX10_addShares_65 ?_
    refine zr_aload_n (pc := 66) hC 0 rfl rfl dX10_addShares_66 ?_
    refine zcg_0_12 (pc := 67) hC hinX10_addShares_X10 flX10_addShares_51 dX10_addShares_67 ?_
    refine zr_iload_n (pc := 70) hC 2 rfl rfl dX10_addShares_70 ?_
    refine zcr_13 (pc := 71) hC i4 dX10_addShares_71 ?_
    refine zr_iload_n (pc := 72) hC 3 rfl rfl dX10_addShares_72 ?_
    refine zrl_38 (pc := 73) hC i4 i3 dX10_addShares_73 ?_
    refine zr_aload_n (pc := 74) hC 0 rfl rfl dX10_addShares_74 ?_
    refine zcg_0_11 (pc := 75) hC hinX10_addShares_X10 flX10_addShares_48 dX10_addShares_75 ?_
    refine zr_iload_n (pc := 78) hC 2 rfl rfl dX10_addShares_78 ?_
    refine zcr_12 (pc := 79) hC i4 dX10_addShares_79 ?_
    refine zr_iload_n (pc := 80) hC 3 rfl rfl dX10_addShares_80 ?_
    refine zrl_14 (pc := 81) hC i4 i3 dX10_addShares_81 ?_
    refine zr_ladd (pc := 82) hC dX10_addShares_82 ?_
    refine zr_lmul (pc := 83) hC dX10_addShares_83 ?_
    refine zr_ladd (pc := 84) hC dX10_addShares_84 ?_
    obtain ⟨M7, e8, h⟩ := zle h
    refine zrs_38 (pc := 85) hC i2 i3 e8 dX10_addShares_85 ?_
    refine zr_iinc (pc := 86) (k := 3) (lv' := [(3, .int (w1 + (1 : Int32))), (0, .ref (ad 0)), (1, .int v1), (2, .int v2)]) hC zki_1 (by decide) rfl rfl dX10_addShares_86 ?_
    refine zr_goto (pc := 89) (tgt := 19) hC dX10_addShares_89 (by decide) ?_
    obtain rfl := Option.some.inj h
    exact zV.sub (lv' := [(0, .ref (ad 0)), (1, .int v1), (2, .int v2), (3, .int (w1 + (1 : Int32)))]) [1, 2, 3, 0] rfl (hin M7 (w1 + (1 : Int32)) rfl)
def xX10_addShares (pT : zM) (v1 : Int32) (v2 : Int32) : Option zM :=
  (xX10_has pT v1).bind fun q1 =>
  if q1 = 0 then
  (some pT)
  else
  (xX10_has pT v2).bind fun q3 =>
  if q3 = 0 then
  (some pT)
  else
  (x_it (fun a9 => xX10_addShares_L19 v1 v2 a9.1 a9.2) zFU (pT, (1 : Int32))).bind fun q5 =>
  some q5
set_option maxHeartbeats 4000000 in
set_option maxRecDepth 100000 in
theorem tX10_addShares {κ : Nat → ClassId} {tg : Nat} {S : zEn} {ad : Nat → Nat} (hEk : zEk (zE tg S)) {pT : zM} {pR : zM} {pX : zM} {pF : zM} {pB : zM} {pP : zP} {v1 : Int32} {v2 : Int32} {res : zM} (h : xX10_addShares pT v1 v2 = some res) (l : Launch) (D : va_G) : zCT (zE tg S) D vwCl (zty κ) l yX10_addShares wsX10_addShares ({ frames := 1, cells := 0, slots := 0, locals := 21 } : Room) 0 0 [.ref (ad 0), .int v1, .int v2] (zwC κ ad pT pR pX pF pB pP) (zPd none (zwC κ ad res pR pX pF pB pP)) := by
  refine zCT.of (cc := cX10_addShares) (maxL := 4) (ret := none) (by decide) rfl (Nat.le_of_ble_eq_true rfl) ?_
  intro X hC hR
  unfold xX10_addShares at h
  refine zV.sub (lv' := [(0, .ref (ad 0)), (1, .int v1), (2, .int v2)]) [0, 1, 2] rfl ?_
  refine zr_aload_n (pc := 0) hC 0 rfl rfl dX10_addShares_0 ?_
  refine zr_iload_n (pc := 1) hC 1 rfl rfl dX10_addShares_1 ?_
  obtain ⟨q1, hq1, h⟩ := zbd h
  refine zr_cVi (pc := 2) hC hEk [.int v1] [] 0 1 (fun l D => tX10_has hEk hq1 l D) gX10_addShares_X10_has rfl rfl rfl ⟨Nat.le_of_ble_eq_true rfl, Nat.le_of_ble_eq_true rfl⟩ hyX10_has (zNC (by decide)) entC_0 rfl rfl rfl (Nat.le_of_ble_eq_true rfl) ⟨Nat.le_of_ble_eq_true rfl, Nat.le_of_ble_eq_true rfl⟩ dX10_addShares_2 ?_
  refine zr_if_eq (pc := 5) (tgt := 16) hC dX10_addShares_5 (by decide) (fun c2 => ?_) (fun c2 => ?_)
  · replace h := zip h c2
    obtain rfl := Option.some.inj h
    exact zr_vret hC hR ⟨rfl, rfl⟩ (Nat.le_refl _) (Nat.le_refl _) dX10_addShares_16
  · replace h := zin h c2
    refine zr_aload_n (pc := 8) hC 0 rfl rfl dX10_addShares_8 ?_
    refine zr_iload_n (pc := 9) hC 2 rfl rfl dX10_addShares_9 ?_
    obtain ⟨q3, hq3, h⟩ := zbd h
    refine zr_cVi (pc := 10) hC hEk [.int v2] [] 0 1 (fun l D => tX10_has hEk hq3 l D) gX10_addShares_X10_has rfl rfl rfl ⟨Nat.le_of_ble_eq_true rfl, Nat.le_of_ble_eq_true rfl⟩ hyX10_has (zNC (by decide)) entC_0 rfl rfl rfl (Nat.le_of_ble_eq_true rfl) ⟨Nat.le_of_ble_eq_true rfl, Nat.le_of_ble_eq_true rfl⟩ dX10_addShares_10 ?_
    refine zr_if_ne (pc := 13) (tgt := 17) hC dX10_addShares_13 (by decide) (fun c4 => ?_) (fun c4 => ?_)
    · replace h := zin h c4
      refine zr_iconst (pc := 17) hC zki_1 dX10_addShares_17 ?_
      refine zr_istore_n (pc := 18) (lv' := [(3, .int (1 : Int32)), (0, .ref (ad 0)), (1, .int v1), (2, .int v2)]) hC rfl (by decide) rfl dX10_addShares_18 ?_
      obtain ⟨q5, hq5, h⟩ := zbd h
      refine zV.sub (lv' := [(0, .ref (ad 0)), (1, .int v1), (2, .int v2), (3, .int (1 : Int32))]) [1, 2, 3, 0] rfl ?_
      refine zit2 (Wp := fun (y0 : zM) (y1 : Int32) => zV X 0 0 (zwC κ ad y0 pR pX pF pB pP) [(0, .ref (ad 0)), (1, .int v1), (2, .int v2), (3, .int y1)] [] 19) (Ex := fun (b9 : zM) => zV X 0 0 (zwC κ ad b9 pR pX pF pB pP) [] [] 92) (fun y0 y1 r9 hr hin hout => tX10_addShares_L19 hC hEk hin (fun z0 e9 => hout z0 e9) hr) zFU pT (1 : Int32) q5 hq5 ?_
      show zV X 0 0 (zwC κ ad q5 pR pX pF pB pP) [] [] 92
      obtain rfl := Option.some.inj h
      exact zr_vret hC hR ⟨rfl, rfl⟩ (Nat.le_refl _) (Nat.le_refl _) dX10_addShares_92
    · replace h := zip h c4
      obtain rfl := Option.some.inj h
      exact zr_vret hC hR ⟨rfl, rfl⟩ (Nat.le_refl _) (Nat.le_refl _) dX10_addShares_16
