/-! X12_no -/
theorem hyX12_no : yX12_no.cls = RX12 ∧ yX12_no.cls ≠ "java/lang/invoke/MethodHandle" ∧ yX12_no.cls ≠ "java/lang/invoke/VarHandle" ∧ (parseMethodDescriptor yX12_no.desc).map (fun d => d.parameters.length) = some 1 := by decide +kernel
theorem flX12_no_7 : Cond.fieldLink RX12 7 "BeforeTheEndModel" "refused" "[I" ∈ wsX12_no := by decide +kernel
theorem hinX12_no_X12 : ∀ w ∈ wsX120, w ∈ wsX12_no := fun _ h => List.mem_cons_of_mem _ (List.mem_append_right _ h)
def xX12_no (M : zM) (v1 : Int32) : Option (Int32 × zM) :=
  if ((-v1) < 0 ∨ 7 ≤ (-v1).toNatClampNeg) then none else
  zlet (zsi M 1 (-v1).toNatClampNeg ((M.1 1 (-v1).toNatClampNeg) + (1 : Int32))) fun M2 =>
  some (v1, M2)
set_option maxHeartbeats 4000000 in
set_option maxRecDepth 100000 in
theorem tX12_no {κ : Nat → ClassId} {E : zEn} {ad : Nat → Nat} (hEk : zEk E) {M : zM} {v1 : Int32} {res : (Int32 × zM)} (h : xX12_no M v1 = some res) (l : Launch) (D : va_G) : zCT E D vwCl (zty κ) l yX12_no wsX12_no ({ frames := 0, cells := 0, slots := 0, locals := 0 } : Room) 0 0 [.ref (ad 0), .int v1] (zwM κ ad M) (zPd (some (.int res.1)) (zwM κ ad res.2)) := by
  refine zCT.of (cc := cX12_no) (maxL := 2) (ret := (some .int)) (by decide) rfl (Nat.le_of_ble_eq_true rfl) ?_
  intro X hC hR
  unfold xX12_no at h
  refine zV.sub (lv' := [(0, .ref (ad 0)), (1, .int v1)]) [0, 1] rfl ?_
  refine zr_aload_n (pc := 0) hC 0 rfl rfl dX12_no_0 ?_
  refine zmg_0 (pc := 1) hC hinX12_no_X12 flX12_no_7 dX12_no_1 ?_
  refine zr_iload_n (pc := 4) hC 1 rfl rfl dX12_no_4 ?_
  refine zr_ineg (pc := 5) hC dX12_no_5 ?_
  refine zr_dup2 (pc := 6) hC rfl rfl dX12_no_6 ?_
  obtain ⟨i1, h⟩ := zgd h
  refine zml_1 (pc := 7) hC i1 dX12_no_7 ?_
  refine zr_iconst (pc := 8) hC zki_1 dX12_no_8 ?_
  refine zr_iadd (pc := 9) hC dX12_no_9 ?_
  obtain ⟨M2, e3, h⟩ := zle h
  refine zms_1 (pc := 10) hC i1 e3 dX12_no_10 ?_
  refine zr_iload_n (pc := 11) hC 1 rfl rfl dX12_no_11 ?_
  obtain rfl := Option.some.inj h
  exact zr_iret hC hR ⟨rfl, rfl⟩ (Nat.le_refl _) (Nat.le_refl _) dX12_no_12
/-! X12_lower -/
theorem hyX12_lower : yX12_lower.cls = RX12 ∧ yX12_lower.cls ≠ "java/lang/invoke/MethodHandle" ∧ yX12_lower.cls ≠ "java/lang/invoke/VarHandle" ∧ (parseMethodDescriptor yX12_lower.desc).map (fun d => d.parameters.length) = some 1 := by decide +kernel
theorem flX12_lower_111 : Jvm.Cond.constant RX12 111 (1000000000) ∈ wsX12_lower := by decide +kernel
theorem flX12_lower_7 : Cond.fieldLink RX12 7 "BeforeTheEndModel" "refused" "[I" ∈ wsX12_lower := by decide +kernel
theorem hinX12_lower_X12 : ∀ w ∈ wsX120, w ∈ wsX12_lower := fun _ h => List.mem_cons_of_mem _ (List.mem_append_right _ h)
def xX12_lower (M : zM) (v1 : Int32) : Option (Int32 × zM) :=
  if ((-v1) < 0 ∨ 7 ≤ (-v1).toNatClampNeg) then none else
  zlet (zsi M 1 (-v1).toNatClampNeg ((M.1 1 (-v1).toNatClampNeg) + (1 : Int32))) fun M2 =>
  some (((1000000000 : Int32) - v1), M2)
set_option maxHeartbeats 4000000 in
set_option maxRecDepth 100000 in
theorem tX12_lower {κ : Nat → ClassId} {E : zEn} {ad : Nat → Nat} (hEk : zEk E) {M : zM} {v1 : Int32} {res : (Int32 × zM)} (h : xX12_lower M v1 = some res) (l : Launch) (D : va_G) : zCT E D vwCl (zty κ) l yX12_lower wsX12_lower ({ frames := 0, cells := 0, slots := 0, locals := 0 } : Room) 0 0 [.ref (ad 0), .int v1] (zwM κ ad M) (zPd (some (.int res.1)) (zwM κ ad res.2)) := by
  refine zCT.of (cc := cX12_lower) (maxL := 2) (ret := (some .int)) (by decide) rfl (Nat.le_of_ble_eq_true rfl) ?_
  intro X hC hR
  unfold xX12_lower at h
  refine zV.sub (lv' := [(0, .ref (ad 0)), (1, .int v1)]) [0, 1] rfl ?_
  refine zr_aload_n (pc := 0) hC 0 rfl rfl dX12_lower_0 ?_
  refine zmg_0 (pc := 1) hC hinX12_lower_X12 flX12_lower_7 dX12_lower_1 ?_
  refine zr_iload_n (pc := 4) hC 1 rfl rfl dX12_lower_4 ?_
  refine zr_ineg (pc := 5) hC dX12_lower_5 ?_
  refine zr_dup2 (pc := 6) hC rfl rfl dX12_lower_6 ?_
  obtain ⟨i1, h⟩ := zgd h
  refine zml_1 (pc := 7) hC i1 dX12_lower_7 ?_
  refine zr_iconst (pc := 8) hC zki_1 dX12_lower_8 ?_
  refine zr_iadd (pc := 9) hC dX12_lower_9 ?_
  obtain ⟨M2, e3, h⟩ := zle h
  refine zms_1 (pc := 10) hC i1 e3 dX12_lower_10 ?_
  refine zr_ldc (pc := 11) hC flX12_lower_111 dX12_lower_11 ?_
  refine zr_iload_n (pc := 13) hC 1 rfl rfl dX12_lower_13 ?_
  refine zr_isub (pc := 14) hC dX12_lower_14 ?_
  obtain rfl := Option.some.inj h
  exact zr_iret hC hR ⟨rfl, rfl⟩ (Nat.le_refl _) (Nat.le_refl _) dX12_lower_15
/-! X12_noLong -/
theorem hyX12_noLong : yX12_noLong.cls = RX12 ∧ yX12_noLong.cls ≠ "java/lang/invoke/MethodHandle" ∧ yX12_noLong.cls ≠ "java/lang/invoke/VarHandle" ∧ (parseMethodDescriptor yX12_noLong.desc).map (fun d => d.parameters.length) = some 1 := by decide +kernel
theorem flX12_noLong_112 : Jvm.Cond.constantLong RX12 112 (4000000000000000000) ∈ wsX12_noLong := by decide +kernel
theorem flX12_noLong_7 : Cond.fieldLink RX12 7 "BeforeTheEndModel" "refused" "[I" ∈ wsX12_noLong := by decide +kernel
theorem hinX12_noLong_X12 : ∀ w ∈ wsX120, w ∈ wsX12_noLong := fun _ h => List.mem_cons_of_mem _ (List.mem_append_right _ h)
def xX12_noLong (M : zM) (v1 : Int32) : Option (Int64 × zM) :=
  if ((-v1) < 0 ∨ 7 ≤ (-v1).toNatClampNeg) then none else
  zlet (zsi M 1 (-v1).toNatClampNeg ((M.1 1 (-v1).toNatClampNeg) + (1 : Int32))) fun M2 =>
  some (((4000000000000000000 : Int64) - v1.toInt64), M2)
set_option maxHeartbeats 4000000 in
set_option maxRecDepth 100000 in
theorem tX12_noLong {κ : Nat → ClassId} {E : zEn} {ad : Nat → Nat} (hEk : zEk E) {M : zM} {v1 : Int32} {res : (Int64 × zM)} (h : xX12_noLong M v1 = some res) (l : Launch) (D : va_G) : zCT E D vwCl (zty κ) l yX12_noLong wsX12_noLong ({ frames := 0, cells := 0, slots := 0, locals := 0 } : Room) 0 0 [.ref (ad 0), .int v1] (zwM κ ad M) (zPd (some (.long res.1)) (zwM κ ad res.2)) := by
  refine zCT.of (cc := cX12_noLong) (maxL := 2) (ret := (some .long)) (by decide) rfl (Nat.le_of_ble_eq_true rfl) ?_
  intro X hC hR
  unfold xX12_noLong at h
  refine zV.sub (lv' := [(0, .ref (ad 0)), (1, .int v1)]) [0, 1] rfl ?_
  refine zr_aload_n (pc := 0) hC 0 rfl rfl dX12_noLong_0 ?_
  refine zmg_0 (pc := 1) hC hinX12_noLong_X12 flX12_noLong_7 dX12_noLong_1 ?_
  refine zr_iload_n (pc := 4) hC 1 rfl rfl dX12_noLong_4 ?_
  refine zr_ineg (pc := 5) hC dX12_noLong_5 ?_
  refine zr_dup2 (pc := 6) hC rfl rfl dX12_noLong_6 ?_
  obtain ⟨i1, h⟩ := zgd h
  refine zml_1 (pc := 7) hC i1 dX12_noLong_7 ?_
  refine zr_iconst (pc := 8) hC zki_1 dX12_noLong_8 ?_
  refine zr_iadd (pc := 9) hC dX12_noLong_9 ?_
  obtain ⟨M2, e3, h⟩ := zle h
  refine zms_1 (pc := 10) hC i1 e3 dX12_noLong_10 ?_
  refine zr_ldc2 (pc := 11) hC flX12_noLong_112 dX12_noLong_11 ?_
  refine zr_iload_n (pc := 14) hC 1 rfl rfl dX12_noLong_14 ?_
  refine zr_i2l (pc := 15) hC dX12_noLong_15 ?_
  refine zr_lsub (pc := 16) hC dX12_noLong_16 ?_
  obtain rfl := Option.some.inj h
  exact zr_lret hC hR ⟨rfl, rfl⟩ (Nat.le_refl _) (Nat.le_refl _) dX12_noLong_17
/-! X12_isIn -/
theorem hyX12_isIn : yX12_isIn.cls ≠ "java/lang/invoke/MethodHandle" ∧ yX12_isIn.cls ≠ "java/lang/invoke/VarHandle" ∧ (parseMethodDescriptor yX12_isIn.desc).map (fun d => d.parameters.length) = some 3 := by decide +kernel
def xX12_isIn  (v0 : Int32) (v1 : Int32) (v2 : Int32) : Option Int32 :=
  if v0 < v1 then
  (some (0 : Int32))
  else
  if v2 < v0 then
  (some (0 : Int32))
  else
  some (1 : Int32)
set_option maxHeartbeats 4000000 in
set_option maxRecDepth 100000 in
theorem tX12_isIn {κ : Nat → ClassId} {E : zEn} {ws : va_W} (hEk : zEk E)  {v0 : Int32} {v1 : Int32} {v2 : Int32} {res : Int32} (h : xX12_isIn  v0 v1 v2 = some res) (l : Launch) (D : va_G) : zCT E D vwCl (zty κ) l yX12_isIn wsX12_isIn ({ frames := 0, cells := 0, slots := 0, locals := 0 } : Room) 0 0 [.int v0, .int v1, .int v2] ws (zPd (some (.int res)) ws) := by
  refine zCT.of (cc := cX12_isIn) (maxL := 3) (ret := (some .boolean)) (by decide) rfl (Nat.le_of_ble_eq_true rfl) ?_
  intro X hC hR
  unfold xX12_isIn at h
  refine zV.sub (lv' := [(0, .int v0), (1, .int v1), (2, .int v2)]) [0, 1, 2] rfl ?_
  refine zr_iload_n (pc := 0) hC 0 rfl rfl dX12_isIn_0 ?_
  refine zr_iload_n (pc := 1) hC 1 rfl rfl dX12_isIn_1 ?_
  refine zr_icmp_lt (pc := 2) (tgt := 14) hC dX12_isIn_2 (by decide) (fun c1 => ?_) (fun c1 => ?_)
  · replace h := zip h c1
    refine zr_iconst (pc := 14) hC zki_0 dX12_isIn_14 ?_
    obtain rfl := Option.some.inj h
    exact zr_zret hC hR (by decide) ⟨rfl, rfl⟩ (Nat.le_refl _) (Nat.le_refl _) dX12_isIn_15
  · replace h := zin h c1
    refine zr_iload_n (pc := 5) hC 0 rfl rfl dX12_isIn_5 ?_
    refine zr_iload_n (pc := 6) hC 2 rfl rfl dX12_isIn_6 ?_
    refine zr_icmp_gt (pc := 7) (tgt := 14) hC dX12_isIn_7 (by decide) (fun c2 => ?_) (fun c2 => ?_)
    · replace h := zip h c2
      refine zr_iconst (pc := 14) hC zki_0 dX12_isIn_14 ?_
      obtain rfl := Option.some.inj h
      exact zr_zret hC hR (by decide) ⟨rfl, rfl⟩ (Nat.le_refl _) (Nat.le_refl _) dX12_isIn_15
    · replace h := zin h c2
      refine zr_iconst (pc := 10) hC zki_1 dX12_isIn_10 ?_
      refine zr_goto (pc := 11) (tgt := 15) hC dX12_isIn_11 (by decide) ?_
      obtain rfl := Option.some.inj h
      exact zr_zret hC hR (by decide) ⟨rfl, rfl⟩ (Nat.le_refl _) (Nat.le_refl _) dX12_isIn_15
/-! X12_bound -/
theorem hyX12_bound : yX12_bound.cls ≠ "java/lang/invoke/MethodHandle" ∧ yX12_bound.cls ≠ "java/lang/invoke/VarHandle" ∧ (parseMethodDescriptor yX12_bound.desc).map (fun d => d.parameters.length) = some 3 := by decide +kernel
def xX12_bound  (v0 : Int32) (v1 : Int32) (v2 : Int32) : Option Int32 :=
  if v1 ≤ v0 then
  (if v0 ≤ v2 then
  (some (0 : Int32))
  else
  some (-6 : Int32))
  else
  some (-4 : Int32)
set_option maxHeartbeats 4000000 in
set_option maxRecDepth 100000 in
theorem tX12_bound {κ : Nat → ClassId} {E : zEn} {ws : va_W} (hEk : zEk E)  {v0 : Int32} {v1 : Int32} {v2 : Int32} {res : Int32} (h : xX12_bound  v0 v1 v2 = some res) (l : Launch) (D : va_G) : zCT E D vwCl (zty κ) l yX12_bound wsX12_bound ({ frames := 0, cells := 0, slots := 0, locals := 0 } : Room) 0 0 [.int v0, .int v1, .int v2] ws (zPd (some (.int res)) ws) := by
  refine zCT.of (cc := cX12_bound) (maxL := 3) (ret := (some .int)) (by decide) rfl (Nat.le_of_ble_eq_true rfl) ?_
  intro X hC hR
  unfold xX12_bound at h
  refine zV.sub (lv' := [(0, .int v0), (1, .int v1), (2, .int v2)]) [0, 1, 2] rfl ?_
  refine zr_iload_n (pc := 0) hC 0 rfl rfl dX12_bound_0 ?_
  refine zr_iload_n (pc := 1) hC 1 rfl rfl dX12_bound_1 ?_
  refine zr_icmp_ge (pc := 2) (tgt := 10) hC dX12_bound_2 (by decide) (fun c1 => ?_) (fun c1 => ?_)
  · replace h := zip h c1
    refine zr_iload_n (pc := 10) hC 0 rfl rfl dX12_bound_10 ?_
    refine zr_iload_n (pc := 11) hC 2 rfl rfl dX12_bound_11 ?_
    refine zr_icmp_le (pc := 12) (tgt := 20) hC dX12_bound_12 (by decide) (fun c2 => ?_) (fun c2 => ?_)
    · replace h := zip h c2
      refine zr_iconst (pc := 20) hC zki_0 dX12_bound_20 ?_
      obtain rfl := Option.some.inj h
      exact zr_iret hC hR ⟨rfl, rfl⟩ (Nat.le_refl _) (Nat.le_refl _) dX12_bound_21
    · replace h := zin h c2
      refine zr_bipush (pc := 15) hC zkb_m6 dX12_bound_15 ?_
      refine zr_goto (pc := 17) (tgt := 21) hC dX12_bound_17 (by decide) ?_
      obtain rfl := Option.some.inj h
      exact zr_iret hC hR ⟨rfl, rfl⟩ (Nat.le_refl _) (Nat.le_refl _) dX12_bound_21
  · replace h := zin h c1
    refine zr_bipush (pc := 5) hC zkb_m4 dX12_bound_5 ?_
    refine zr_goto (pc := 7) (tgt := 21) hC dX12_bound_7 (by decide) ?_
    obtain rfl := Option.some.inj h
    exact zr_iret hC hR ⟨rfl, rfl⟩ (Nat.le_refl _) (Nat.le_refl _) dX12_bound_21
/-! X12_isWord -/
theorem hyX12_isWord : yX12_isWord.cls = RX12 ∧ yX12_isWord.cls ≠ "java/lang/invoke/MethodHandle" ∧ yX12_isWord.cls ≠ "java/lang/invoke/VarHandle" ∧ (parseMethodDescriptor yX12_isWord.desc).map (fun d => d.parameters.length) = some 1 := by decide +kernel
theorem flX12_isWord_46 : Cond.fieldLink RX12 46 "BeforeTheEndModel" "words" "I" ∈ wsX12_isWord := by decide +kernel
theorem hinX12_isWord_X12 : ∀ w ∈ wsX120, w ∈ wsX12_isWord := fun _ h => List.mem_cons_of_mem _ (List.mem_append_right _ h)
def xX12_isWord (M : zM) (v1 : Int32) : Option Int32 :=
  if v1 < 0 then
  (some (0 : Int32))
  else
  if (M.1 0 12) ≤ v1 then
  (some (0 : Int32))
  else
  some (1 : Int32)
set_option maxHeartbeats 4000000 in
set_option maxRecDepth 100000 in
theorem tX12_isWord {κ : Nat → ClassId} {E : zEn} {ad : Nat → Nat} (hEk : zEk E) {M : zM} {v1 : Int32} {res : Int32} (h : xX12_isWord M v1 = some res) (l : Launch) (D : va_G) : zCT E D vwCl (zty κ) l yX12_isWord wsX12_isWord ({ frames := 0, cells := 0, slots := 0, locals := 0 } : Room) 0 0 [.ref (ad 0), .int v1] (zwM κ ad M) (zPd (some (.int res)) (zwM κ ad M)) := by
  refine zCT.of (cc := cX12_isWord) (maxL := 2) (ret := (some .boolean)) (by decide) rfl (Nat.le_of_ble_eq_true rfl) ?_
  intro X hC hR
  unfold xX12_isWord at h
  refine zV.sub (lv' := [(0, .ref (ad 0)), (1, .int v1)]) [0, 1] rfl ?_
  refine zr_iload_n (pc := 0) hC 1 rfl rfl dX12_isWord_0 ?_
  refine zr_if_lt (pc := 1) (tgt := 16) hC dX12_isWord_1 (by decide) (fun c1 => ?_) (fun c1 => ?_)
  · replace h := zip h c1
    refine zr_iconst (pc := 16) hC zki_0 dX12_isWord_16 ?_
    obtain rfl := Option.some.inj h
    exact zr_zret hC hR (by decide) ⟨rfl, rfl⟩ (Nat.le_refl _) (Nat.le_refl _) dX12_isWord_17
  · replace h := zin h c1
    refine zr_iload_n (pc := 4) hC 1 rfl rfl dX12_isWord_4 ?_
    refine zr_aload_n (pc := 5) hC 0 rfl rfl dX12_isWord_5 ?_
    refine zmg_12 (pc := 6) hC hinX12_isWord_X12 flX12_isWord_46 dX12_isWord_6 ?_
    refine zr_icmp_ge (pc := 9) (tgt := 16) hC dX12_isWord_9 (by decide) (fun c2 => ?_) (fun c2 => ?_)
    · replace h := zip h c2
      refine zr_iconst (pc := 16) hC zki_0 dX12_isWord_16 ?_
      obtain rfl := Option.some.inj h
      exact zr_zret hC hR (by decide) ⟨rfl, rfl⟩ (Nat.le_refl _) (Nat.le_refl _) dX12_isWord_17
    · replace h := zin h c2
      refine zr_iconst (pc := 12) hC zki_1 dX12_isWord_12 ?_
      refine zr_goto (pc := 13) (tgt := 17) hC dX12_isWord_13 (by decide) ?_
      obtain rfl := Option.some.inj h
      exact zr_zret hC hR (by decide) ⟨rfl, rfl⟩ (Nat.le_refl _) (Nat.le_refl _) dX12_isWord_17
/-! X12_isPlayer -/
theorem hyX12_isPlayer : yX12_isPlayer.cls = RX12 ∧ yX12_isPlayer.cls ≠ "java/lang/invoke/MethodHandle" ∧ yX12_isPlayer.cls ≠ "java/lang/invoke/VarHandle" ∧ (parseMethodDescriptor yX12_isPlayer.desc).map (fun d => d.parameters.length) = some 1 := by decide +kernel
theorem flX12_isPlayer_114 : Cond.fieldLink RX12 114 "BeforeTheEndModel" "players" "I" ∈ wsX12_isPlayer := by decide +kernel
theorem hinX12_isPlayer_X12 : ∀ w ∈ wsX120, w ∈ wsX12_isPlayer := fun _ h => List.mem_cons_of_mem _ (List.mem_append_right _ h)
def xX12_isPlayer (M : zM) (v1 : Int32) : Option Int32 :=
  if v1 < 0 then
  (some (0 : Int32))
  else
  if (M.1 0 13) ≤ v1 then
  (some (0 : Int32))
  else
  some (1 : Int32)
set_option maxHeartbeats 4000000 in
set_option maxRecDepth 100000 in
theorem tX12_isPlayer {κ : Nat → ClassId} {E : zEn} {ad : Nat → Nat} (hEk : zEk E) {M : zM} {v1 : Int32} {res : Int32} (h : xX12_isPlayer M v1 = some res) (l : Launch) (D : va_G) : zCT E D vwCl (zty κ) l yX12_isPlayer wsX12_isPlayer ({ frames := 0, cells := 0, slots := 0, locals := 0 } : Room) 0 0 [.ref (ad 0), .int v1] (zwM κ ad M) (zPd (some (.int res)) (zwM κ ad M)) := by
  refine zCT.of (cc := cX12_isPlayer) (maxL := 2) (ret := (some .boolean)) (by decide) rfl (Nat.le_of_ble_eq_true rfl) ?_
  intro X hC hR
  unfold xX12_isPlayer at h
  refine zV.sub (lv' := [(0, .ref (ad 0)), (1, .int v1)]) [0, 1] rfl ?_
  refine zr_iload_n (pc := 0) hC 1 rfl rfl dX12_isPlayer_0 ?_
  refine zr_if_lt (pc := 1) (tgt := 16) hC dX12_isPlayer_1 (by decide) (fun c1 => ?_) (fun c1 => ?_)
  · replace h := zip h c1
    refine zr_iconst (pc := 16) hC zki_0 dX12_isPlayer_16 ?_
    obtain rfl := Option.some.inj h
    exact zr_zret hC hR (by decide) ⟨rfl, rfl⟩ (Nat.le_refl _) (Nat.le_refl _) dX12_isPlayer_17
  · replace h := zin h c1
    refine zr_iload_n (pc := 4) hC 1 rfl rfl dX12_isPlayer_4 ?_
    refine zr_aload_n (pc := 5) hC 0 rfl rfl dX12_isPlayer_5 ?_
    refine zmg_13 (pc := 6) hC hinX12_isPlayer_X12 flX12_isPlayer_114 dX12_isPlayer_6 ?_
    refine zr_icmp_ge (pc := 9) (tgt := 16) hC dX12_isPlayer_9 (by decide) (fun c2 => ?_) (fun c2 => ?_)
    · replace h := zip h c2
      refine zr_iconst (pc := 16) hC zki_0 dX12_isPlayer_16 ?_
      obtain rfl := Option.some.inj h
      exact zr_zret hC hR (by decide) ⟨rfl, rfl⟩ (Nat.le_refl _) (Nat.le_refl _) dX12_isPlayer_17
    · replace h := zin h c2
      refine zr_iconst (pc := 12) hC zki_1 dX12_isPlayer_12 ?_
      refine zr_goto (pc := 13) (tgt := 17) hC dX12_isPlayer_13 (by decide) ?_
      obtain rfl := Option.some.inj h
      exact zr_zret hC hR (by decide) ⟨rfl, rfl⟩ (Nat.le_refl _) (Nat.le_refl _) dX12_isPlayer_17
/-! X12_nexts -/
theorem hyX12_nexts : yX12_nexts.cls = RX12 ∧ yX12_nexts.cls ≠ "java/lang/invoke/MethodHandle" ∧ yX12_nexts.cls ≠ "java/lang/invoke/VarHandle" ∧ (parseMethodDescriptor yX12_nexts.desc).map (fun d => d.parameters.length) = some 1 := by decide +kernel
theorem flX12_nexts_13 : Cond.fieldLink RX12 13 "BeforeTheEndModel" "parent" "[I" ∈ wsX12_nexts := by decide +kernel
theorem flX12_nexts_46 : Cond.fieldLink RX12 46 "BeforeTheEndModel" "words" "I" ∈ wsX12_nexts := by decide +kernel
theorem hinX12_nexts_X12 : ∀ w ∈ wsX120, w ∈ wsX12_nexts := fun _ h => List.mem_cons_of_mem _ (List.mem_append_right _ h)
def xX12_nexts_L6 (M : zM) (v1 : Int32) (w0 : Int32) (w1 : Int32) : Option ((Int32 × Int32) ⊕ Int32) :=
  if (M.1 0 12) ≤ w1 then
  (some (.inr w0))
  else
  if (w1 < 0 ∨ 24 ≤ w1.toNatClampNeg) then none else
  if (M.1 2 w1.toNatClampNeg) = v1 then
  (zlet (w0 + (1 : Int32)) fun z6 =>
  some (.inl (z6, (w1 + (1 : Int32)))))
  else
  zlet (w0 + (0 : Int32)) fun z4 =>
  some (.inl (z4, (w1 + (1 : Int32))))
set_option maxHeartbeats 4000000 in
set_option maxRecDepth 100000 in
theorem tX12_nexts_L6 {κ : Nat → ClassId} {E : zEn} {ad : Nat → Nat} {X : zX} {M : zM} {v1 : Int32} {w0 : Int32} {w1 : Int32} {r : ((Int32 × Int32) ⊕ Int32)} (hC : zC X cX12_nexts RX12 wsX12_nexts vwCl (zty κ) E 4 ({ frames := 0, cells := 0, slots := 0, locals := 0 } : Room)) (hEk : zEk E) (hin : ∀ (x0' : Int32) (x1' : Int32), r = .inl (x0', x1') → zV X 0 0 (zwM κ ad M) [(0, .ref (ad 0)), (1, .int v1), (2, .int x0'), (3, .int x1')] [] 6) (hout0 : ∀ (x0' : Int32), r = .inr x0' → zV X 0 0 (zwM κ ad M) [(2, .int x0')] [] 38) (h : xX12_nexts_L6 M v1 w0 w1 = some r) : zV X 0 0 (zwM κ ad M) [(0, .ref (ad 0)), (1, .int v1), (2, .int w0), (3, .int w1)] [] 6 := by
  unfold xX12_nexts_L6 at h
  refine zr_iload_n (pc := 6) hC 3 rfl rfl dX12_nexts_6 ?_
  refine zr_aload_n (pc := 7) hC 0 rfl rfl dX12_nexts_7 ?_
  refine zmg_12 (pc := 8) hC hinX12_nexts_X12 flX12_nexts_46 dX12_nexts_8 ?_
  refine zr_icmp_ge (pc := 11) (tgt := 38) hC dX12_nexts_11 (by decide) (fun c1 => ?_) (fun c1 => ?_)
  · replace h := zip h c1
    obtain rfl := Option.some.inj h
    exact zV.sub (lv' := [(2, .int w0)]) [2] rfl (hout0 w0 rfl)
  · replace h := zin h c1
    refine zr_iload_n (pc := 14) hC 2 rfl rfl dX12_nexts_14 ?_
    refine zr_aload_n (pc := 15) hC 0 rfl rfl dX12_nexts_15 ?_
    refine zmg_1 (pc := 16) hC hinX12_nexts_X12 flX12_nexts_13 dX12_nexts_16 ?_
    refine zr_iload_n (pc := 19) hC 3 rfl rfl dX12_nexts_19 ?_
    obtain ⟨i2, h⟩ := zgd h
    refine zml_2 (pc := 20) hC i2 dX12_nexts_20 ?_
    refine zr_iload_n (pc := 21) hC 1 rfl rfl dX12_nexts_21 ?_
    refine zr_icmp_ne (pc := 22) (tgt := 29) hC dX12_nexts_22 (by decide) (fun c3 => ?_) (fun c3 => ?_)
    · replace h := zin h c3
      refine zr_iconst (pc := 29) hC zki_0 dX12_nexts_29 ?_
      refine zr_iadd (pc := 30) hC dX12_nexts_30 ?_
      obtain ⟨z4, e5, h⟩ := zle h
      refine zr_topi e5 ?_
      refine zr_istore_n (pc := 31) (lv' := [(2, .int z4), (0, .ref (ad 0)), (1, .int v1), (3, .int w1)]) hC rfl (by decide) rfl dX12_nexts_31 ?_
      refine zr_iinc (pc := 32) (k := 3) (lv' := [(3, .int (w1 + (1 : Int32))), (2, .int z4), (0, .ref (ad 0)), (1, .int v1)]) hC zki_1 (by decide) rfl rfl dX12_nexts_32 ?_
      refine zr_goto (pc := 35) (tgt := 6) hC dX12_nexts_35 (by decide) ?_
      obtain rfl := Option.some.inj h
      exact zV.sub (lv' := [(0, .ref (ad 0)), (1, .int v1), (2, .int z4), (3, .int (w1 + (1 : Int32)))]) [2, 3, 1, 0] rfl (hin z4 (w1 + (1 : Int32)) rfl)
    · replace h := zip h c3
      refine zr_iconst (pc := 25) hC zki_1 dX12_nexts_25 ?_
      refine zr_goto (pc := 26) (tgt := 30) hC dX12_nexts_26 (by decide) ?_
      refine zr_iadd (pc := 30) hC dX12_nexts_30 ?_
      obtain ⟨z6, e7, h⟩ := zle h
      refine zr_topi e7 ?_
      refine zr_istore_n (pc := 31) (lv' := [(2, .int z6), (0, .ref (ad 0)), (1, .int v1), (3, .int w1)]) hC rfl (by decide) rfl dX12_nexts_31 ?_
      refine zr_iinc (pc := 32) (k := 3) (lv' := [(3, .int (w1 + (1 : Int32))), (2, .int z6), (0, .ref (ad 0)), (1, .int v1)]) hC zki_1 (by decide) rfl rfl dX12_nexts_32 ?_
      refine zr_goto (pc := 35) (tgt := 6) hC dX12_nexts_35 (by decide) ?_
      obtain rfl := Option.some.inj h
      exact zV.sub (lv' := [(0, .ref (ad 0)), (1, .int v1), (2, .int z6), (3, .int (w1 + (1 : Int32)))]) [2, 3, 1, 0] rfl (hin z6 (w1 + (1 : Int32)) rfl)
def xX12_nexts (M : zM) (v1 : Int32) : Option Int32 :=
  zlet (v1 + (1 : Int32)) fun z1 =>
  (x_it (fun a9 => xX12_nexts_L6 M v1 a9.1 a9.2) zFU ((0 : Int32), z1)).bind fun q3 =>
  some q3
set_option maxHeartbeats 4000000 in
set_option maxRecDepth 100000 in
theorem tX12_nexts {κ : Nat → ClassId} {E : zEn} {ad : Nat → Nat} (hEk : zEk E) {M : zM} {v1 : Int32} {res : Int32} (h : xX12_nexts M v1 = some res) (l : Launch) (D : va_G) : zCT E D vwCl (zty κ) l yX12_nexts wsX12_nexts ({ frames := 0, cells := 0, slots := 0, locals := 0 } : Room) 0 0 [.ref (ad 0), .int v1] (zwM κ ad M) (zPd (some (.int res)) (zwM κ ad M)) := by
  refine zCT.of (cc := cX12_nexts) (maxL := 4) (ret := (some .int)) (by decide) rfl (Nat.le_of_ble_eq_true rfl) ?_
  intro X hC hR
  unfold xX12_nexts at h
  refine zV.sub (lv' := [(0, .ref (ad 0)), (1, .int v1)]) [0, 1] rfl ?_
  refine zr_iconst (pc := 0) hC zki_0 dX12_nexts_0 ?_
  refine zr_istore_n (pc := 1) (lv' := [(2, .int (0 : Int32)), (0, .ref (ad 0)), (1, .int v1)]) hC rfl (by decide) rfl dX12_nexts_1 ?_
  refine zr_iload_n (pc := 2) hC 2 rfl rfl dX12_nexts_2 ?_
  refine zr_iconst (pc := 3) hC zki_1 dX12_nexts_3 ?_
  refine zr_iadd (pc := 4) hC dX12_nexts_4 ?_
  obtain ⟨z1, e2, h⟩ := zle h
  refine zr_topi e2 ?_
  refine zr_istore_n (pc := 5) (lv' := [(3, .int z1), (2, .int (0 : Int32)), (0, .ref (ad 0)), (1, .int v1)]) hC rfl (by decide) rfl dX12_nexts_5 ?_
  obtain ⟨q3, hq3, h⟩ := zbd h
  refine zV.sub (lv' := [(0, .ref (ad 0)), (1, .int v1), (2, .int (0 : Int32)), (3, .int z1)]) [2, 3, 1, 0] rfl ?_
  refine zit2 (Wp := fun (y0 : Int32) (y1 : Int32) => zV X 0 0 (zwM κ ad M) [(0, .ref (ad 0)), (1, .int v1), (2, .int y0), (3, .int y1)] [] 6) (Ex := fun (b9 : Int32) => zV X 0 0 (zwM κ ad M) [(2, .int b9)] [] 38) (fun y0 y1 r9 hr hin hout => tX12_nexts_L6 hC hEk hin (fun z0 e9 => hout z0 e9) hr) zFU (0 : Int32) z1 q3 hq3 ?_
  show zV X 0 0 (zwM κ ad M) [(2, .int q3)] [] 38
  refine zr_iload_n (pc := 38) hC 0 rfl rfl dX12_nexts_38 ?_
  obtain rfl := Option.some.inj h
  exact zr_iret hC hR ⟨rfl, rfl⟩ (Nat.le_refl _) (Nat.le_refl _) dX12_nexts_39
/-! X12_isWhole -/
theorem hyX12_isWhole : yX12_isWhole.cls = RX12 ∧ yX12_isWhole.cls ≠ "java/lang/invoke/MethodHandle" ∧ yX12_isWhole.cls ≠ "java/lang/invoke/VarHandle" ∧ (parseMethodDescriptor yX12_isWhole.desc).map (fun d => d.parameters.length) = some 0 := by decide +kernel
theorem flX12_isWhole_19 : Cond.fieldLink RX12 19 "BeforeTheEndModel" "answer" "[I" ∈ wsX12_isWhole := by decide +kernel
theorem flX12_isWhole_46 : Cond.fieldLink RX12 46 "BeforeTheEndModel" "words" "I" ∈ wsX12_isWhole := by decide +kernel
theorem hinX12_isWhole_X12 : ∀ w ∈ wsX120, w ∈ wsX12_isWhole := fun _ h => List.mem_cons_of_mem _ (List.mem_append_right _ h)
def xX12_isWhole_L2 (M : zM) (w0 : Int32) : Option (Int32 ⊕ (Unit ⊕ Unit)) :=
  if (M.1 0 12) ≤ w0 then
  (some (.inr (.inr ())))
  else
  if (w0 < 0 ∨ 24 ≤ w0.toNatClampNeg) then none else
  if (M.1 4 w0.toNatClampNeg) = 0 then
  ((xX12_nexts M w0).bind fun q4 =>
  if q4 = 0 then
  (some (.inr (.inl ())))
  else
  some (.inl (w0 + (1 : Int32))))
  else
  some (.inl (w0 + (1 : Int32)))
set_option maxHeartbeats 4000000 in
set_option maxRecDepth 100000 in
theorem tX12_isWhole_L2 {κ : Nat → ClassId} {E : zEn} {ad : Nat → Nat} {X : zX} {M : zM} {w0 : Int32} {r : (Int32 ⊕ (Unit ⊕ Unit))} (hC : zC X cX12_isWhole RX12 wsX12_isWhole vwCl (zty κ) E 2 ({ frames := 1, cells := 0, slots := 0, locals := 23 } : Room)) (hEk : zEk E) (hin : ∀ (x0' : Int32), r = .inl x0' → zV X 0 0 (zwM κ ad M) [(0, .ref (ad 0)), (1, .int x0')] [] 2) (hout0 : r = .inr (.inl ()) → zV X 0 0 (zwM κ ad M) [] [] 27) (hout1 : r = .inr (.inr ()) → zV X 0 0 (zwM κ ad M) [] [] 35) (h : xX12_isWhole_L2 M  w0 = some r) : zV X 0 0 (zwM κ ad M) [(0, .ref (ad 0)), (1, .int w0)] [] 2 := by
  unfold xX12_isWhole_L2 at h
  refine zr_iload_n (pc := 2) hC 1 rfl rfl dX12_isWhole_2 ?_
  refine zr_aload_n (pc := 3) hC 0 rfl rfl dX12_isWhole_3 ?_
  refine zmg_12 (pc := 4) hC hinX12_isWhole_X12 flX12_isWhole_46 dX12_isWhole_4 ?_
  refine zr_icmp_ge (pc := 7) (tgt := 35) hC dX12_isWhole_7 (by decide) (fun c1 => ?_) (fun c1 => ?_)
  · replace h := zip h c1
    obtain rfl := Option.some.inj h
    exact zV.sub (lv' := []) [] rfl (hout1  rfl)
  · replace h := zin h c1
    refine zr_aload_n (pc := 10) hC 0 rfl rfl dX12_isWhole_10 ?_
    refine zmg_3 (pc := 11) hC hinX12_isWhole_X12 flX12_isWhole_19 dX12_isWhole_11 ?_
    refine zr_iload_n (pc := 14) hC 1 rfl rfl dX12_isWhole_14 ?_
    obtain ⟨i2, h⟩ := zgd h
    refine zml_4 (pc := 15) hC i2 dX12_isWhole_15 ?_
    refine zr_if_ne (pc := 16) (tgt := 29) hC dX12_isWhole_16 (by decide) (fun c3 => ?_) (fun c3 => ?_)
    · replace h := zin h c3
      refine zr_iinc (pc := 29) (k := 1) (lv' := [(1, .int (w0 + (1 : Int32))), (0, .ref (ad 0))]) hC zki_1 (by decide) rfl rfl dX12_isWhole_29 ?_
      refine zr_goto (pc := 32) (tgt := 2) hC dX12_isWhole_32 (by decide) ?_
      obtain rfl := Option.some.inj h
      exact zV.sub (lv' := [(0, .ref (ad 0)), (1, .int (w0 + (1 : Int32)))]) [1, 0] rfl (hin (w0 + (1 : Int32)) rfl)
    · replace h := zip h c3
      refine zr_aload_n (pc := 19) hC 0 rfl rfl dX12_isWhole_19 ?_
      refine zr_iload_n (pc := 20) hC 1 rfl rfl dX12_isWhole_20 ?_
      obtain ⟨q4, hq4, h⟩ := zbd h
      refine zr_cVi (pc := 21) hC hEk [.int w0] [] 0 1 (fun l D => tX12_nexts hEk hq4 l D) gX12_isWhole_X12_nexts rfl rfl rfl ⟨Nat.le_of_ble_eq_true rfl, Nat.le_of_ble_eq_true rfl⟩ hyX12_nexts (by decide) entM_0 rfl rfl rfl (Nat.le_of_ble_eq_true rfl) ⟨Nat.le_of_ble_eq_true rfl, Nat.le_of_ble_eq_true rfl⟩ dX12_isWhole_21 ?_
      refine zr_if_ne (pc := 24) (tgt := 29) hC dX12_isWhole_24 (by decide) (fun c5 => ?_) (fun c5 => ?_)
      · replace h := zin h c5
        refine zr_iinc (pc := 29) (k := 1) (lv' := [(1, .int (w0 + (1 : Int32))), (0, .ref (ad 0))]) hC zki_1 (by decide) rfl rfl dX12_isWhole_29 ?_
        refine zr_goto (pc := 32) (tgt := 2) hC dX12_isWhole_32 (by decide) ?_
        obtain rfl := Option.some.inj h
        exact zV.sub (lv' := [(0, .ref (ad 0)), (1, .int (w0 + (1 : Int32)))]) [1, 0] rfl (hin (w0 + (1 : Int32)) rfl)
      · replace h := zip h c5
        obtain rfl := Option.some.inj h
        exact zV.sub (lv' := []) [] rfl (hout0  rfl)
def xX12_isWhole (M : zM)  : Option Int32 :=
  (x_it (fun a9 => xX12_isWhole_L2 M a9) zFU (0 : Int32)).bind fun q1 =>
  Sum.elim (fun b2 => some (0 : Int32)) (fun c3 => some (1 : Int32)) q1
set_option maxHeartbeats 4000000 in
set_option maxRecDepth 100000 in
theorem tX12_isWhole {κ : Nat → ClassId} {E : zEn} {ad : Nat → Nat} (hEk : zEk E) {M : zM}  {res : Int32} (h : xX12_isWhole M  = some res) (l : Launch) (D : va_G) : zCT E D vwCl (zty κ) l yX12_isWhole wsX12_isWhole ({ frames := 1, cells := 0, slots := 0, locals := 23 } : Room) 0 0 [.ref (ad 0)] (zwM κ ad M) (zPd (some (.int res)) (zwM κ ad M)) := by
  refine zCT.of (cc := cX12_isWhole) (maxL := 2) (ret := (some .boolean)) (by decide) rfl (Nat.le_of_ble_eq_true rfl) ?_
  intro X hC hR
  unfold xX12_isWhole at h
  refine zV.sub (lv' := [(0, .ref (ad 0))]) [0] rfl ?_
  refine zr_iconst (pc := 0) hC zki_0 dX12_isWhole_0 ?_
  refine zr_istore_n (pc := 1) (lv' := [(1, .int (0 : Int32)), (0, .ref (ad 0))]) hC rfl (by decide) rfl dX12_isWhole_1 ?_
  obtain ⟨q1, hq1, h⟩ := zbd h
  refine zV.sub (lv' := [(0, .ref (ad 0)), (1, .int (0 : Int32))]) [1, 0] rfl ?_
  refine zit1 (Wp := fun (y0 : Int32) => zV X 0 0 (zwM κ ad M) [(0, .ref (ad 0)), (1, .int y0)] [] 2) (Ex := fun (b9 : (Unit ⊕ Unit)) => Sum.elim (fun (b0 : Unit) => zV X 0 0 (zwM κ ad M) [] [] 27) (fun (c0 : Unit) => zV X 0 0 (zwM κ ad M) [] [] 35) b9) (fun y0 r9 hr hin hout => tX12_isWhole_L2 hC hEk hin (fun e9 => hout (.inl ()) e9) (fun e9 => hout (.inr ()) e9) hr) zFU (0 : Int32) q1 hq1 ?_
  rcases q1 with b2 | c3
  · replace h := zel h
    show zV X 0 0 (zwM κ ad M) [] [] 27
    refine zr_iconst (pc := 27) hC zki_0 dX12_isWhole_27 ?_
    obtain rfl := Option.some.inj h
    exact zr_zret hC hR (by decide) ⟨rfl, rfl⟩ (Nat.le_refl _) (Nat.le_refl _) dX12_isWhole_28
  · replace h := zer h
    show zV X 0 0 (zwM κ ad M) [] [] 35
    refine zr_iconst (pc := 35) hC zki_1 dX12_isWhole_35 ?_
    obtain rfl := Option.some.inj h
    exact zr_zret hC hR (by decide) ⟨rfl, rfl⟩ (Nat.le_refl _) (Nat.le_refl _) dX12_isWhole_36
/-! X12_comesWord -/
theorem hyX12_comesWord : yX12_comesWord.cls = RX12 ∧ yX12_comesWord.cls ≠ "java/lang/invoke/MethodHandle" ∧ yX12_comesWord.cls ≠ "java/lang/invoke/VarHandle" ∧ (parseMethodDescriptor yX12_comesWord.desc).map (fun d => d.parameters.length) = some 3 := by decide +kernel
theorem flX12_comesWord_13 : Cond.fieldLink RX12 13 "BeforeTheEndModel" "parent" "[I" ∈ wsX12_comesWord := by decide +kernel
theorem flX12_comesWord_16 : Cond.fieldLink RX12 16 "BeforeTheEndModel" "weight" "[I" ∈ wsX12_comesWord := by decide +kernel
theorem flX12_comesWord_19 : Cond.fieldLink RX12 19 "BeforeTheEndModel" "answer" "[I" ∈ wsX12_comesWord := by decide +kernel
theorem flX12_comesWord_22 : Cond.fieldLink RX12 22 "BeforeTheEndModel" "length" "[I" ∈ wsX12_comesWord := by decide +kernel
theorem flX12_comesWord_46 : Cond.fieldLink RX12 46 "BeforeTheEndModel" "words" "I" ∈ wsX12_comesWord := by decide +kernel
theorem hinX12_comesWord_X12 : ∀ w ∈ wsX120, w ∈ wsX12_comesWord := fun _ h => List.mem_cons_of_mem _ (List.mem_append_right _ h)
def xX12_comesWord (M : zM) (v1 : Int32) (v2 : Int32) (v3 : Int32) : Option zM :=
  if ((M.1 0 12) < 0 ∨ 24 ≤ (M.1 0 12).toNatClampNeg) then none else
  zlet (zsi M 2 (M.1 0 12).toNatClampNeg v1) fun M2 =>
  if ((M2.1 0 12) < 0 ∨ 24 ≤ (M2.1 0 12).toNatClampNeg) then none else
  zlet (zsi M2 3 (M2.1 0 12).toNatClampNeg v2) fun M5 =>
  if ((M5.1 0 12) < 0 ∨ 24 ≤ (M5.1 0 12).toNatClampNeg) then none else
  zlet (zsi M5 4 (M5.1 0 12).toNatClampNeg v3) fun M8 =>
  if (v1 < 0 ∨ 24 ≤ v1.toNatClampNeg) then none else
  if ((M8.1 0 12) < 0 ∨ 24 ≤ (M8.1 0 12).toNatClampNeg) then none else
  zlet (zsi M8 5 (M8.1 0 12).toNatClampNeg ((M8.1 5 v1.toNatClampNeg) + (1 : Int32))) fun M12 =>
  zlet (zsi M12 0 12 ((M12.1 0 12) + (1 : Int32))) fun M14 =>
  some M14
set_option maxHeartbeats 4000000 in
set_option maxRecDepth 100000 in
theorem tX12_comesWord {κ : Nat → ClassId} {E : zEn} {ad : Nat → Nat} (hEk : zEk E) {M : zM} {v1 : Int32} {v2 : Int32} {v3 : Int32} {res : zM} (h : xX12_comesWord M v1 v2 v3 = some res) (l : Launch) (D : va_G) : zCT E D vwCl (zty κ) l yX12_comesWord wsX12_comesWord ({ frames := 0, cells := 0, slots := 0, locals := 0 } : Room) 0 0 [.ref (ad 0), .int v1, .int v2, .int v3] (zwM κ ad M) (zPd none (zwM κ ad res)) := by
  refine zCT.of (cc := cX12_comesWord) (maxL := 4) (ret := none) (by decide) rfl (Nat.le_of_ble_eq_true rfl) ?_
  intro X hC hR
  unfold xX12_comesWord at h
  refine zV.sub (lv' := [(0, .ref (ad 0)), (1, .int v1), (2, .int v2), (3, .int v3)]) [0, 1, 2, 3] rfl ?_
  refine zr_aload_n (pc := 0) hC 0 rfl rfl dX12_comesWord_0 ?_
  refine zmg_1 (pc := 1) hC hinX12_comesWord_X12 flX12_comesWord_13 dX12_comesWord_1 ?_
  refine zr_aload_n (pc := 4) hC 0 rfl rfl dX12_comesWord_4 ?_
  refine zmg_12 (pc := 5) hC hinX12_comesWord_X12 flX12_comesWord_46 dX12_comesWord_5 ?_
  refine zr_iload_n (pc := 8) hC 1 rfl rfl dX12_comesWord_8 ?_
  obtain ⟨i1, h⟩ := zgd h
  obtain ⟨M2, e3, h⟩ := zle h
  refine zms_2 (pc := 9) hC i1 e3 dX12_comesWord_9 ?_
  refine zr_aload_n (pc := 10) hC 0 rfl rfl dX12_comesWord_10 ?_
  refine zmg_2 (pc := 11) hC hinX12_comesWord_X12 flX12_comesWord_16 dX12_comesWord_11 ?_
  refine zr_aload_n (pc := 14) hC 0 rfl rfl dX12_comesWord_14 ?_
  refine zmg_12 (pc := 15) hC hinX12_comesWord_X12 flX12_comesWord_46 dX12_comesWord_15 ?_
  refine zr_iload_n (pc := 18) hC 2 rfl rfl dX12_comesWord_18 ?_
  obtain ⟨i4, h⟩ := zgd h
  obtain ⟨M5, e6, h⟩ := zle h
  refine zms_3 (pc := 19) hC i4 e6 dX12_comesWord_19 ?_
  refine zr_aload_n (pc := 20) hC 0 rfl rfl dX12_comesWord_20 ?_
  refine zmg_3 (pc := 21) hC hinX12_comesWord_X12 flX12_comesWord_19 dX12_comesWord_21 ?_
  refine zr_aload_n (pc := 24) hC 0 rfl rfl dX12_comesWord_24 ?_
  refine zmg_12 (pc := 25) hC hinX12_comesWord_X12 flX12_comesWord_46 dX12_comesWord_25 ?_
  refine zr_iload_n (pc := 28) hC 3 rfl rfl dX12_comesWord_28 ?_
  obtain ⟨i7, h⟩ := zgd h
  obtain ⟨M8, e9, h⟩ := zle h
  refine zms_4 (pc := 29) hC i7 e9 dX12_comesWord_29 ?_
  refine zr_aload_n (pc := 30) hC 0 rfl rfl dX12_comesWord_30 ?_
  refine zmg_4 (pc := 31) hC hinX12_comesWord_X12 flX12_comesWord_22 dX12_comesWord_31 ?_
  refine zr_aload_n (pc := 34) hC 0 rfl rfl dX12_comesWord_34 ?_
  refine zmg_12 (pc := 35) hC hinX12_comesWord_X12 flX12_comesWord_46 dX12_comesWord_35 ?_
  refine zr_aload_n (pc := 38) hC 0 rfl rfl dX12_comesWord_38 ?_
  refine zmg_4 (pc := 39) hC hinX12_comesWord_X12 flX12_comesWord_22 dX12_comesWord_39 ?_
  refine zr_iload_n (pc := 42) hC 1 rfl rfl dX12_comesWord_42 ?_
  obtain ⟨i10, h⟩ := zgd h
  refine zml_5 (pc := 43) hC i10 dX12_comesWord_43 ?_
  refine zr_iconst (pc := 44) hC zki_1 dX12_comesWord_44 ?_
  refine zr_iadd (pc := 45) hC dX12_comesWord_45 ?_
  obtain ⟨i11, h⟩ := zgd h
  obtain ⟨M12, e13, h⟩ := zle h
  refine zms_5 (pc := 46) hC i11 e13 dX12_comesWord_46 ?_
  refine zr_aload_n (pc := 47) hC 0 rfl rfl dX12_comesWord_47 ?_
  refine zr_dup (pc := 48) hC rfl dX12_comesWord_48 ?_
  refine zmg_12 (pc := 49) hC hinX12_comesWord_X12 flX12_comesWord_46 dX12_comesWord_49 ?_
  refine zr_iconst (pc := 52) hC zki_1 dX12_comesWord_52 ?_
  refine zr_iadd (pc := 53) hC dX12_comesWord_53 ?_
  obtain ⟨M14, e15, h⟩ := zle h
  refine zmp_12 (pc := 54) hC hinX12_comesWord_X12 flX12_comesWord_46 e15 dX12_comesWord_54 ?_
  obtain rfl := Option.some.inj h
  exact zr_vret hC hR ⟨rfl, rfl⟩ (Nat.le_refl _) (Nat.le_refl _) dX12_comesWord_57
/-! X12_feed -/
theorem hyX12_feed : yX12_feed.cls = RX12 ∧ yX12_feed.cls ≠ "java/lang/invoke/MethodHandle" ∧ yX12_feed.cls ≠ "java/lang/invoke/VarHandle" ∧ (parseMethodDescriptor yX12_feed.desc).map (fun d => d.parameters.length) = some 2 := by decide +kernel
theorem flX12_feed_125 : Cond.fieldLink RX12 125 "BeforeTheEndModel" "taped" "I" ∈ wsX12_feed := by decide +kernel
theorem flX12_feed_131 : Jvm.Cond.constantLong RX12 131 (255) ∈ wsX12_feed := by decide +kernel
theorem flX12_feed_50 : Cond.fieldLink RX12 50 "BeforeTheEndModel" "tape" "[I" ∈ wsX12_feed := by decide +kernel
theorem hinX12_feed_X12 : ∀ w ∈ wsX120, w ∈ wsX12_feed := fun _ h => List.mem_cons_of_mem _ (List.mem_append_right _ h)
def xX12_feed_L44 (v1 : Int32) (v2 : Int64) (w0 : zM) (w1 : Int32) : Option ((zM × Int32) ⊕ zM) :=
  if v1 ≤ w1 then
  (some (.inr w0))
  else
  if ((w0.1 0 21) < 0 ∨ 64 ≤ (w0.1 0 21).toNatClampNeg) then none else
  zlet (zsi w0 13 (w0.1 0 21).toNatClampNeg ((v2 >>> (((8 : Int32) * w1).toInt64 &&& 63)) &&& (255 : Int64)).toInt32) fun M3 =>
  zlet (zsi M3 0 21 ((M3.1 0 21) + (1 : Int32))) fun M5 =>
  some (.inl (M5, (w1 + (1 : Int32))))
set_option maxHeartbeats 4000000 in
set_option maxRecDepth 100000 in
theorem tX12_feed_L44 {κ : Nat → ClassId} {E : zEn} {ad : Nat → Nat} {X : zX} {v1 : Int32} {v2 : Int64} {w0 : zM} {w1 : Int32} {r : ((zM × Int32) ⊕ zM)} (hC : zC X cX12_feed RX12 wsX12_feed vwCl (zty κ) E 6 ({ frames := 1, cells := 0, slots := 0, locals := 22 } : Room)) (hEk : zEk E) (hin : ∀ (x0' : zM) (x1' : Int32), r = .inl (x0', x1') → zV X 0 0 (zwM κ ad x0') [(0, .ref (ad 0)), (1, .int v1), (2, .long v2), (5, .int x1')] [] 44) (hout0 : ∀ (x0' : zM), r = .inr x0' → zV X 0 0 (zwM κ ad x0') [(0, .ref (ad 0))] [] 87) (h : xX12_feed_L44  v1 v2 w0 w1 = some r) : zV X 0 0 (zwM κ ad w0) [(0, .ref (ad 0)), (1, .int v1), (2, .long v2), (5, .int w1)] [] 44 := by
  unfold xX12_feed_L44 at h
  refine zr_iload (pc := 44) hC 3 rfl dX12_feed_44 ?_
  refine zr_iload_n (pc := 46) hC 1 rfl rfl dX12_feed_46 ?_
  refine zr_icmp_ge (pc := 47) (tgt := 87) hC dX12_feed_47 (by decide) (fun c1 => ?_) (fun c1 => ?_)
  · replace h := zip h c1
    obtain rfl := Option.some.inj h
    exact zV.sub (lv' := [(0, .ref (ad 0))]) [0] rfl (hout0 w0 rfl)
  · replace h := zin h c1
    refine zr_aload_n (pc := 50) hC 0 rfl rfl dX12_feed_50 ?_
    refine zmg_14 (pc := 51) hC hinX12_feed_X12 flX12_feed_50 dX12_feed_51 ?_
    refine zr_aload_n (pc := 54) hC 0 rfl rfl dX12_feed_54 ?_
    refine zmg_21 (pc := 55) hC hinX12_feed_X12 flX12_feed_125 dX12_feed_55 ?_
    refine zr_lload_n (pc := 58) hC 2 rfl rfl dX12_feed_58 ?_
    refine zr_bipush (pc := 59) hC zkb_8 dX12_feed_59 ?_
    refine zr_iload (pc := 61) hC 3 rfl dX12_feed_61 ?_
    refine zr_imul (pc := 63) hC dX12_feed_63 ?_
    refine zr_lshr (pc := 64) hC dX12_feed_64 ?_
    refine zr_ldc2 (pc := 65) hC flX12_feed_131 dX12_feed_65 ?_
    refine zr_land (pc := 68) hC dX12_feed_68 ?_
    refine zr_l2i (pc := 69) hC dX12_feed_69 ?_
    obtain ⟨i2, h⟩ := zgd h
    obtain ⟨M3, e4, h⟩ := zle h
    refine zms_13 (pc := 70) hC i2 e4 dX12_feed_70 ?_
    refine zr_aload_n (pc := 71) hC 0 rfl rfl dX12_feed_71 ?_
    refine zr_dup (pc := 72) hC rfl dX12_feed_72 ?_
    refine zmg_21 (pc := 73) hC hinX12_feed_X12 flX12_feed_125 dX12_feed_73 ?_
    refine zr_iconst (pc := 76) hC zki_1 dX12_feed_76 ?_
    refine zr_iadd (pc := 77) hC dX12_feed_77 ?_
    obtain ⟨M5, e6, h⟩ := zle h
    refine zmp_21 (pc := 78) hC hinX12_feed_X12 flX12_feed_125 e6 dX12_feed_78 ?_
    refine zr_iinc (pc := 81) (k := 3) (lv' := [(5, .int (w1 + (1 : Int32))), (0, .ref (ad 0)), (1, .int v1), (2, .long v2)]) hC zki_1 (by decide) rfl rfl dX12_feed_81 ?_
    refine zr_goto (pc := 84) (tgt := 44) hC dX12_feed_84 (by decide) ?_
    obtain rfl := Option.some.inj h
    exact zV.sub (lv' := [(0, .ref (ad 0)), (1, .int v1), (2, .long v2), (5, .int (w1 + (1 : Int32)))]) [1, 2, 3, 0] rfl (hin M5 (w1 + (1 : Int32)) rfl)
def xX12_feed (M : zM) (v1 : Int32) (v2 : Int64) : Option (Int32 × zM) :=
  (xX12_bound v1 (1 : Int32) (8 : Int32)).bind fun q1 =>
  if q1 = 0 then
  (if ((M.1 0 21) + v1) ≤ (64 : Int32) then
  (if q1 = 0 then
  ((x_it (fun a9 => xX12_feed_L44 v1 v2 a9.1 a9.2) zFU (M, (0 : Int32))).bind fun q8 =>
  some ((q8.1 0 21), q8))
  else
  (xX12_no M q1).bind fun q9 =>
  some (q9.1, q9.2))
  else
  (xX12_no M (-6 : Int32)).bind fun q10 =>
  some (q10.1, q10.2))
  else
  if q1 = 0 then
  ((x_it (fun a9 => xX12_feed_L44 v1 v2 a9.1 a9.2) zFU (M, (0 : Int32))).bind fun q4 =>
  some ((q4.1 0 21), q4))
  else
  (xX12_no M q1).bind fun q5 =>
  some (q5.1, q5.2)
set_option maxHeartbeats 4000000 in
set_option maxRecDepth 100000 in
theorem tX12_feed {κ : Nat → ClassId} {E : zEn} {ad : Nat → Nat} (hEk : zEk E) {M : zM} {v1 : Int32} {v2 : Int64} {res : (Int32 × zM)} (h : xX12_feed M v1 v2 = some res) (l : Launch) (D : va_G) : zCT E D vwCl (zty κ) l yX12_feed wsX12_feed ({ frames := 1, cells := 0, slots := 0, locals := 22 } : Room) 0 0 [.ref (ad 0), .int v1, .long v2] (zwM κ ad M) (zPd (some (.int res.1)) (zwM κ ad res.2)) := by
  refine zCT.of (cc := cX12_feed) (maxL := 6) (ret := (some .int)) (by decide) rfl (Nat.le_of_ble_eq_true rfl) ?_
  intro X hC hR
  unfold xX12_feed at h
  refine zV.sub (lv' := [(0, .ref (ad 0)), (1, .int v1), (2, .long v2)]) [0, 1, 2] rfl ?_
  refine zr_iload_n (pc := 0) hC 1 rfl rfl dX12_feed_0 ?_
  refine zr_iconst (pc := 1) hC zki_1 dX12_feed_1 ?_
  refine zr_bipush (pc := 2) hC zkb_8 dX12_feed_2 ?_
  obtain ⟨q1, hq1, h⟩ := zbd h
  refine zr_cSi (pc := 4) hC hEk [.int v1, .int (1 : Int32), .int (8 : Int32)] [] 3 (fun l D => tX12_bound hEk hq1 l D) gX12_feed_X12_bound rfl rfl rfl ⟨Nat.le_of_ble_eq_true rfl, Nat.le_of_ble_eq_true rfl⟩ hyX12_bound rfl rfl (Nat.le_of_ble_eq_true rfl) ⟨Nat.le_of_ble_eq_true rfl, Nat.le_of_ble_eq_true rfl⟩ dX12_feed_4 ?_
  refine zr_istore (pc := 7) (lv' := [(4, .int q1), (0, .ref (ad 0)), (1, .int v1), (2, .long v2)]) hC (by decide) rfl dX12_feed_7 ?_
  refine zr_iload (pc := 9) hC 0 rfl dX12_feed_9 ?_
  refine zr_if_ne (pc := 11) (tgt := 29) hC dX12_feed_11 (by decide) (fun c2 => ?_) (fun c2 => ?_)
  · replace h := zin h c2
    refine zr_iload (pc := 29) hC 0 rfl dX12_feed_29 ?_
    refine zr_if_eq (pc := 31) (tgt := 41) hC dX12_feed_31 (by decide) (fun c3 => ?_) (fun c3 => ?_)
    · replace h := zip h c3
      refine zr_iconst (pc := 41) hC zki_0 dX12_feed_41 ?_
      refine zr_istore (pc := 42) (lv' := [(5, .int (0 : Int32)), (4, .int q1), (0, .ref (ad 0)), (1, .int v1), (2, .long v2)]) hC (by decide) rfl dX12_feed_42 ?_
      obtain ⟨q4, hq4, h⟩ := zbd h
      refine zV.sub (lv' := [(0, .ref (ad 0)), (1, .int v1), (2, .long v2), (5, .int (0 : Int32))]) [2, 3, 4, 0] rfl ?_
      refine zit2 (Wp := fun (y0 : zM) (y1 : Int32) => zV X 0 0 (zwM κ ad y0) [(0, .ref (ad 0)), (1, .int v1), (2, .long v2), (5, .int y1)] [] 44) (Ex := fun (b9 : zM) => zV X 0 0 (zwM κ ad b9) [(0, .ref (ad 0))] [] 87) (fun y0 y1 r9 hr hin hout => tX12_feed_L44 hC hEk hin (fun z0 e9 => hout z0 e9) hr) zFU M (0 : Int32) q4 hq4 ?_
      show zV X 0 0 (zwM κ ad q4) [(0, .ref (ad 0))] [] 87
      refine zr_aload_n (pc := 87) hC 0 rfl rfl dX12_feed_87 ?_
      refine zmg_21 (pc := 88) hC hinX12_feed_X12 flX12_feed_125 dX12_feed_88 ?_
      obtain rfl := Option.some.inj h
      exact zr_iret hC hR ⟨rfl, rfl⟩ (Nat.le_refl _) (Nat.le_refl _) dX12_feed_91
    · replace h := zin h c3
      refine zr_aload_n (pc := 34) hC 1 rfl rfl dX12_feed_34 ?_
      refine zr_iload (pc := 35) hC 0 rfl dX12_feed_35 ?_
      obtain ⟨q5, hq5, h⟩ := zbd h
      refine zr_cVi (pc := 37) hC hEk [.int q1] [] 0 1 (fun l D => tX12_no hEk hq5 l D) gX12_feed_X12_no rfl rfl rfl ⟨Nat.le_of_ble_eq_true rfl, Nat.le_of_ble_eq_true rfl⟩ hyX12_no (by decide) entM_0 rfl rfl rfl (Nat.le_of_ble_eq_true rfl) ⟨Nat.le_of_ble_eq_true rfl, Nat.le_of_ble_eq_true rfl⟩ dX12_feed_37 ?_
      obtain rfl := Option.some.inj h
      exact zr_iret hC hR ⟨rfl, rfl⟩ (Nat.le_refl _) (Nat.le_refl _) dX12_feed_40
  · replace h := zip h c2
    refine zr_aload_n (pc := 14) hC 1 rfl rfl dX12_feed_14 ?_
    refine zmg_21 (pc := 15) hC hinX12_feed_X12 flX12_feed_125 dX12_feed_15 ?_
    refine zr_iload_n (pc := 18) hC 2 rfl rfl dX12_feed_18 ?_
    refine zr_iadd (pc := 19) hC dX12_feed_19 ?_
    refine zr_bipush (pc := 20) hC zkb_64 dX12_feed_20 ?_
    refine zr_icmp_le (pc := 22) (tgt := 29) hC dX12_feed_22 (by decide) (fun c6 => ?_) (fun c6 => ?_)
    · replace h := zip h c6
      refine zr_iload (pc := 29) hC 0 rfl dX12_feed_29 ?_
      refine zr_if_eq (pc := 31) (tgt := 41) hC dX12_feed_31 (by decide) (fun c7 => ?_) (fun c7 => ?_)
      · replace h := zip h c7
        refine zr_iconst (pc := 41) hC zki_0 dX12_feed_41 ?_
        refine zr_istore (pc := 42) (lv' := [(5, .int (0 : Int32)), (4, .int q1), (0, .ref (ad 0)), (1, .int v1), (2, .long v2)]) hC (by decide) rfl dX12_feed_42 ?_
        obtain ⟨q8, hq8, h⟩ := zbd h
        refine zV.sub (lv' := [(0, .ref (ad 0)), (1, .int v1), (2, .long v2), (5, .int (0 : Int32))]) [2, 3, 4, 0] rfl ?_
        refine zit2 (Wp := fun (y0 : zM) (y1 : Int32) => zV X 0 0 (zwM κ ad y0) [(0, .ref (ad 0)), (1, .int v1), (2, .long v2), (5, .int y1)] [] 44) (Ex := fun (b9 : zM) => zV X 0 0 (zwM κ ad b9) [(0, .ref (ad 0))] [] 87) (fun y0 y1 r9 hr hin hout => tX12_feed_L44 hC hEk hin (fun z0 e9 => hout z0 e9) hr) zFU M (0 : Int32) q8 hq8 ?_
        show zV X 0 0 (zwM κ ad q8) [(0, .ref (ad 0))] [] 87
        refine zr_aload_n (pc := 87) hC 0 rfl rfl dX12_feed_87 ?_
        refine zmg_21 (pc := 88) hC hinX12_feed_X12 flX12_feed_125 dX12_feed_88 ?_
        obtain rfl := Option.some.inj h
        exact zr_iret hC hR ⟨rfl, rfl⟩ (Nat.le_refl _) (Nat.le_refl _) dX12_feed_91
      · replace h := zin h c7
        refine zr_aload_n (pc := 34) hC 1 rfl rfl dX12_feed_34 ?_
        refine zr_iload (pc := 35) hC 0 rfl dX12_feed_35 ?_
        obtain ⟨q9, hq9, h⟩ := zbd h
        refine zr_cVi (pc := 37) hC hEk [.int q1] [] 0 1 (fun l D => tX12_no hEk hq9 l D) gX12_feed_X12_no rfl rfl rfl ⟨Nat.le_of_ble_eq_true rfl, Nat.le_of_ble_eq_true rfl⟩ hyX12_no (by decide) entM_0 rfl rfl rfl (Nat.le_of_ble_eq_true rfl) ⟨Nat.le_of_ble_eq_true rfl, Nat.le_of_ble_eq_true rfl⟩ dX12_feed_37 ?_
        obtain rfl := Option.some.inj h
        exact zr_iret hC hR ⟨rfl, rfl⟩ (Nat.le_refl _) (Nat.le_refl _) dX12_feed_40
    · replace h := zin h c6
      refine zr_bipush (pc := 25) hC zkb_m6 dX12_feed_25 ?_
      refine zr_istore (pc := 27) (lv' := [(4, .int (-6 : Int32)), (0, .ref (ad 0)), (1, .int v1), (2, .long v2)]) hC (by decide) rfl dX12_feed_27 ?_
      refine zr_iload (pc := 29) hC 0 rfl dX12_feed_29 ?_
      refine zr_if_eq (pc := 31) (tgt := 41) hC dX12_feed_31 (by decide) (fun c => absurd c (by decide)) (fun _ => ?_)
      refine zr_aload_n (pc := 34) hC 1 rfl rfl dX12_feed_34 ?_
      refine zr_iload (pc := 35) hC 0 rfl dX12_feed_35 ?_
      obtain ⟨q10, hq10, h⟩ := zbd h
      refine zr_cVi (pc := 37) hC hEk [.int (-6 : Int32)] [] 0 1 (fun l D => tX12_no hEk hq10 l D) gX12_feed_X12_no rfl rfl rfl ⟨Nat.le_of_ble_eq_true rfl, Nat.le_of_ble_eq_true rfl⟩ hyX12_no (by decide) entM_0 rfl rfl rfl (Nat.le_of_ble_eq_true rfl) ⟨Nat.le_of_ble_eq_true rfl, Nat.le_of_ble_eq_true rfl⟩ dX12_feed_37 ?_
      obtain rfl := Option.some.inj h
      exact zr_iret hC hR ⟨rfl, rfl⟩ (Nat.le_refl _) (Nat.le_refl _) dX12_feed_40
/-! X12_sign -/
theorem hyX12_sign : yX12_sign.cls = RX12 ∧ yX12_sign.cls ≠ "java/lang/invoke/MethodHandle" ∧ yX12_sign.cls ≠ "java/lang/invoke/VarHandle" ∧ (parseMethodDescriptor yX12_sign.desc).map (fun d => d.parameters.length) = some 0 := by decide +kernel
theorem flX12_sign_125 : Cond.fieldLink RX12 125 "BeforeTheEndModel" "taped" "I" ∈ wsX12_sign := by decide +kernel
theorem flX12_sign_133 : Cond.fieldLink RX12 133 "BeforeTheEndModel" "at" "I" ∈ wsX12_sign := by decide +kernel
theorem flX12_sign_50 : Cond.fieldLink RX12 50 "BeforeTheEndModel" "tape" "[I" ∈ wsX12_sign := by decide +kernel
theorem hinX12_sign_X12 : ∀ w ∈ wsX120, w ∈ wsX12_sign := fun _ h => List.mem_cons_of_mem _ (List.mem_append_right _ h)
def xX12_sign (M : zM)  : Option Int32 :=
  if (M.1 0 21) ≤ (M.1 0 22) then
  (some (-1 : Int32))
  else
  if ((M.1 0 22) < 0 ∨ 64 ≤ (M.1 0 22).toNatClampNeg) then none else
  some (M.1 13 (M.1 0 22).toNatClampNeg)
set_option maxHeartbeats 4000000 in
set_option maxRecDepth 100000 in
theorem tX12_sign {κ : Nat → ClassId} {E : zEn} {ad : Nat → Nat} (hEk : zEk E) {M : zM}  {res : Int32} (h : xX12_sign M  = some res) (l : Launch) (D : va_G) : zCT E D vwCl (zty κ) l yX12_sign wsX12_sign ({ frames := 0, cells := 0, slots := 0, locals := 0 } : Room) 0 0 [.ref (ad 0)] (zwM κ ad M) (zPd (some (.int res)) (zwM κ ad M)) := by
  refine zCT.of (cc := cX12_sign) (maxL := 1) (ret := (some .int)) (by decide) rfl (Nat.le_of_ble_eq_true rfl) ?_
  intro X hC hR
  unfold xX12_sign at h
  refine zV.sub (lv' := [(0, .ref (ad 0))]) [0] rfl ?_
  refine zr_aload_n (pc := 0) hC 0 rfl rfl dX12_sign_0 ?_
  refine zmg_22 (pc := 1) hC hinX12_sign_X12 flX12_sign_133 dX12_sign_1 ?_
  refine zr_aload_n (pc := 4) hC 0 rfl rfl dX12_sign_4 ?_
  refine zmg_21 (pc := 5) hC hinX12_sign_X12 flX12_sign_125 dX12_sign_5 ?_
  refine zr_icmp_ge (pc := 8) (tgt := 23) hC dX12_sign_8 (by decide) (fun c1 => ?_) (fun c1 => ?_)
  · replace h := zip h c1
    refine zr_iconst (pc := 23) hC zki_m1 dX12_sign_23 ?_
    obtain rfl := Option.some.inj h
    exact zr_iret hC hR ⟨rfl, rfl⟩ (Nat.le_refl _) (Nat.le_refl _) dX12_sign_24
  · replace h := zin h c1
    refine zr_aload_n (pc := 11) hC 0 rfl rfl dX12_sign_11 ?_
    refine zmg_14 (pc := 12) hC hinX12_sign_X12 flX12_sign_50 dX12_sign_12 ?_
    refine zr_aload_n (pc := 15) hC 0 rfl rfl dX12_sign_15 ?_
    refine zmg_22 (pc := 16) hC hinX12_sign_X12 flX12_sign_133 dX12_sign_16 ?_
    obtain ⟨i2, h⟩ := zgd h
    refine zml_13 (pc := 19) hC i2 dX12_sign_19 ?_
    refine zr_goto (pc := 20) (tgt := 24) hC dX12_sign_20 (by decide) ?_
    obtain rfl := Option.some.inj h
    exact zr_iret hC hR ⟨rfl, rfl⟩ (Nat.le_refl _) (Nat.le_refl _) dX12_sign_24
/-! X12_takes -/
theorem hyX12_takes : yX12_takes.cls = RX12 ∧ yX12_takes.cls ≠ "java/lang/invoke/MethodHandle" ∧ yX12_takes.cls ≠ "java/lang/invoke/VarHandle" ∧ (parseMethodDescriptor yX12_takes.desc).map (fun d => d.parameters.length) = some 1 := by decide +kernel
theorem flX12_takes_133 : Cond.fieldLink RX12 133 "BeforeTheEndModel" "at" "I" ∈ wsX12_takes := by decide +kernel
theorem hinX12_takes_X12 : ∀ w ∈ wsX120, w ∈ wsX12_takes := fun _ h => List.mem_cons_of_mem _ (List.mem_append_right _ h)
def xX12_takes (M : zM) (v1 : Int32) : Option (Int32 × zM) :=
  (xX12_sign M).bind fun q1 =>
  if q1 = v1 then
  (zlet (zsi M 0 22 ((M.1 0 22) + (1 : Int32))) fun M3 =>
  some ((1 : Int32), M3))
  else
  some ((0 : Int32), M)
set_option maxHeartbeats 4000000 in
set_option maxRecDepth 100000 in
theorem tX12_takes {κ : Nat → ClassId} {E : zEn} {ad : Nat → Nat} (hEk : zEk E) {M : zM} {v1 : Int32} {res : (Int32 × zM)} (h : xX12_takes M v1 = some res) (l : Launch) (D : va_G) : zCT E D vwCl (zty κ) l yX12_takes wsX12_takes ({ frames := 1, cells := 0, slots := 0, locals := 20 } : Room) 0 0 [.ref (ad 0), .int v1] (zwM κ ad M) (zPd (some (.int res.1)) (zwM κ ad res.2)) := by
  refine zCT.of (cc := cX12_takes) (maxL := 2) (ret := (some .boolean)) (by decide) rfl (Nat.le_of_ble_eq_true rfl) ?_
  intro X hC hR
  unfold xX12_takes at h
  refine zV.sub (lv' := [(0, .ref (ad 0)), (1, .int v1)]) [0, 1] rfl ?_
  refine zr_aload_n (pc := 0) hC 0 rfl rfl dX12_takes_0 ?_
  obtain ⟨q1, hq1, h⟩ := zbd h
  refine zr_cVi (pc := 1) hC hEk [] [] 0 0 (fun l D => tX12_sign hEk hq1 l D) gX12_takes_X12_sign rfl rfl rfl ⟨Nat.le_of_ble_eq_true rfl, Nat.le_of_ble_eq_true rfl⟩ hyX12_sign (by decide) entM_0 rfl rfl rfl (Nat.le_of_ble_eq_true rfl) ⟨Nat.le_of_ble_eq_true rfl, Nat.le_of_ble_eq_true rfl⟩ dX12_takes_1 ?_
  refine zr_iload_n (pc := 4) hC 1 rfl rfl dX12_takes_4 ?_
  refine zr_icmp_eq (pc := 5) (tgt := 10) hC dX12_takes_5 (by decide) (fun c2 => ?_) (fun c2 => ?_)
  · replace h := zip h c2
    refine zr_aload_n (pc := 10) hC 0 rfl rfl dX12_takes_10 ?_
    refine zr_dup (pc := 11) hC rfl dX12_takes_11 ?_
    refine zmg_22 (pc := 12) hC hinX12_takes_X12 flX12_takes_133 dX12_takes_12 ?_
    refine zr_iconst (pc := 15) hC zki_1 dX12_takes_15 ?_
    refine zr_iadd (pc := 16) hC dX12_takes_16 ?_
    obtain ⟨M3, e4, h⟩ := zle h
    refine zmp_22 (pc := 17) hC hinX12_takes_X12 flX12_takes_133 e4 dX12_takes_17 ?_
    refine zr_iconst (pc := 20) hC zki_1 dX12_takes_20 ?_
    obtain rfl := Option.some.inj h
    exact zr_zret hC hR (by decide) ⟨rfl, rfl⟩ (Nat.le_refl _) (Nat.le_refl _) dX12_takes_21
  · replace h := zin h c2
    refine zr_iconst (pc := 8) hC zki_0 dX12_takes_8 ?_
    obtain rfl := Option.some.inj h
    exact zr_zret hC hR (by decide) ⟨rfl, rfl⟩ (Nat.le_refl _) (Nat.le_refl _) dX12_takes_9
/-! X12_number -/
theorem hyX12_number : yX12_number.cls = RX12 ∧ yX12_number.cls ≠ "java/lang/invoke/MethodHandle" ∧ yX12_number.cls ≠ "java/lang/invoke/VarHandle" ∧ (parseMethodDescriptor yX12_number.desc).map (fun d => d.parameters.length) = some 1 := by decide +kernel
theorem flX12_number_133 : Cond.fieldLink RX12 133 "BeforeTheEndModel" "at" "I" ∈ wsX12_number := by decide +kernel
theorem hinX12_number_X12 : ∀ w ∈ wsX120, w ∈ wsX12_number := fun _ h => List.mem_cons_of_mem _ (List.mem_append_right _ h)
def xX12_number_L20 (v1 : Int32) (w0 : zM) (w1 : Int32) (w2 : Int32) : Option ((zM × Int32 × Int32) ⊕ (zM × Int32)) :=
  if v1 ≤ w2 then
  (some (.inr (w0, w1)))
  else
  (xX12_sign w0).bind fun q2 =>
  (xX12_isIn q2 (48 : Int32) (57 : Int32)).bind fun q3 =>
  if q3 = 0 then
  (some (.inr (w0, w1)))
  else
  (xX12_sign w0).bind fun q5 =>
  zlet ((((10 : Int32) * w1) + q5) - (48 : Int32)) fun z6 =>
  zlet (zsi w0 0 22 ((w0.1 0 22) + (1 : Int32))) fun M8 =>
  some (.inl (M8, z6, (w2 + (1 : Int32))))
set_option maxHeartbeats 4000000 in
set_option maxRecDepth 100000 in
theorem tX12_number_L20 {κ : Nat → ClassId} {E : zEn} {ad : Nat → Nat} {X : zX} {v1 : Int32} {w0 : zM} {w1 : Int32} {w2 : Int32} {r : ((zM × Int32 × Int32) ⊕ (zM × Int32))} (hC : zC X cX12_number RX12 wsX12_number vwCl (zty κ) E 4 ({ frames := 1, cells := 0, slots := 0, locals := 22 } : Room)) (hEk : zEk E) (hin : ∀ (x0' : zM) (x1' : Int32) (x2' : Int32), r = .inl (x0', x1', x2') → zV X 0 0 (zwM κ ad x0') [(0, .ref (ad 0)), (1, .int v1), (2, .int x1'), (3, .int x2')] [] 20) (hout0 : ∀ (x0' : zM) (x1' : Int32), r = .inr (x0', x1') → zV X 0 0 (zwM κ ad x0') [(2, .int x1')] [] 68) (h : xX12_number_L20  v1 w0 w1 w2 = some r) : zV X 0 0 (zwM κ ad w0) [(0, .ref (ad 0)), (1, .int v1), (2, .int w1), (3, .int w2)] [] 20 := by
  unfold xX12_number_L20 at h
  refine zr_iload_n (pc := 20) hC 3 rfl rfl dX12_number_20 ?_
  refine zr_iload_n (pc := 21) hC 1 rfl rfl dX12_number_21 ?_
  refine zr_icmp_ge (pc := 22) (tgt := 68) hC dX12_number_22 (by decide) (fun c1 => ?_) (fun c1 => ?_)
  · replace h := zip h c1
    obtain rfl := Option.some.inj h
    exact zV.sub (lv' := [(2, .int w1)]) [2] rfl (hout0 w0 w1 rfl)
  · replace h := zin h c1
    refine zr_aload_n (pc := 25) hC 0 rfl rfl dX12_number_25 ?_
    obtain ⟨q2, hq2, h⟩ := zbd h
    refine zr_cVi (pc := 26) hC hEk [] [] 0 0 (fun l D => tX12_sign hEk hq2 l D) gX12_number_X12_sign rfl rfl rfl ⟨Nat.le_of_ble_eq_true rfl, Nat.le_of_ble_eq_true rfl⟩ hyX12_sign (by decide) entM_0 rfl rfl rfl (Nat.le_of_ble_eq_true rfl) ⟨Nat.le_of_ble_eq_true rfl, Nat.le_of_ble_eq_true rfl⟩ dX12_number_26 ?_
    refine zr_bipush (pc := 29) hC zkb_48 dX12_number_29 ?_
    refine zr_bipush (pc := 31) hC zkb_57 dX12_number_31 ?_
    obtain ⟨q3, hq3, h⟩ := zbd h
    refine zr_cSi (pc := 33) hC hEk [.int q2, .int (48 : Int32), .int (57 : Int32)] [] 3 (fun l D => tX12_isIn hEk hq3 l D) gX12_number_X12_isIn rfl rfl rfl ⟨Nat.le_of_ble_eq_true rfl, Nat.le_of_ble_eq_true rfl⟩ hyX12_isIn rfl rfl (Nat.le_of_ble_eq_true rfl) ⟨Nat.le_of_ble_eq_true rfl, Nat.le_of_ble_eq_true rfl⟩ dX12_number_33 ?_
    refine zr_if_eq (pc := 36) (tgt := 68) hC dX12_number_36 (by decide) (fun c4 => ?_) (fun c4 => ?_)
    · replace h := zip h c4
      obtain rfl := Option.some.inj h
      exact zV.sub (lv' := [(2, .int w1)]) [2] rfl (hout0 w0 w1 rfl)
    · replace h := zin h c4
      refine zr_bipush (pc := 39) hC zkb_10 dX12_number_39 ?_
      refine zr_iload_n (pc := 41) hC 2 rfl rfl dX12_number_41 ?_
      refine zr_imul (pc := 42) hC dX12_number_42 ?_
      refine zr_aload_n (pc := 43) hC 0 rfl rfl dX12_number_43 ?_
      obtain ⟨q5, hq5, h⟩ := zbd h
      refine zr_cVi (pc := 44) hC hEk [] [.int ((10 : Int32) * w1)] 0 0 (fun l D => tX12_sign hEk hq5 l D) gX12_number_X12_sign rfl rfl rfl ⟨Nat.le_of_ble_eq_true rfl, Nat.le_of_ble_eq_true rfl⟩ hyX12_sign (by decide) entM_0 rfl rfl rfl (Nat.le_of_ble_eq_true rfl) ⟨Nat.le_of_ble_eq_true rfl, Nat.le_of_ble_eq_true rfl⟩ dX12_number_44 ?_
      refine zr_iadd (pc := 47) hC dX12_number_47 ?_
      refine zr_bipush (pc := 48) hC zkb_48 dX12_number_48 ?_
      refine zr_isub (pc := 50) hC dX12_number_50 ?_
      obtain ⟨z6, e7, h⟩ := zle h
      refine zr_topi e7 ?_
      refine zr_istore_n (pc := 51) (lv' := [(2, .int z6), (0, .ref (ad 0)), (1, .int v1), (3, .int w2)]) hC rfl (by decide) rfl dX12_number_51 ?_
      refine zr_aload_n (pc := 52) hC 1 rfl rfl dX12_number_52 ?_
      refine zr_dup (pc := 53) hC rfl dX12_number_53 ?_
      refine zmg_22 (pc := 54) hC hinX12_number_X12 flX12_number_133 dX12_number_54 ?_
      refine zr_iconst (pc := 57) hC zki_1 dX12_number_57 ?_
      refine zr_iadd (pc := 58) hC dX12_number_58 ?_
      obtain ⟨M8, e9, h⟩ := zle h
      refine zmp_22 (pc := 59) hC hinX12_number_X12 flX12_number_133 e9 dX12_number_59 ?_
      refine zr_iinc (pc := 62) (k := 3) (lv' := [(3, .int (w2 + (1 : Int32))), (2, .int z6), (0, .ref (ad 0)), (1, .int v1)]) hC zki_1 (by decide) rfl rfl dX12_number_62 ?_
      refine zr_goto (pc := 65) (tgt := 20) hC dX12_number_65 (by decide) ?_
      obtain rfl := Option.some.inj h
      exact zV.sub (lv' := [(0, .ref (ad 0)), (1, .int v1), (2, .int z6), (3, .int (w2 + (1 : Int32)))]) [2, 3, 1, 0] rfl (hin M8 z6 (w2 + (1 : Int32)) rfl)
def xX12_number (M : zM) (v1 : Int32) : Option (Int32 × zM) :=
  (xX12_sign M).bind fun q1 =>
  (xX12_isIn q1 (48 : Int32) (57 : Int32)).bind fun q2 =>
  if q2 = 0 then
  (some ((-1 : Int32), M))
  else
  (x_it (fun a9 => xX12_number_L20 v1 a9.1 a9.2.1 a9.2.2) zFU (M, (0 : Int32), (0 : Int32))).bind fun q4 =>
  some (q4.2, q4.1)
set_option maxHeartbeats 4000000 in
set_option maxRecDepth 100000 in
theorem tX12_number {κ : Nat → ClassId} {E : zEn} {ad : Nat → Nat} (hEk : zEk E) {M : zM} {v1 : Int32} {res : (Int32 × zM)} (h : xX12_number M v1 = some res) (l : Launch) (D : va_G) : zCT E D vwCl (zty κ) l yX12_number wsX12_number ({ frames := 1, cells := 0, slots := 0, locals := 22 } : Room) 0 0 [.ref (ad 0), .int v1] (zwM κ ad M) (zPd (some (.int res.1)) (zwM κ ad res.2)) := by
  refine zCT.of (cc := cX12_number) (maxL := 4) (ret := (some .int)) (by decide) rfl (Nat.le_of_ble_eq_true rfl) ?_
  intro X hC hR
  unfold xX12_number at h
  refine zV.sub (lv' := [(0, .ref (ad 0)), (1, .int v1)]) [0, 1] rfl ?_
  refine zr_aload_n (pc := 0) hC 0 rfl rfl dX12_number_0 ?_
  obtain ⟨q1, hq1, h⟩ := zbd h
  refine zr_cVi (pc := 1) hC hEk [] [] 0 0 (fun l D => tX12_sign hEk hq1 l D) gX12_number_X12_sign rfl rfl rfl ⟨Nat.le_of_ble_eq_true rfl, Nat.le_of_ble_eq_true rfl⟩ hyX12_sign (by decide) entM_0 rfl rfl rfl (Nat.le_of_ble_eq_true rfl) ⟨Nat.le_of_ble_eq_true rfl, Nat.le_of_ble_eq_true rfl⟩ dX12_number_1 ?_
  refine zr_bipush (pc := 4) hC zkb_48 dX12_number_4 ?_
  refine zr_bipush (pc := 6) hC zkb_57 dX12_number_6 ?_
  obtain ⟨q2, hq2, h⟩ := zbd h
  refine zr_cSi (pc := 8) hC hEk [.int q1, .int (48 : Int32), .int (57 : Int32)] [] 3 (fun l D => tX12_isIn hEk hq2 l D) gX12_number_X12_isIn rfl rfl rfl ⟨Nat.le_of_ble_eq_true rfl, Nat.le_of_ble_eq_true rfl⟩ hyX12_isIn rfl rfl (Nat.le_of_ble_eq_true rfl) ⟨Nat.le_of_ble_eq_true rfl, Nat.le_of_ble_eq_true rfl⟩ dX12_number_8 ?_
  refine zr_if_ne (pc := 11) (tgt := 16) hC dX12_number_11 (by decide) (fun c3 => ?_) (fun c3 => ?_)
  · replace h := zin h c3
    refine zr_iconst (pc := 16) hC zki_0 dX12_number_16 ?_
    refine zr_istore_n (pc := 17) (lv' := [(2, .int (0 : Int32)), (0, .ref (ad 0)), (1, .int v1)]) hC rfl (by decide) rfl dX12_number_17 ?_
    refine zr_iconst (pc := 18) hC zki_0 dX12_number_18 ?_
    refine zr_istore_n (pc := 19) (lv' := [(3, .int (0 : Int32)), (2, .int (0 : Int32)), (0, .ref (ad 0)), (1, .int v1)]) hC rfl (by decide) rfl dX12_number_19 ?_
    obtain ⟨q4, hq4, h⟩ := zbd h
    refine zV.sub (lv' := [(0, .ref (ad 0)), (1, .int v1), (2, .int (0 : Int32)), (3, .int (0 : Int32))]) [2, 3, 1, 0] rfl ?_
    refine zit3 (Wp := fun (y0 : zM) (y1 : Int32) (y2 : Int32) => zV X 0 0 (zwM κ ad y0) [(0, .ref (ad 0)), (1, .int v1), (2, .int y1), (3, .int y2)] [] 20) (Ex := fun (b9 : (zM × Int32)) => zV X 0 0 (zwM κ ad b9.1) [(2, .int b9.2)] [] 68) (fun y0 y1 y2 r9 hr hin hout => tX12_number_L20 hC hEk hin (fun z0 z1 e9 => hout (z0, z1) e9) hr) zFU M (0 : Int32) (0 : Int32) q4 hq4 ?_
    show zV X 0 0 (zwM κ ad q4.1) [(2, .int q4.2)] [] 68
    refine zr_iload_n (pc := 68) hC 0 rfl rfl dX12_number_68 ?_
    obtain rfl := Option.some.inj h
    exact zr_iret hC hR ⟨rfl, rfl⟩ (Nat.le_refl _) (Nat.le_refl _) dX12_number_69
  · replace h := zip h c3
    refine zr_iconst (pc := 14) hC zki_m1 dX12_number_14 ?_
    obtain rfl := Option.some.inj h
    exact zr_iret hC hR ⟨rfl, rfl⟩ (Nat.le_refl _) (Nat.le_refl _) dX12_number_15
/-! X12_readsWord -/
theorem hyX12_readsWord : yX12_readsWord.cls = RX12 ∧ yX12_readsWord.cls ≠ "java/lang/invoke/MethodHandle" ∧ yX12_readsWord.cls ≠ "java/lang/invoke/VarHandle" ∧ (parseMethodDescriptor yX12_readsWord.desc).map (fun d => d.parameters.length) = some 1 := by decide +kernel
theorem flX12_readsWord_53 : Cond.fieldLink RX12 53 "BeforeTheEndModel" "told1" "[I" ∈ wsX12_readsWord := by decide +kernel
theorem flX12_readsWord_56 : Cond.fieldLink RX12 56 "BeforeTheEndModel" "told2" "[I" ∈ wsX12_readsWord := by decide +kernel
theorem flX12_readsWord_59 : Cond.fieldLink RX12 59 "BeforeTheEndModel" "told3" "[I" ∈ wsX12_readsWord := by decide +kernel
theorem hinX12_readsWord_X12 : ∀ w ∈ wsX120, w ∈ wsX12_readsWord := fun _ h => List.mem_cons_of_mem _ (List.mem_append_right _ h)
def xX12_readsWord (M : zM) (v1 : Int32) : Option (Int32 × zM) :=
  (xX12_number M (2 : Int32)).bind fun q1 =>
  if (v1 < 0 ∨ 32 ≤ v1.toNatClampNeg) then none else
  zlet (zsi q1.2 14 v1.toNatClampNeg q1.1) fun M3 =>
  if (M3.1 14 v1.toNatClampNeg) < 0 then
  (some ((0 : Int32), M3))
  else
  (xX12_takes M3 (44 : Int32)).bind fun q6 =>
  if q6.1 = 0 then
  (some ((0 : Int32), q6.2))
  else
  (xX12_number q6.2 (1 : Int32)).bind fun q8 =>
  zlet (zsi q8.2 15 v1.toNatClampNeg q8.1) fun M9 =>
  if (M9.1 15 v1.toNatClampNeg) < 0 then
  (some ((0 : Int32), M9))
  else
  (xX12_takes M9 (44 : Int32)).bind fun q12 =>
  if q12.1 = 0 then
  (some ((0 : Int32), q12.2))
  else
  (xX12_number q12.2 (1 : Int32)).bind fun q14 =>
  zlet (zsi q14.2 16 v1.toNatClampNeg q14.1) fun M15 =>
  if (M15.1 16 v1.toNatClampNeg) < 0 then
  (some ((0 : Int32), M15))
  else
  (xX12_takes M15 (59 : Int32)).bind fun q18 =>
  if q18.1 = 0 then
  (some ((0 : Int32), q18.2))
  else
  some ((1 : Int32), q18.2)
set_option maxHeartbeats 4000000 in
set_option maxRecDepth 100000 in
theorem tX12_readsWord {κ : Nat → ClassId} {E : zEn} {ad : Nat → Nat} (hEk : zEk E) {M : zM} {v1 : Int32} {res : (Int32 × zM)} (h : xX12_readsWord M v1 = some res) (l : Launch) (D : va_G) : zCT E D vwCl (zty κ) l yX12_readsWord wsX12_readsWord ({ frames := 2, cells := 0, slots := 0, locals := 45 } : Room) 0 0 [.ref (ad 0), .int v1] (zwM κ ad M) (zPd (some (.int res.1)) (zwM κ ad res.2)) := by
  refine zCT.of (cc := cX12_readsWord) (maxL := 2) (ret := (some .boolean)) (by decide) rfl (Nat.le_of_ble_eq_true rfl) ?_
  intro X hC hR
  unfold xX12_readsWord at h
  refine zV.sub (lv' := [(0, .ref (ad 0)), (1, .int v1)]) [0, 1] rfl ?_
  refine zr_aload_n (pc := 0) hC 0 rfl rfl dX12_readsWord_0 ?_
  refine zmg_15 (pc := 1) hC hinX12_readsWord_X12 flX12_readsWord_53 dX12_readsWord_1 ?_
  refine zr_iload_n (pc := 4) hC 1 rfl rfl dX12_readsWord_4 ?_
  refine zr_aload_n (pc := 5) hC 0 rfl rfl dX12_readsWord_5 ?_
  refine zr_iconst (pc := 6) hC zki_2 dX12_readsWord_6 ?_
  obtain ⟨q1, hq1, h⟩ := zbd h
  refine zr_cVi (pc := 7) hC hEk [.int (2 : Int32)] [.int v1, .ref (ad 14)] 0 1 (fun l D => tX12_number hEk hq1 l D) gX12_readsWord_X12_number rfl rfl rfl ⟨Nat.le_of_ble_eq_true rfl, Nat.le_of_ble_eq_true rfl⟩ hyX12_number (by decide) entM_0 rfl rfl rfl (Nat.le_of_ble_eq_true rfl) ⟨Nat.le_of_ble_eq_true rfl, Nat.le_of_ble_eq_true rfl⟩ dX12_readsWord_7 ?_
  obtain ⟨i2, h⟩ := zgd h
  obtain ⟨M3, e4, h⟩ := zle h
  refine zms_14 (pc := 10) hC i2 e4 dX12_readsWord_10 ?_
  refine zr_aload_n (pc := 11) hC 0 rfl rfl dX12_readsWord_11 ?_
  refine zmg_15 (pc := 12) hC hinX12_readsWord_X12 flX12_readsWord_53 dX12_readsWord_12 ?_
  refine zr_iload_n (pc := 15) hC 1 rfl rfl dX12_readsWord_15 ?_
  refine zml_14 (pc := 16) hC i2 dX12_readsWord_16 ?_
  refine zr_if_lt (pc := 17) (tgt := 29) hC dX12_readsWord_17 (by decide) (fun c5 => ?_) (fun c5 => ?_)
  · replace h := zip h c5
    refine zr_iconst (pc := 29) hC zki_0 dX12_readsWord_29 ?_
    obtain rfl := Option.some.inj h
    exact zr_zret hC hR (by decide) ⟨rfl, rfl⟩ (Nat.le_refl _) (Nat.le_refl _) dX12_readsWord_30
  · replace h := zin h c5
    refine zr_aload_n (pc := 20) hC 0 rfl rfl dX12_readsWord_20 ?_
    refine zr_bipush (pc := 21) hC zkb_44 dX12_readsWord_21 ?_
    obtain ⟨q6, hq6, h⟩ := zbd h
    refine zr_cVi (pc := 23) hC hEk [.int (44 : Int32)] [] 0 1 (fun l D => tX12_takes hEk hq6 l D) gX12_readsWord_X12_takes rfl rfl rfl ⟨Nat.le_of_ble_eq_true rfl, Nat.le_of_ble_eq_true rfl⟩ hyX12_takes (by decide) entM_0 rfl rfl rfl (Nat.le_of_ble_eq_true rfl) ⟨Nat.le_of_ble_eq_true rfl, Nat.le_of_ble_eq_true rfl⟩ dX12_readsWord_23 ?_
    refine zr_if_ne (pc := 26) (tgt := 31) hC dX12_readsWord_26 (by decide) (fun c7 => ?_) (fun c7 => ?_)
    · replace h := zin h c7
      refine zr_aload_n (pc := 31) hC 0 rfl rfl dX12_readsWord_31 ?_
      refine zmg_16 (pc := 32) hC hinX12_readsWord_X12 flX12_readsWord_56 dX12_readsWord_32 ?_
      refine zr_iload_n (pc := 35) hC 1 rfl rfl dX12_readsWord_35 ?_
      refine zr_aload_n (pc := 36) hC 0 rfl rfl dX12_readsWord_36 ?_
      refine zr_iconst (pc := 37) hC zki_1 dX12_readsWord_37 ?_
      obtain ⟨q8, hq8, h⟩ := zbd h
      refine zr_cVi (pc := 38) hC hEk [.int (1 : Int32)] [.int v1, .ref (ad 15)] 0 1 (fun l D => tX12_number hEk hq8 l D) gX12_readsWord_X12_number rfl rfl rfl ⟨Nat.le_of_ble_eq_true rfl, Nat.le_of_ble_eq_true rfl⟩ hyX12_number (by decide) entM_0 rfl rfl rfl (Nat.le_of_ble_eq_true rfl) ⟨Nat.le_of_ble_eq_true rfl, Nat.le_of_ble_eq_true rfl⟩ dX12_readsWord_38 ?_
      obtain ⟨M9, e10, h⟩ := zle h
      refine zms_15 (pc := 41) hC i2 e10 dX12_readsWord_41 ?_
      refine zr_aload_n (pc := 42) hC 0 rfl rfl dX12_readsWord_42 ?_
      refine zmg_16 (pc := 43) hC hinX12_readsWord_X12 flX12_readsWord_56 dX12_readsWord_43 ?_
      refine zr_iload_n (pc := 46) hC 1 rfl rfl dX12_readsWord_46 ?_
      refine zml_15 (pc := 47) hC i2 dX12_readsWord_47 ?_
      refine zr_if_lt (pc := 48) (tgt := 60) hC dX12_readsWord_48 (by decide) (fun c11 => ?_) (fun c11 => ?_)
      · replace h := zip h c11
        refine zr_iconst (pc := 60) hC zki_0 dX12_readsWord_60 ?_
        obtain rfl := Option.some.inj h
        exact zr_zret hC hR (by decide) ⟨rfl, rfl⟩ (Nat.le_refl _) (Nat.le_refl _) dX12_readsWord_61
      · replace h := zin h c11
        refine zr_aload_n (pc := 51) hC 0 rfl rfl dX12_readsWord_51 ?_
        refine zr_bipush (pc := 52) hC zkb_44 dX12_readsWord_52 ?_
        obtain ⟨q12, hq12, h⟩ := zbd h
        refine zr_cVi (pc := 54) hC hEk [.int (44 : Int32)] [] 0 1 (fun l D => tX12_takes hEk hq12 l D) gX12_readsWord_X12_takes rfl rfl rfl ⟨Nat.le_of_ble_eq_true rfl, Nat.le_of_ble_eq_true rfl⟩ hyX12_takes (by decide) entM_0 rfl rfl rfl (Nat.le_of_ble_eq_true rfl) ⟨Nat.le_of_ble_eq_true rfl, Nat.le_of_ble_eq_true rfl⟩ dX12_readsWord_54 ?_
        refine zr_if_ne (pc := 57) (tgt := 62) hC dX12_readsWord_57 (by decide) (fun c13 => ?_) (fun c13 => ?_)
        · replace h := zin h c13
          refine zr_aload_n (pc := 62) hC 0 rfl rfl dX12_readsWord_62 ?_
          refine zmg_17 (pc := 63) hC hinX12_readsWord_X12 flX12_readsWord_59 dX12_readsWord_63 ?_
          refine zr_iload_n (pc := 66) hC 1 rfl rfl dX12_readsWord_66 ?_
          refine zr_aload_n (pc := 67) hC 0 rfl rfl dX12_readsWord_67 ?_
          refine zr_iconst (pc := 68) hC zki_1 dX12_readsWord_68 ?_
          obtain ⟨q14, hq14, h⟩ := zbd h
          refine zr_cVi (pc := 69) hC hEk [.int (1 : Int32)] [.int v1, .ref (ad 16)] 0 1 (fun l D => tX12_number hEk hq14 l D) gX12_readsWord_X12_number rfl rfl rfl ⟨Nat.le_of_ble_eq_true rfl, Nat.le_of_ble_eq_true rfl⟩ hyX12_number (by decide) entM_0 rfl rfl rfl (Nat.le_of_ble_eq_true rfl) ⟨Nat.le_of_ble_eq_true rfl, Nat.le_of_ble_eq_true rfl⟩ dX12_readsWord_69 ?_
          obtain ⟨M15, e16, h⟩ := zle h
          refine zms_16 (pc := 72) hC i2 e16 dX12_readsWord_72 ?_
          refine zr_aload_n (pc := 73) hC 0 rfl rfl dX12_readsWord_73 ?_
          refine zmg_17 (pc := 74) hC hinX12_readsWord_X12 flX12_readsWord_59 dX12_readsWord_74 ?_
          refine zr_iload_n (pc := 77) hC 1 rfl rfl dX12_readsWord_77 ?_
          refine zml_16 (pc := 78) hC i2 dX12_readsWord_78 ?_
          refine zr_if_lt (pc := 79) (tgt := 95) hC dX12_readsWord_79 (by decide) (fun c17 => ?_) (fun c17 => ?_)
          · replace h := zip h c17
            refine zr_iconst (pc := 95) hC zki_0 dX12_readsWord_95 ?_
            obtain rfl := Option.some.inj h
            exact zr_zret hC hR (by decide) ⟨rfl, rfl⟩ (Nat.le_refl _) (Nat.le_refl _) dX12_readsWord_96
          · replace h := zin h c17
            refine zr_aload_n (pc := 82) hC 0 rfl rfl dX12_readsWord_82 ?_
            refine zr_bipush (pc := 83) hC zkb_59 dX12_readsWord_83 ?_
            obtain ⟨q18, hq18, h⟩ := zbd h
            refine zr_cVi (pc := 85) hC hEk [.int (59 : Int32)] [] 0 1 (fun l D => tX12_takes hEk hq18 l D) gX12_readsWord_X12_takes rfl rfl rfl ⟨Nat.le_of_ble_eq_true rfl, Nat.le_of_ble_eq_true rfl⟩ hyX12_takes (by decide) entM_0 rfl rfl rfl (Nat.le_of_ble_eq_true rfl) ⟨Nat.le_of_ble_eq_true rfl, Nat.le_of_ble_eq_true rfl⟩ dX12_readsWord_85 ?_
            refine zr_if_eq (pc := 88) (tgt := 95) hC dX12_readsWord_88 (by decide) (fun c19 => ?_) (fun c19 => ?_)
            · replace h := zip h c19
              refine zr_iconst (pc := 95) hC zki_0 dX12_readsWord_95 ?_
              obtain rfl := Option.some.inj h
              exact zr_zret hC hR (by decide) ⟨rfl, rfl⟩ (Nat.le_refl _) (Nat.le_refl _) dX12_readsWord_96
            · replace h := zin h c19
              refine zr_iconst (pc := 91) hC zki_1 dX12_readsWord_91 ?_
              refine zr_goto (pc := 92) (tgt := 96) hC dX12_readsWord_92 (by decide) ?_
              obtain rfl := Option.some.inj h
              exact zr_zret hC hR (by decide) ⟨rfl, rfl⟩ (Nat.le_refl _) (Nat.le_refl _) dX12_readsWord_96
        · replace h := zip h c13
          refine zr_iconst (pc := 60) hC zki_0 dX12_readsWord_60 ?_
          obtain rfl := Option.some.inj h
          exact zr_zret hC hR (by decide) ⟨rfl, rfl⟩ (Nat.le_refl _) (Nat.le_refl _) dX12_readsWord_61
    · replace h := zip h c7
      refine zr_iconst (pc := 29) hC zki_0 dX12_readsWord_29 ?_
      obtain rfl := Option.some.inj h
      exact zr_zret hC hR (by decide) ⟨rfl, rfl⟩ (Nat.le_refl _) (Nat.le_refl _) dX12_readsWord_30
/-! X12_kindOf -/
theorem hyX12_kindOf : yX12_kindOf.cls ≠ "java/lang/invoke/MethodHandle" ∧ yX12_kindOf.cls ≠ "java/lang/invoke/VarHandle" ∧ (parseMethodDescriptor yX12_kindOf.desc).map (fun d => d.parameters.length) = some 1 := by decide +kernel
def xX12_kindOf  (v0 : Int32) : Option Int32 :=
  if v0 = (97 : Int32) then
  (some (5 : Int32))
  else
  if v0 = (98 : Int32) then
  (some (2 : Int32))
  else
  if v0 = (101 : Int32) then
  (some (0 : Int32))
  else
  if v0 = (108 : Int32) then
  (some (3 : Int32))
  else
  if v0 = (115 : Int32) then
  (some (1 : Int32))
  else
  if v0 = (116 : Int32) then
  (some (4 : Int32))
  else
  some (-1 : Int32)
set_option maxHeartbeats 4000000 in
set_option maxRecDepth 100000 in
theorem tX12_kindOf {κ : Nat → ClassId} {E : zEn} {ws : va_W} (hEk : zEk E)  {v0 : Int32} {res : Int32} (h : xX12_kindOf  v0 = some res) (l : Launch) (D : va_G) : zCT E D vwCl (zty κ) l yX12_kindOf wsX12_kindOf ({ frames := 0, cells := 0, slots := 0, locals := 0 } : Room) 0 0 [.int v0] ws (zPd (some (.int res)) ws) := by
  refine zCT.of (cc := cX12_kindOf) (maxL := 1) (ret := (some .int)) (by decide) rfl (Nat.le_of_ble_eq_true rfl) ?_
  intro X hC hR
  unfold xX12_kindOf at h
  refine zV.sub (lv' := [(0, .int v0)]) [0] rfl ?_
  refine zr_iload_n (pc := 0) hC 0 rfl rfl dX12_kindOf_0 ?_
  by_cases c1 : v0 = (97 : Int32)
  · replace h := zip h c1
    refine zr_tabIn (pc := 1) (off := 105) (tgt := 106) hC dX12_kindOf_1 (by rw [c1]; decide) (by rw [c1]; decide) (by rw [c1]; decide) (by decide) ?_
    refine zr_iconst (pc := 106) hC zki_5 dX12_kindOf_106 ?_
    obtain rfl := Option.some.inj h
    exact zr_iret hC hR ⟨rfl, rfl⟩ (Nat.le_refl _) (Nat.le_refl _) dX12_kindOf_107
  · replace h := zin h c1
    by_cases c2 : v0 = (98 : Int32)
    · replace h := zip h c2
      refine zr_tabIn (pc := 1) (off := 99) (tgt := 100) hC dX12_kindOf_1 (by rw [c2]; decide) (by rw [c2]; decide) (by rw [c2]; decide) (by decide) ?_
      refine zr_iconst (pc := 100) hC zki_2 dX12_kindOf_100 ?_
      obtain rfl := Option.some.inj h
      exact zr_iret hC hR ⟨rfl, rfl⟩ (Nat.le_refl _) (Nat.le_refl _) dX12_kindOf_101
    · replace h := zin h c2
      by_cases c3 : v0 = (101 : Int32)
      · replace h := zip h c3
        refine zr_tabIn (pc := 1) (off := 95) (tgt := 96) hC dX12_kindOf_1 (by rw [c3]; decide) (by rw [c3]; decide) (by rw [c3]; decide) (by decide) ?_
        refine zr_iconst (pc := 96) hC zki_0 dX12_kindOf_96 ?_
        obtain rfl := Option.some.inj h
        exact zr_iret hC hR ⟨rfl, rfl⟩ (Nat.le_refl _) (Nat.le_refl _) dX12_kindOf_97
      · replace h := zin h c3
        by_cases c4 : v0 = (108 : Int32)
        · replace h := zip h c4
          refine zr_tabIn (pc := 1) (off := 101) (tgt := 102) hC dX12_kindOf_1 (by rw [c4]; decide) (by rw [c4]; decide) (by rw [c4]; decide) (by decide) ?_
          refine zr_iconst (pc := 102) hC zki_3 dX12_kindOf_102 ?_
          obtain rfl := Option.some.inj h
          exact zr_iret hC hR ⟨rfl, rfl⟩ (Nat.le_refl _) (Nat.le_refl _) dX12_kindOf_103
        · replace h := zin h c4
          by_cases c5 : v0 = (115 : Int32)
          · replace h := zip h c5
            refine zr_tabIn (pc := 1) (off := 97) (tgt := 98) hC dX12_kindOf_1 (by rw [c5]; decide) (by rw [c5]; decide) (by rw [c5]; decide) (by decide) ?_
            refine zr_iconst (pc := 98) hC zki_1 dX12_kindOf_98 ?_
            obtain rfl := Option.some.inj h
            exact zr_iret hC hR ⟨rfl, rfl⟩ (Nat.le_refl _) (Nat.le_refl _) dX12_kindOf_99
          · replace h := zin h c5
            by_cases c6 : v0 = (116 : Int32)
            · replace h := zip h c6
              refine zr_tabIn (pc := 1) (off := 103) (tgt := 104) hC dX12_kindOf_1 (by rw [c6]; decide) (by rw [c6]; decide) (by rw [c6]; decide) (by decide) ?_
              refine zr_iconst (pc := 104) hC zki_4 dX12_kindOf_104 ?_
              obtain rfl := Option.some.inj h
              exact zr_iret hC hR ⟨rfl, rfl⟩ (Nat.le_refl _) (Nat.le_refl _) dX12_kindOf_105
            · replace h := zin h c6
              rcases zsw_in_X12_kindOf c1 c2 c3 c4 c5 c6 with e7 | e7
              · refine zr_tabOut (pc := 1) (tgt := 108) hC dX12_kindOf_1 e7 (by decide) ?_
                refine zr_iconst (pc := 108) hC zki_m1 dX12_kindOf_108 ?_
                obtain rfl := Option.some.inj h
                exact zr_iret hC hR ⟨rfl, rfl⟩ (Nat.le_refl _) (Nat.le_refl _) dX12_kindOf_109
              · refine zr_tabIn (pc := 1) (off := 107) (tgt := 108) hC dX12_kindOf_1 e7.1 e7.2.1 e7.2.2 (by decide) ?_
                refine zr_iconst (pc := 108) hC zki_m1 dX12_kindOf_108 ?_
                obtain rfl := Option.some.inj h
                exact zr_iret hC hR ⟨rfl, rfl⟩ (Nat.le_refl _) (Nat.le_refl _) dX12_kindOf_109
/-! X12_readsKnown -/
theorem hyX12_readsKnown : yX12_readsKnown.cls = RX12 ∧ yX12_readsKnown.cls ≠ "java/lang/invoke/MethodHandle" ∧ yX12_readsKnown.cls ≠ "java/lang/invoke/VarHandle" ∧ (parseMethodDescriptor yX12_readsKnown.desc).map (fun d => d.parameters.length) = some 1 := by decide +kernel
theorem flX12_readsKnown_133 : Cond.fieldLink RX12 133 "BeforeTheEndModel" "at" "I" ∈ wsX12_readsKnown := by decide +kernel
theorem flX12_readsKnown_62 : Cond.fieldLink RX12 62 "BeforeTheEndModel" "toldSet" "[I" ∈ wsX12_readsKnown := by decide +kernel
theorem hinX12_readsKnown_X12 : ∀ w ∈ wsX120, w ∈ wsX12_readsKnown := fun _ h => List.mem_cons_of_mem _ (List.mem_append_right _ h)
def xX12_readsKnown_L9 (v1 : Int32) (w0 : zM) (w1 : Int32) : Option ((zM × Int32) ⊕ (zM × Int32)) :=
  if (9 : Int32) ≤ w1 then
  (some (.inr (w0, w1)))
  else
  (xX12_sign w0).bind fun q2 =>
  (xX12_isIn q2 (49 : Int32) (57 : Int32)).bind fun q3 =>
  if q3 = 0 then
  (some (.inr (w0, w1)))
  else
  (xX12_sign w0).bind fun q5 =>
  zlet ((1 : Int32) <<< ((q5 - (48 : Int32)) &&& 31)) fun z6 =>
  if (v1 < 0 ∨ 32 ≤ v1.toNatClampNeg) then none else
  if ((w0.1 17 v1.toNatClampNeg) &&& z6) = 0 then
  (zlet (zsi w0 17 v1.toNatClampNeg ((w0.1 17 v1.toNatClampNeg) ||| z6)) fun M10 =>
  zlet (zsi M10 0 22 ((M10.1 0 22) + (1 : Int32))) fun M12 =>
  some (.inl (M12, (w1 + (1 : Int32)))))
  else
  zlet (zsi w0 17 v1.toNatClampNeg ((w0.1 17 v1.toNatClampNeg) ||| (1024 : Int32))) fun M14 =>
  zlet (zsi M14 0 22 ((M14.1 0 22) + (1 : Int32))) fun M16 =>
  some (.inl (M16, (w1 + (1 : Int32))))
set_option maxHeartbeats 4000000 in
set_option maxRecDepth 100000 in
theorem tX12_readsKnown_L9 {κ : Nat → ClassId} {E : zEn} {ad : Nat → Nat} {X : zX} {v1 : Int32} {w0 : zM} {w1 : Int32} {r : ((zM × Int32) ⊕ (zM × Int32))} (hC : zC X cX12_readsKnown RX12 wsX12_readsKnown vwCl (zty κ) E 4 ({ frames := 2, cells := 0, slots := 0, locals := 41 } : Room)) (hEk : zEk E) (hin : ∀ (x0' : zM) (x1' : Int32), r = .inl (x0', x1') → zV X 0 0 (zwM κ ad x0') [(0, .ref (ad 0)), (1, .int v1), (2, .int x1')] [] 9) (hout0 : ∀ (x0' : zM) (x1' : Int32), r = .inr (x0', x1') → zV X 0 0 (zwM κ ad x0') [(0, .ref (ad 0)), (2, .int x1')] [] 82) (h : xX12_readsKnown_L9  v1 w0 w1 = some r) : zV X 0 0 (zwM κ ad w0) [(0, .ref (ad 0)), (1, .int v1), (2, .int w1)] [] 9 := by
  unfold xX12_readsKnown_L9 at h
  refine zr_iload_n (pc := 9) hC 2 rfl rfl dX12_readsKnown_9 ?_
  refine zr_bipush (pc := 10) hC zkb_9 dX12_readsKnown_10 ?_
  refine zr_icmp_ge (pc := 12) (tgt := 82) hC dX12_readsKnown_12 (by decide) (fun c1 => ?_) (fun c1 => ?_)
  · replace h := zip h c1
    obtain rfl := Option.some.inj h
    exact zV.sub (lv' := [(0, .ref (ad 0)), (2, .int w1)]) [0, 2] rfl (hout0 w0 w1 rfl)
  · replace h := zin h c1
    refine zr_aload_n (pc := 15) hC 0 rfl rfl dX12_readsKnown_15 ?_
    obtain ⟨q2, hq2, h⟩ := zbd h
    refine zr_cVi (pc := 16) hC hEk [] [] 0 0 (fun l D => tX12_sign hEk hq2 l D) gX12_readsKnown_X12_sign rfl rfl rfl ⟨Nat.le_of_ble_eq_true rfl, Nat.le_of_ble_eq_true rfl⟩ hyX12_sign (by decide) entM_0 rfl rfl rfl (Nat.le_of_ble_eq_true rfl) ⟨Nat.le_of_ble_eq_true rfl, Nat.le_of_ble_eq_true rfl⟩ dX12_readsKnown_16 ?_
    refine zr_bipush (pc := 19) hC zkb_49 dX12_readsKnown_19 ?_
    refine zr_bipush (pc := 21) hC zkb_57 dX12_readsKnown_21 ?_
    obtain ⟨q3, hq3, h⟩ := zbd h
    refine zr_cSi (pc := 23) hC hEk [.int q2, .int (49 : Int32), .int (57 : Int32)] [] 3 (fun l D => tX12_isIn hEk hq3 l D) gX12_readsKnown_X12_isIn rfl rfl rfl ⟨Nat.le_of_ble_eq_true rfl, Nat.le_of_ble_eq_true rfl⟩ hyX12_isIn rfl rfl (Nat.le_of_ble_eq_true rfl) ⟨Nat.le_of_ble_eq_true rfl, Nat.le_of_ble_eq_true rfl⟩ dX12_readsKnown_23 ?_
    refine zr_if_eq (pc := 26) (tgt := 82) hC dX12_readsKnown_26 (by decide) (fun c4 => ?_) (fun c4 => ?_)
    · replace h := zip h c4
      obtain rfl := Option.some.inj h
      exact zV.sub (lv' := [(0, .ref (ad 0)), (2, .int w1)]) [0, 2] rfl (hout0 w0 w1 rfl)
    · replace h := zin h c4
      refine zr_iconst (pc := 29) hC zki_1 dX12_readsKnown_29 ?_
      refine zr_aload_n (pc := 30) hC 0 rfl rfl dX12_readsKnown_30 ?_
      obtain ⟨q5, hq5, h⟩ := zbd h
      refine zr_cVi (pc := 31) hC hEk [] [.int (1 : Int32)] 0 0 (fun l D => tX12_sign hEk hq5 l D) gX12_readsKnown_X12_sign rfl rfl rfl ⟨Nat.le_of_ble_eq_true rfl, Nat.le_of_ble_eq_true rfl⟩ hyX12_sign (by decide) entM_0 rfl rfl rfl (Nat.le_of_ble_eq_true rfl) ⟨Nat.le_of_ble_eq_true rfl, Nat.le_of_ble_eq_true rfl⟩ dX12_readsKnown_31 ?_
      refine zr_bipush (pc := 34) hC zkb_48 dX12_readsKnown_34 ?_
      refine zr_isub (pc := 36) hC dX12_readsKnown_36 ?_
      refine zr_ishl (pc := 37) hC dX12_readsKnown_37 ?_
      obtain ⟨z6, e7, h⟩ := zle h
      refine zr_topi e7 ?_
      refine zr_istore_n (pc := 38) (lv' := [(3, .int z6), (0, .ref (ad 0)), (1, .int v1), (2, .int w1)]) hC rfl (by decide) rfl dX12_readsKnown_38 ?_
      refine zr_aload_n (pc := 39) hC 1 rfl rfl dX12_readsKnown_39 ?_
      refine zmg_18 (pc := 40) hC hinX12_readsKnown_X12 flX12_readsKnown_62 dX12_readsKnown_40 ?_
      refine zr_iload_n (pc := 43) hC 2 rfl rfl dX12_readsKnown_43 ?_
      refine zr_dup2 (pc := 44) hC rfl rfl dX12_readsKnown_44 ?_
      obtain ⟨i8, h⟩ := zgd h
      refine zml_17 (pc := 45) hC i8 dX12_readsKnown_45 ?_
      refine zr_aload_n (pc := 46) hC 1 rfl rfl dX12_readsKnown_46 ?_
      refine zmg_18 (pc := 47) hC hinX12_readsKnown_X12 flX12_readsKnown_62 dX12_readsKnown_47 ?_
      refine zr_iload_n (pc := 50) hC 2 rfl rfl dX12_readsKnown_50 ?_
      refine zml_17 (pc := 51) hC i8 dX12_readsKnown_51 ?_
      refine zr_iload_n (pc := 52) hC 0 rfl rfl dX12_readsKnown_52 ?_
      refine zr_iand (pc := 53) hC dX12_readsKnown_53 ?_
      refine zr_if_eq (pc := 54) (tgt := 63) hC dX12_readsKnown_54 (by decide) (fun c9 => ?_) (fun c9 => ?_)
      · replace h := zip h c9
        refine zr_iload_n (pc := 63) hC 0 rfl rfl dX12_readsKnown_63 ?_
        refine zr_ior (pc := 64) hC dX12_readsKnown_64 ?_
        obtain ⟨M10, e11, h⟩ := zle h
        refine zms_17 (pc := 65) hC i8 e11 dX12_readsKnown_65 ?_
        refine zr_aload_n (pc := 66) hC 1 rfl rfl dX12_readsKnown_66 ?_
        refine zr_dup (pc := 67) hC rfl dX12_readsKnown_67 ?_
        refine zmg_22 (pc := 68) hC hinX12_readsKnown_X12 flX12_readsKnown_133 dX12_readsKnown_68 ?_
        refine zr_iconst (pc := 71) hC zki_1 dX12_readsKnown_71 ?_
        refine zr_iadd (pc := 72) hC dX12_readsKnown_72 ?_
        obtain ⟨M12, e13, h⟩ := zle h
        refine zmp_22 (pc := 73) hC hinX12_readsKnown_X12 flX12_readsKnown_133 e13 dX12_readsKnown_73 ?_
        refine zr_iinc (pc := 76) (k := 3) (lv' := [(2, .int (w1 + (1 : Int32))), (3, .int z6), (0, .ref (ad 0)), (1, .int v1)]) hC zki_1 (by decide) rfl rfl dX12_readsKnown_76 ?_
        refine zr_goto (pc := 79) (tgt := 9) hC dX12_readsKnown_79 (by decide) ?_
        obtain rfl := Option.some.inj h
        exact zV.sub (lv' := [(0, .ref (ad 0)), (1, .int v1), (2, .int (w1 + (1 : Int32)))]) [2, 3, 0] rfl (hin M12 (w1 + (1 : Int32)) rfl)
      · replace h := zin h c9
        refine zr_sipush (pc := 57) hC zks_1024 dX12_readsKnown_57 ?_
        refine zr_goto (pc := 60) (tgt := 64) hC dX12_readsKnown_60 (by decide) ?_
        refine zr_ior (pc := 64) hC dX12_readsKnown_64 ?_
        obtain ⟨M14, e15, h⟩ := zle h
        refine zms_17 (pc := 65) hC i8 e15 dX12_readsKnown_65 ?_
        refine zr_aload_n (pc := 66) hC 1 rfl rfl dX12_readsKnown_66 ?_
        refine zr_dup (pc := 67) hC rfl dX12_readsKnown_67 ?_
        refine zmg_22 (pc := 68) hC hinX12_readsKnown_X12 flX12_readsKnown_133 dX12_readsKnown_68 ?_
        refine zr_iconst (pc := 71) hC zki_1 dX12_readsKnown_71 ?_
        refine zr_iadd (pc := 72) hC dX12_readsKnown_72 ?_
        obtain ⟨M16, e17, h⟩ := zle h
        refine zmp_22 (pc := 73) hC hinX12_readsKnown_X12 flX12_readsKnown_133 e17 dX12_readsKnown_73 ?_
        refine zr_iinc (pc := 76) (k := 3) (lv' := [(2, .int (w1 + (1 : Int32))), (3, .int z6), (0, .ref (ad 0)), (1, .int v1)]) hC zki_1 (by decide) rfl rfl dX12_readsKnown_76 ?_
        refine zr_goto (pc := 79) (tgt := 9) hC dX12_readsKnown_79 (by decide) ?_
        obtain rfl := Option.some.inj h
        exact zV.sub (lv' := [(0, .ref (ad 0)), (1, .int v1), (2, .int (w1 + (1 : Int32)))]) [2, 3, 0] rfl (hin M16 (w1 + (1 : Int32)) rfl)
def xX12_readsKnown (M : zM) (v1 : Int32) : Option (Int32 × zM) :=
  if (v1 < 0 ∨ 32 ≤ v1.toNatClampNeg) then none else
  zlet (zsi M 17 v1.toNatClampNeg (0 : Int32)) fun M2 =>
  (x_it (fun a9 => xX12_readsKnown_L9 v1 a9.1 a9.2) zFU (M2, (0 : Int32))).bind fun q4 =>
  if q4.2 ≤ 0 then
  (some ((0 : Int32), q4.1))
  else
  (xX12_takes q4.1 (59 : Int32)).bind fun q6 =>
  if q6.1 = 0 then
  (some ((0 : Int32), q6.2))
  else
  some ((1 : Int32), q6.2)
set_option maxHeartbeats 4000000 in
set_option maxRecDepth 100000 in
theorem tX12_readsKnown {κ : Nat → ClassId} {E : zEn} {ad : Nat → Nat} (hEk : zEk E) {M : zM} {v1 : Int32} {res : (Int32 × zM)} (h : xX12_readsKnown M v1 = some res) (l : Launch) (D : va_G) : zCT E D vwCl (zty κ) l yX12_readsKnown wsX12_readsKnown ({ frames := 2, cells := 0, slots := 0, locals := 41 } : Room) 0 0 [.ref (ad 0), .int v1] (zwM κ ad M) (zPd (some (.int res.1)) (zwM κ ad res.2)) := by
  refine zCT.of (cc := cX12_readsKnown) (maxL := 4) (ret := (some .boolean)) (by decide) rfl (Nat.le_of_ble_eq_true rfl) ?_
  intro X hC hR
  unfold xX12_readsKnown at h
  refine zV.sub (lv' := [(0, .ref (ad 0)), (1, .int v1)]) [0, 1] rfl ?_
  refine zr_aload_n (pc := 0) hC 0 rfl rfl dX12_readsKnown_0 ?_
  refine zmg_18 (pc := 1) hC hinX12_readsKnown_X12 flX12_readsKnown_62 dX12_readsKnown_1 ?_
  refine zr_iload_n (pc := 4) hC 1 rfl rfl dX12_readsKnown_4 ?_
  refine zr_iconst (pc := 5) hC zki_0 dX12_readsKnown_5 ?_
  obtain ⟨i1, h⟩ := zgd h
  obtain ⟨M2, e3, h⟩ := zle h
  refine zms_17 (pc := 6) hC i1 e3 dX12_readsKnown_6 ?_
  refine zr_iconst (pc := 7) hC zki_0 dX12_readsKnown_7 ?_
  refine zr_istore_n (pc := 8) (lv' := [(2, .int (0 : Int32)), (0, .ref (ad 0)), (1, .int v1)]) hC rfl (by decide) rfl dX12_readsKnown_8 ?_
  obtain ⟨q4, hq4, h⟩ := zbd h
  refine zV.sub (lv' := [(0, .ref (ad 0)), (1, .int v1), (2, .int (0 : Int32))]) [1, 2, 0] rfl ?_
  refine zit2 (Wp := fun (y0 : zM) (y1 : Int32) => zV X 0 0 (zwM κ ad y0) [(0, .ref (ad 0)), (1, .int v1), (2, .int y1)] [] 9) (Ex := fun (b9 : (zM × Int32)) => zV X 0 0 (zwM κ ad b9.1) [(0, .ref (ad 0)), (2, .int b9.2)] [] 82) (fun y0 y1 r9 hr hin hout => tX12_readsKnown_L9 hC hEk hin (fun z0 z1 e9 => hout (z0, z1) e9) hr) zFU M2 (0 : Int32) q4 hq4 ?_
  show zV X 0 0 (zwM κ ad q4.1) [(0, .ref (ad 0)), (2, .int q4.2)] [] 82
  refine zr_iload_n (pc := 82) hC 1 rfl rfl dX12_readsKnown_82 ?_
  refine zr_if_le (pc := 83) (tgt := 99) hC dX12_readsKnown_83 (by decide) (fun c5 => ?_) (fun c5 => ?_)
  · replace h := zip h c5
    refine zr_iconst (pc := 99) hC zki_0 dX12_readsKnown_99 ?_
    obtain rfl := Option.some.inj h
    exact zr_zret hC hR (by decide) ⟨rfl, rfl⟩ (Nat.le_refl _) (Nat.le_refl _) dX12_readsKnown_100
  · replace h := zin h c5
    refine zr_aload_n (pc := 86) hC 0 rfl rfl dX12_readsKnown_86 ?_
    refine zr_bipush (pc := 87) hC zkb_59 dX12_readsKnown_87 ?_
    obtain ⟨q6, hq6, h⟩ := zbd h
    refine zr_cVi (pc := 89) hC hEk [.int (59 : Int32)] [] 0 1 (fun l D => tX12_takes hEk hq6 l D) gX12_readsKnown_X12_takes rfl rfl rfl ⟨Nat.le_of_ble_eq_true rfl, Nat.le_of_ble_eq_true rfl⟩ hyX12_takes (by decide) entM_0 rfl rfl rfl (Nat.le_of_ble_eq_true rfl) ⟨Nat.le_of_ble_eq_true rfl, Nat.le_of_ble_eq_true rfl⟩ dX12_readsKnown_89 ?_
    refine zr_if_eq (pc := 92) (tgt := 99) hC dX12_readsKnown_92 (by decide) (fun c7 => ?_) (fun c7 => ?_)
    · replace h := zip h c7
      refine zr_iconst (pc := 99) hC zki_0 dX12_readsKnown_99 ?_
      obtain rfl := Option.some.inj h
      exact zr_zret hC hR (by decide) ⟨rfl, rfl⟩ (Nat.le_refl _) (Nat.le_refl _) dX12_readsKnown_100
    · replace h := zin h c7
      refine zr_iconst (pc := 95) hC zki_1 dX12_readsKnown_95 ?_
      refine zr_goto (pc := 96) (tgt := 100) hC dX12_readsKnown_96 (by decide) ?_
      obtain rfl := Option.some.inj h
      exact zr_zret hC hR (by decide) ⟨rfl, rfl⟩ (Nat.le_refl _) (Nat.le_refl _) dX12_readsKnown_100
/-! X12_readsPlayer -/
theorem hyX12_readsPlayer : yX12_readsPlayer.cls = RX12 ∧ yX12_readsPlayer.cls ≠ "java/lang/invoke/MethodHandle" ∧ yX12_readsPlayer.cls ≠ "java/lang/invoke/VarHandle" ∧ (parseMethodDescriptor yX12_readsPlayer.desc).map (fun d => d.parameters.length) = some 1 := by decide +kernel
theorem flX12_readsPlayer_133 : Cond.fieldLink RX12 133 "BeforeTheEndModel" "at" "I" ∈ wsX12_readsPlayer := by decide +kernel
theorem flX12_readsPlayer_53 : Cond.fieldLink RX12 53 "BeforeTheEndModel" "told1" "[I" ∈ wsX12_readsPlayer := by decide +kernel
theorem flX12_readsPlayer_56 : Cond.fieldLink RX12 56 "BeforeTheEndModel" "told2" "[I" ∈ wsX12_readsPlayer := by decide +kernel
theorem flX12_readsPlayer_59 : Cond.fieldLink RX12 59 "BeforeTheEndModel" "told3" "[I" ∈ wsX12_readsPlayer := by decide +kernel
theorem hinX12_readsPlayer_X12 : ∀ w ∈ wsX120, w ∈ wsX12_readsPlayer := fun _ h => List.mem_cons_of_mem _ (List.mem_append_right _ h)
def xX12_readsPlayer (M : zM) (v1 : Int32) : Option (Int32 × zM) :=
  (xX12_sign M).bind fun q1 =>
  (xX12_kindOf q1).bind fun q2 =>
  if (v1 < 0 ∨ 32 ≤ v1.toNatClampNeg) then none else
  zlet (zsi M 16 v1.toNatClampNeg q2) fun M4 =>
  if 0 ≤ (M4.1 16 v1.toNatClampNeg) then
  (zlet (zsi M4 0 22 ((M4.1 0 22) + (1 : Int32))) fun M7 =>
  (xX12_number M7 (1 : Int32)).bind fun q9 =>
  zlet (zsi q9.2 14 v1.toNatClampNeg q9.1) fun M10 =>
  if 0 ≤ (M10.1 14 v1.toNatClampNeg) then
  ((xX12_number M10 (3 : Int32)).bind fun q13 =>
  zlet (zsi q13.2 15 v1.toNatClampNeg q13.1) fun M14 =>
  if (M14.1 15 v1.toNatClampNeg) < 0 then
  (some ((0 : Int32), M14))
  else
  (xX12_takes M14 (58 : Int32)).bind fun q17 =>
  if q17.1 = 0 then
  (some ((0 : Int32), q17.2))
  else
  (xX12_readsKnown q17.2 v1).bind fun q19 =>
  if q19.1 = 0 then
  (some ((0 : Int32), q19.2))
  else
  some ((1 : Int32), q19.2))
  else
  some ((0 : Int32), M10))
  else
  some ((0 : Int32), M4)
set_option maxHeartbeats 4000000 in
set_option maxRecDepth 100000 in
theorem tX12_readsPlayer {κ : Nat → ClassId} {E : zEn} {ad : Nat → Nat} (hEk : zEk E) {M : zM} {v1 : Int32} {res : (Int32 × zM)} (h : xX12_readsPlayer M v1 = some res) (l : Launch) (D : va_G) : zCT E D vwCl (zty κ) l yX12_readsPlayer wsX12_readsPlayer ({ frames := 3, cells := 0, slots := 0, locals := 64 } : Room) 0 0 [.ref (ad 0), .int v1] (zwM κ ad M) (zPd (some (.int res.1)) (zwM κ ad res.2)) := by
  refine zCT.of (cc := cX12_readsPlayer) (maxL := 2) (ret := (some .boolean)) (by decide) rfl (Nat.le_of_ble_eq_true rfl) ?_
  intro X hC hR
  unfold xX12_readsPlayer at h
  refine zV.sub (lv' := [(0, .ref (ad 0)), (1, .int v1)]) [0, 1] rfl ?_
  refine zr_aload_n (pc := 0) hC 0 rfl rfl dX12_readsPlayer_0 ?_
  refine zmg_17 (pc := 1) hC hinX12_readsPlayer_X12 flX12_readsPlayer_59 dX12_readsPlayer_1 ?_
  refine zr_iload_n (pc := 4) hC 1 rfl rfl dX12_readsPlayer_4 ?_
  refine zr_aload_n (pc := 5) hC 0 rfl rfl dX12_readsPlayer_5 ?_
  obtain ⟨q1, hq1, h⟩ := zbd h
  refine zr_cVi (pc := 6) hC hEk [] [.int v1, .ref (ad 16)] 0 0 (fun l D => tX12_sign hEk hq1 l D) gX12_readsPlayer_X12_sign rfl rfl rfl ⟨Nat.le_of_ble_eq_true rfl, Nat.le_of_ble_eq_true rfl⟩ hyX12_sign (by decide) entM_0 rfl rfl rfl (Nat.le_of_ble_eq_true rfl) ⟨Nat.le_of_ble_eq_true rfl, Nat.le_of_ble_eq_true rfl⟩ dX12_readsPlayer_6 ?_
  obtain ⟨q2, hq2, h⟩ := zbd h
  refine zr_cSi (pc := 9) hC hEk [.int q1] [.int v1, .ref (ad 16)] 1 (fun l D => tX12_kindOf hEk hq2 l D) gX12_readsPlayer_X12_kindOf rfl rfl rfl ⟨Nat.le_of_ble_eq_true rfl, Nat.le_of_ble_eq_true rfl⟩ hyX12_kindOf rfl rfl (Nat.le_of_ble_eq_true rfl) ⟨Nat.le_of_ble_eq_true rfl, Nat.le_of_ble_eq_true rfl⟩ dX12_readsPlayer_9 ?_
  obtain ⟨i3, h⟩ := zgd h
  obtain ⟨M4, e5, h⟩ := zle h
  refine zms_16 (pc := 12) hC i3 e5 dX12_readsPlayer_12 ?_
  refine zr_aload_n (pc := 13) hC 0 rfl rfl dX12_readsPlayer_13 ?_
  refine zmg_17 (pc := 14) hC hinX12_readsPlayer_X12 flX12_readsPlayer_59 dX12_readsPlayer_14 ?_
  refine zr_iload_n (pc := 17) hC 1 rfl rfl dX12_readsPlayer_17 ?_
  refine zml_16 (pc := 18) hC i3 dX12_readsPlayer_18 ?_
  refine zr_if_ge (pc := 19) (tgt := 24) hC dX12_readsPlayer_19 (by decide) (fun c6 => ?_) (fun c6 => ?_)
  · replace h := zip h c6
    refine zr_aload_n (pc := 24) hC 0 rfl rfl dX12_readsPlayer_24 ?_
    refine zr_dup (pc := 25) hC rfl dX12_readsPlayer_25 ?_
    refine zmg_22 (pc := 26) hC hinX12_readsPlayer_X12 flX12_readsPlayer_133 dX12_readsPlayer_26 ?_
    refine zr_iconst (pc := 29) hC zki_1 dX12_readsPlayer_29 ?_
    refine zr_iadd (pc := 30) hC dX12_readsPlayer_30 ?_
    obtain ⟨M7, e8, h⟩ := zle h
    refine zmp_22 (pc := 31) hC hinX12_readsPlayer_X12 flX12_readsPlayer_133 e8 dX12_readsPlayer_31 ?_
    refine zr_aload_n (pc := 34) hC 0 rfl rfl dX12_readsPlayer_34 ?_
    refine zmg_15 (pc := 35) hC hinX12_readsPlayer_X12 flX12_readsPlayer_53 dX12_readsPlayer_35 ?_
    refine zr_iload_n (pc := 38) hC 1 rfl rfl dX12_readsPlayer_38 ?_
    refine zr_aload_n (pc := 39) hC 0 rfl rfl dX12_readsPlayer_39 ?_
    refine zr_iconst (pc := 40) hC zki_1 dX12_readsPlayer_40 ?_
    obtain ⟨q9, hq9, h⟩ := zbd h
    refine zr_cVi (pc := 41) hC hEk [.int (1 : Int32)] [.int v1, .ref (ad 14)] 0 1 (fun l D => tX12_number hEk hq9 l D) gX12_readsPlayer_X12_number rfl rfl rfl ⟨Nat.le_of_ble_eq_true rfl, Nat.le_of_ble_eq_true rfl⟩ hyX12_number (by decide) entM_0 rfl rfl rfl (Nat.le_of_ble_eq_true rfl) ⟨Nat.le_of_ble_eq_true rfl, Nat.le_of_ble_eq_true rfl⟩ dX12_readsPlayer_41 ?_
    obtain ⟨M10, e11, h⟩ := zle h
    refine zms_14 (pc := 44) hC i3 e11 dX12_readsPlayer_44 ?_
    refine zr_aload_n (pc := 45) hC 0 rfl rfl dX12_readsPlayer_45 ?_
    refine zmg_15 (pc := 46) hC hinX12_readsPlayer_X12 flX12_readsPlayer_53 dX12_readsPlayer_46 ?_
    refine zr_iload_n (pc := 49) hC 1 rfl rfl dX12_readsPlayer_49 ?_
    refine zml_14 (pc := 50) hC i3 dX12_readsPlayer_50 ?_
    refine zr_if_ge (pc := 51) (tgt := 56) hC dX12_readsPlayer_51 (by decide) (fun c12 => ?_) (fun c12 => ?_)
    · replace h := zip h c12
      refine zr_aload_n (pc := 56) hC 0 rfl rfl dX12_readsPlayer_56 ?_
      refine zmg_16 (pc := 57) hC hinX12_readsPlayer_X12 flX12_readsPlayer_56 dX12_readsPlayer_57 ?_
      refine zr_iload_n (pc := 60) hC 1 rfl rfl dX12_readsPlayer_60 ?_
      refine zr_aload_n (pc := 61) hC 0 rfl rfl dX12_readsPlayer_61 ?_
      refine zr_iconst (pc := 62) hC zki_3 dX12_readsPlayer_62 ?_
      obtain ⟨q13, hq13, h⟩ := zbd h
      refine zr_cVi (pc := 63) hC hEk [.int (3 : Int32)] [.int v1, .ref (ad 15)] 0 1 (fun l D => tX12_number hEk hq13 l D) gX12_readsPlayer_X12_number rfl rfl rfl ⟨Nat.le_of_ble_eq_true rfl, Nat.le_of_ble_eq_true rfl⟩ hyX12_number (by decide) entM_0 rfl rfl rfl (Nat.le_of_ble_eq_true rfl) ⟨Nat.le_of_ble_eq_true rfl, Nat.le_of_ble_eq_true rfl⟩ dX12_readsPlayer_63 ?_
      obtain ⟨M14, e15, h⟩ := zle h
      refine zms_15 (pc := 66) hC i3 e15 dX12_readsPlayer_66 ?_
      refine zr_aload_n (pc := 67) hC 0 rfl rfl dX12_readsPlayer_67 ?_
      refine zmg_16 (pc := 68) hC hinX12_readsPlayer_X12 flX12_readsPlayer_56 dX12_readsPlayer_68 ?_
      refine zr_iload_n (pc := 71) hC 1 rfl rfl dX12_readsPlayer_71 ?_
      refine zml_15 (pc := 72) hC i3 dX12_readsPlayer_72 ?_
      refine zr_if_lt (pc := 73) (tgt := 97) hC dX12_readsPlayer_73 (by decide) (fun c16 => ?_) (fun c16 => ?_)
      · replace h := zip h c16
        refine zr_iconst (pc := 97) hC zki_0 dX12_readsPlayer_97 ?_
        obtain rfl := Option.some.inj h
        exact zr_zret hC hR (by decide) ⟨rfl, rfl⟩ (Nat.le_refl _) (Nat.le_refl _) dX12_readsPlayer_98
      · replace h := zin h c16
        refine zr_aload_n (pc := 76) hC 0 rfl rfl dX12_readsPlayer_76 ?_
        refine zr_bipush (pc := 77) hC zkb_58 dX12_readsPlayer_77 ?_
        obtain ⟨q17, hq17, h⟩ := zbd h
        refine zr_cVi (pc := 79) hC hEk [.int (58 : Int32)] [] 0 1 (fun l D => tX12_takes hEk hq17 l D) gX12_readsPlayer_X12_takes rfl rfl rfl ⟨Nat.le_of_ble_eq_true rfl, Nat.le_of_ble_eq_true rfl⟩ hyX12_takes (by decide) entM_0 rfl rfl rfl (Nat.le_of_ble_eq_true rfl) ⟨Nat.le_of_ble_eq_true rfl, Nat.le_of_ble_eq_true rfl⟩ dX12_readsPlayer_79 ?_
        refine zr_if_eq (pc := 82) (tgt := 97) hC dX12_readsPlayer_82 (by decide) (fun c18 => ?_) (fun c18 => ?_)
        · replace h := zip h c18
          refine zr_iconst (pc := 97) hC zki_0 dX12_readsPlayer_97 ?_
          obtain rfl := Option.some.inj h
          exact zr_zret hC hR (by decide) ⟨rfl, rfl⟩ (Nat.le_refl _) (Nat.le_refl _) dX12_readsPlayer_98
        · replace h := zin h c18
          refine zr_aload_n (pc := 85) hC 0 rfl rfl dX12_readsPlayer_85 ?_
          refine zr_iload_n (pc := 86) hC 1 rfl rfl dX12_readsPlayer_86 ?_
          obtain ⟨q19, hq19, h⟩ := zbd h
          refine zr_cVi (pc := 87) hC hEk [.int v1] [] 0 1 (fun l D => tX12_readsKnown hEk hq19 l D) gX12_readsPlayer_X12_readsKnown rfl rfl rfl ⟨Nat.le_of_ble_eq_true rfl, Nat.le_of_ble_eq_true rfl⟩ hyX12_readsKnown (by decide) entM_0 rfl rfl rfl (Nat.le_of_ble_eq_true rfl) ⟨Nat.le_of_ble_eq_true rfl, Nat.le_of_ble_eq_true rfl⟩ dX12_readsPlayer_87 ?_
          refine zr_if_eq (pc := 90) (tgt := 97) hC dX12_readsPlayer_90 (by decide) (fun c20 => ?_) (fun c20 => ?_)
          · replace h := zip h c20
            refine zr_iconst (pc := 97) hC zki_0 dX12_readsPlayer_97 ?_
            obtain rfl := Option.some.inj h
            exact zr_zret hC hR (by decide) ⟨rfl, rfl⟩ (Nat.le_refl _) (Nat.le_refl _) dX12_readsPlayer_98
          · replace h := zin h c20
            refine zr_iconst (pc := 93) hC zki_1 dX12_readsPlayer_93 ?_
            refine zr_goto (pc := 94) (tgt := 98) hC dX12_readsPlayer_94 (by decide) ?_
            obtain rfl := Option.some.inj h
            exact zr_zret hC hR (by decide) ⟨rfl, rfl⟩ (Nat.le_refl _) (Nat.le_refl _) dX12_readsPlayer_98
    · replace h := zin h c12
      refine zr_iconst (pc := 54) hC zki_0 dX12_readsPlayer_54 ?_
      obtain rfl := Option.some.inj h
      exact zr_zret hC hR (by decide) ⟨rfl, rfl⟩ (Nat.le_refl _) (Nat.le_refl _) dX12_readsPlayer_55
  · replace h := zin h c6
    refine zr_iconst (pc := 22) hC zki_0 dX12_readsPlayer_22 ?_
    obtain rfl := Option.some.inj h
    exact zr_zret hC hR (by decide) ⟨rfl, rfl⟩ (Nat.le_refl _) (Nat.le_refl _) dX12_readsPlayer_23
/-! X12_statement -/
theorem hyX12_statement : yX12_statement.cls = RX12 ∧ yX12_statement.cls ≠ "java/lang/invoke/MethodHandle" ∧ yX12_statement.cls ≠ "java/lang/invoke/VarHandle" ∧ (parseMethodDescriptor yX12_statement.desc).map (fun d => d.parameters.length) = some 0 := by decide +kernel
theorem flX12_statement_133 : Cond.fieldLink RX12 133 "BeforeTheEndModel" "at" "I" ∈ wsX12_statement := by decide +kernel
theorem flX12_statement_157 : Cond.fieldLink RX12 157 "BeforeTheEndModel" "statements" "I" ∈ wsX12_statement := by decide +kernel
theorem flX12_statement_65 : Cond.fieldLink RX12 65 "BeforeTheEndModel" "toldKind" "[I" ∈ wsX12_statement := by decide +kernel
theorem flX12_statement_68 : Cond.fieldLink RX12 68 "BeforeTheEndModel" "toldAt" "[I" ∈ wsX12_statement := by decide +kernel
theorem hinX12_statement_X12 : ∀ w ∈ wsX120, w ∈ wsX12_statement := fun _ h => List.mem_cons_of_mem _ (List.mem_append_right _ h)
def xX12_statement (M : zM)  : Option (Int32 × zM) :=
  zlet (M.1 0 23) fun z1 =>
  (xX12_sign M).bind fun q3 =>
  if (z1 < 0 ∨ 32 ≤ z1.toNatClampNeg) then none else
  zlet (zsi M 18 z1.toNatClampNeg q3) fun M5 =>
  zlet (zsi M5 19 z1.toNatClampNeg (M5.1 0 22)) fun M7 =>
  if q3 = (119 : Int32) then
  (zlet (zsi M7 0 22 ((M7.1 0 22) + (1 : Int32))) fun M10 =>
  if q3 = (119 : Int32) then
  ((xX12_readsWord M10 z1).bind fun q15 =>
  if ¬ (q15.1 = 0 ∨ q15.1 = 1) then none else
  some (q15.1, q15.2))
  else
  (xX12_readsPlayer M10 z1).bind fun q13 =>
  if ¬ (q13.1 = 0 ∨ q13.1 = 1) then none else
  some (q13.1, q13.2))
  else
  if q3 = (112 : Int32) then
  (zlet (zsi M7 0 22 ((M7.1 0 22) + (1 : Int32))) fun M18 =>
  if q3 = (119 : Int32) then
  ((xX12_readsWord M18 z1).bind fun q23 =>
  if ¬ (q23.1 = 0 ∨ q23.1 = 1) then none else
  some (q23.1, q23.2))
  else
  (xX12_readsPlayer M18 z1).bind fun q21 =>
  if ¬ (q21.1 = 0 ∨ q21.1 = 1) then none else
  some (q21.1, q21.2))
  else
  some ((0 : Int32), M7)
set_option maxHeartbeats 4000000 in
set_option maxRecDepth 100000 in
theorem tX12_statement {κ : Nat → ClassId} {E : zEn} {ad : Nat → Nat} (hEk : zEk E) {M : zM}  {res : (Int32 × zM)} (h : xX12_statement M  = some res) (l : Launch) (D : va_G) : zCT E D vwCl (zty κ) l yX12_statement wsX12_statement ({ frames := 4, cells := 0, slots := 0, locals := 85 } : Room) 0 0 [.ref (ad 0)] (zwM κ ad M) (zPd (some (.int res.1)) (zwM κ ad res.2)) := by
  refine zCT.of (cc := cX12_statement) (maxL := 3) (ret := (some .boolean)) (by decide) rfl (Nat.le_of_ble_eq_true rfl) ?_
  intro X hC hR
  unfold xX12_statement at h
  refine zV.sub (lv' := [(0, .ref (ad 0))]) [0] rfl ?_
  refine zr_aload_n (pc := 0) hC 0 rfl rfl dX12_statement_0 ?_
  refine zmg_23 (pc := 1) hC hinX12_statement_X12 flX12_statement_157 dX12_statement_1 ?_
  obtain ⟨z1, e2, h⟩ := zle h
  refine zr_topi e2 ?_
  refine zr_istore_n (pc := 4) (lv' := [(1, .int z1), (0, .ref (ad 0))]) hC rfl (by decide) rfl dX12_statement_4 ?_
  refine zr_aload_n (pc := 5) hC 1 rfl rfl dX12_statement_5 ?_
  obtain ⟨q3, hq3, h⟩ := zbd h
  refine zr_cVi (pc := 6) hC hEk [] [] 0 0 (fun l D => tX12_sign hEk hq3 l D) gX12_statement_X12_sign rfl rfl rfl ⟨Nat.le_of_ble_eq_true rfl, Nat.le_of_ble_eq_true rfl⟩ hyX12_sign (by decide) entM_0 rfl rfl rfl (Nat.le_of_ble_eq_true rfl) ⟨Nat.le_of_ble_eq_true rfl, Nat.le_of_ble_eq_true rfl⟩ dX12_statement_6 ?_
  refine zr_istore_n (pc := 9) (lv' := [(2, .int q3), (1, .int z1), (0, .ref (ad 0))]) hC rfl (by decide) rfl dX12_statement_9 ?_
  refine zr_aload_n (pc := 10) hC 2 rfl rfl dX12_statement_10 ?_
  refine zmg_19 (pc := 11) hC hinX12_statement_X12 flX12_statement_65 dX12_statement_11 ?_
  refine zr_iload_n (pc := 14) hC 1 rfl rfl dX12_statement_14 ?_
  refine zr_iload_n (pc := 15) hC 0 rfl rfl dX12_statement_15 ?_
  obtain ⟨i4, h⟩ := zgd h
  obtain ⟨M5, e6, h⟩ := zle h
  refine zms_18 (pc := 16) hC i4 e6 dX12_statement_16 ?_
  refine zr_aload_n (pc := 17) hC 2 rfl rfl dX12_statement_17 ?_
  refine zmg_20 (pc := 18) hC hinX12_statement_X12 flX12_statement_68 dX12_statement_18 ?_
  refine zr_iload_n (pc := 21) hC 1 rfl rfl dX12_statement_21 ?_
  refine zr_aload_n (pc := 22) hC 2 rfl rfl dX12_statement_22 ?_
  refine zmg_22 (pc := 23) hC hinX12_statement_X12 flX12_statement_133 dX12_statement_23 ?_
  obtain ⟨M7, e8, h⟩ := zle h
  refine zms_19 (pc := 26) hC i4 e8 dX12_statement_26 ?_
  refine zr_iload_n (pc := 27) hC 0 rfl rfl dX12_statement_27 ?_
  refine zr_bipush (pc := 28) hC zkb_119 dX12_statement_28 ?_
  refine zr_icmp_eq (pc := 30) (tgt := 41) hC dX12_statement_30 (by decide) (fun c9 => ?_) (fun c9 => ?_)
  · replace h := zip h c9
    refine zr_aload_n (pc := 41) hC 2 rfl rfl dX12_statement_41 ?_
    refine zr_dup (pc := 42) hC rfl dX12_statement_42 ?_
    refine zmg_22 (pc := 43) hC hinX12_statement_X12 flX12_statement_133 dX12_statement_43 ?_
    refine zr_iconst (pc := 46) hC zki_1 dX12_statement_46 ?_
    refine zr_iadd (pc := 47) hC dX12_statement_47 ?_
    obtain ⟨M10, e11, h⟩ := zle h
    refine zmp_22 (pc := 48) hC hinX12_statement_X12 flX12_statement_133 e11 dX12_statement_48 ?_
    refine zr_iload_n (pc := 51) hC 0 rfl rfl dX12_statement_51 ?_
    refine zr_bipush (pc := 52) hC zkb_119 dX12_statement_52 ?_
    refine zr_icmp_ne (pc := 54) (tgt := 65) hC dX12_statement_54 (by decide) (fun c12 => ?_) (fun c12 => ?_)
    · replace h := zin h c12
      refine zr_aload_n (pc := 65) hC 2 rfl rfl dX12_statement_65 ?_
      refine zr_iload_n (pc := 66) hC 1 rfl rfl dX12_statement_66 ?_
      obtain ⟨q13, hq13, h⟩ := zbd h
      refine zr_cVi (pc := 67) hC hEk [.int z1] [] 0 1 (fun l D => tX12_readsPlayer hEk hq13 l D) gX12_statement_X12_readsPlayer rfl rfl rfl ⟨Nat.le_of_ble_eq_true rfl, Nat.le_of_ble_eq_true rfl⟩ hyX12_readsPlayer (by decide) entM_0 rfl rfl rfl (Nat.le_of_ble_eq_true rfl) ⟨Nat.le_of_ble_eq_true rfl, Nat.le_of_ble_eq_true rfl⟩ dX12_statement_67 ?_
      obtain ⟨n14, h⟩ := zgd h
      obtain rfl := Option.some.inj h
      exact zr_zret hC hR (Decidable.not_not.mp n14) ⟨rfl, rfl⟩ (Nat.le_refl _) (Nat.le_refl _) dX12_statement_70
    · replace h := zip h c12
      refine zr_aload_n (pc := 57) hC 2 rfl rfl dX12_statement_57 ?_
      refine zr_iload_n (pc := 58) hC 1 rfl rfl dX12_statement_58 ?_
      obtain ⟨q15, hq15, h⟩ := zbd h
      refine zr_cVi (pc := 59) hC hEk [.int z1] [] 0 1 (fun l D => tX12_readsWord hEk hq15 l D) gX12_statement_X12_readsWord rfl rfl rfl ⟨Nat.le_of_ble_eq_true rfl, Nat.le_of_ble_eq_true rfl⟩ hyX12_readsWord (by decide) entM_0 rfl rfl rfl (Nat.le_of_ble_eq_true rfl) ⟨Nat.le_of_ble_eq_true rfl, Nat.le_of_ble_eq_true rfl⟩ dX12_statement_59 ?_
      refine zr_goto (pc := 62) (tgt := 70) hC dX12_statement_62 (by decide) ?_
      obtain ⟨n16, h⟩ := zgd h
      obtain rfl := Option.some.inj h
      exact zr_zret hC hR (Decidable.not_not.mp n16) ⟨rfl, rfl⟩ (Nat.le_refl _) (Nat.le_refl _) dX12_statement_70
  · replace h := zin h c9
    refine zr_iload_n (pc := 33) hC 0 rfl rfl dX12_statement_33 ?_
    refine zr_bipush (pc := 34) hC zkb_112 dX12_statement_34 ?_
    refine zr_icmp_eq (pc := 36) (tgt := 41) hC dX12_statement_36 (by decide) (fun c17 => ?_) (fun c17 => ?_)
    · replace h := zip h c17
      refine zr_aload_n (pc := 41) hC 2 rfl rfl dX12_statement_41 ?_
      refine zr_dup (pc := 42) hC rfl dX12_statement_42 ?_
      refine zmg_22 (pc := 43) hC hinX12_statement_X12 flX12_statement_133 dX12_statement_43 ?_
      refine zr_iconst (pc := 46) hC zki_1 dX12_statement_46 ?_
      refine zr_iadd (pc := 47) hC dX12_statement_47 ?_
      obtain ⟨M18, e19, h⟩ := zle h
      refine zmp_22 (pc := 48) hC hinX12_statement_X12 flX12_statement_133 e19 dX12_statement_48 ?_
      refine zr_iload_n (pc := 51) hC 0 rfl rfl dX12_statement_51 ?_
      refine zr_bipush (pc := 52) hC zkb_119 dX12_statement_52 ?_
      refine zr_icmp_ne (pc := 54) (tgt := 65) hC dX12_statement_54 (by decide) (fun c20 => ?_) (fun c20 => ?_)
      · replace h := zin h c20
        refine zr_aload_n (pc := 65) hC 2 rfl rfl dX12_statement_65 ?_
        refine zr_iload_n (pc := 66) hC 1 rfl rfl dX12_statement_66 ?_
        obtain ⟨q21, hq21, h⟩ := zbd h
        refine zr_cVi (pc := 67) hC hEk [.int z1] [] 0 1 (fun l D => tX12_readsPlayer hEk hq21 l D) gX12_statement_X12_readsPlayer rfl rfl rfl ⟨Nat.le_of_ble_eq_true rfl, Nat.le_of_ble_eq_true rfl⟩ hyX12_readsPlayer (by decide) entM_0 rfl rfl rfl (Nat.le_of_ble_eq_true rfl) ⟨Nat.le_of_ble_eq_true rfl, Nat.le_of_ble_eq_true rfl⟩ dX12_statement_67 ?_
        obtain ⟨n22, h⟩ := zgd h
        obtain rfl := Option.some.inj h
        exact zr_zret hC hR (Decidable.not_not.mp n22) ⟨rfl, rfl⟩ (Nat.le_refl _) (Nat.le_refl _) dX12_statement_70
      · replace h := zip h c20
        refine zr_aload_n (pc := 57) hC 2 rfl rfl dX12_statement_57 ?_
        refine zr_iload_n (pc := 58) hC 1 rfl rfl dX12_statement_58 ?_
        obtain ⟨q23, hq23, h⟩ := zbd h
        refine zr_cVi (pc := 59) hC hEk [.int z1] [] 0 1 (fun l D => tX12_readsWord hEk hq23 l D) gX12_statement_X12_readsWord rfl rfl rfl ⟨Nat.le_of_ble_eq_true rfl, Nat.le_of_ble_eq_true rfl⟩ hyX12_readsWord (by decide) entM_0 rfl rfl rfl (Nat.le_of_ble_eq_true rfl) ⟨Nat.le_of_ble_eq_true rfl, Nat.le_of_ble_eq_true rfl⟩ dX12_statement_59 ?_
        refine zr_goto (pc := 62) (tgt := 70) hC dX12_statement_62 (by decide) ?_
        obtain ⟨n24, h⟩ := zgd h
        obtain rfl := Option.some.inj h
        exact zr_zret hC hR (Decidable.not_not.mp n24) ⟨rfl, rfl⟩ (Nat.le_refl _) (Nat.le_refl _) dX12_statement_70
    · replace h := zin h c17
      refine zr_iconst (pc := 39) hC zki_0 dX12_statement_39 ?_
      obtain rfl := Option.some.inj h
      exact zr_zret hC hR (by decide) ⟨rfl, rfl⟩ (Nat.le_refl _) (Nat.le_refl _) dX12_statement_40
/-! X12_comes -/
theorem hyX12_comes : yX12_comes.cls = RX12 ∧ yX12_comes.cls ≠ "java/lang/invoke/MethodHandle" ∧ yX12_comes.cls ≠ "java/lang/invoke/VarHandle" ∧ (parseMethodDescriptor yX12_comes.desc).map (fun d => d.parameters.length) = some 1 := by decide +kernel
theorem flX12_comes_114 : Cond.fieldLink RX12 114 "BeforeTheEndModel" "players" "I" ∈ wsX12_comes := by decide +kernel
theorem flX12_comes_19 : Cond.fieldLink RX12 19 "BeforeTheEndModel" "answer" "[I" ∈ wsX12_comes := by decide +kernel
theorem flX12_comes_25 : Cond.fieldLink RX12 25 "BeforeTheEndModel" "kind" "[I" ∈ wsX12_comes := by decide +kernel
theorem flX12_comes_28 : Cond.fieldLink RX12 28 "BeforeTheEndModel" "knows" "[I" ∈ wsX12_comes := by decide +kernel
theorem flX12_comes_31 : Cond.fieldLink RX12 31 "BeforeTheEndModel" "hand" "[I" ∈ wsX12_comes := by decide +kernel
theorem flX12_comes_34 : Cond.fieldLink RX12 34 "BeforeTheEndModel" "sure" "[I" ∈ wsX12_comes := by decide +kernel
theorem flX12_comes_37 : Cond.fieldLink RX12 37 "BeforeTheEndModel" "told" "[I" ∈ wsX12_comes := by decide +kernel
theorem flX12_comes_46 : Cond.fieldLink RX12 46 "BeforeTheEndModel" "words" "I" ∈ wsX12_comes := by decide +kernel
theorem flX12_comes_53 : Cond.fieldLink RX12 53 "BeforeTheEndModel" "told1" "[I" ∈ wsX12_comes := by decide +kernel
theorem flX12_comes_56 : Cond.fieldLink RX12 56 "BeforeTheEndModel" "told2" "[I" ∈ wsX12_comes := by decide +kernel
theorem flX12_comes_59 : Cond.fieldLink RX12 59 "BeforeTheEndModel" "told3" "[I" ∈ wsX12_comes := by decide +kernel
theorem flX12_comes_62 : Cond.fieldLink RX12 62 "BeforeTheEndModel" "toldSet" "[I" ∈ wsX12_comes := by decide +kernel
theorem flX12_comes_65 : Cond.fieldLink RX12 65 "BeforeTheEndModel" "toldKind" "[I" ∈ wsX12_comes := by decide +kernel
theorem hinX12_comes_X12 : ∀ w ∈ wsX120, w ∈ wsX12_comes := fun _ h => List.mem_cons_of_mem _ (List.mem_append_right _ h)
def xX12_comes (M : zM) (v1 : Int32) : Option (Int32 × zM) :=
  if (v1 < 0 ∨ 32 ≤ v1.toNatClampNeg) then none else
  if (M.1 18 v1.toNatClampNeg) = (119 : Int32) then
  (if (M.1 0 12) = (24 : Int32) then
  (some ((0 : Int32), M))
  else
  (xX12_isWord M (M.1 14 v1.toNatClampNeg)).bind fun q24 =>
  if q24 = 0 then
  (some ((0 : Int32), M))
  else
  if ((M.1 14 v1.toNatClampNeg) < 0 ∨ 24 ≤ (M.1 14 v1.toNatClampNeg).toNatClampNeg) then none else
  if (M.1 4 (M.1 14 v1.toNatClampNeg).toNatClampNeg) = 0 then
  (if (M.1 15 v1.toNatClampNeg) = 0 then
  (some ((0 : Int32), M))
  else
  (xX12_comesWord M (M.1 14 v1.toNatClampNeg) (M.1 15 v1.toNatClampNeg) (M.1 16 v1.toNatClampNeg)).bind fun q29 =>
  some ((1 : Int32), q29))
  else
  some ((0 : Int32), M))
  else
  if (M.1 0 13) = (4 : Int32) then
  (some ((0 : Int32), M))
  else
  if (100 : Int32) < (M.1 15 v1.toNatClampNeg) then
  (some ((0 : Int32), M))
  else
  if (M.1 17 v1.toNatClampNeg) < (1024 : Int32) then
  (if ((M.1 0 13) < 0 ∨ 4 ≤ (M.1 0 13).toNatClampNeg) then none else
  zlet (zsi M 6 (M.1 0 13).toNatClampNeg (M.1 16 v1.toNatClampNeg)) fun M7 =>
  if ((M7.1 0 13) < 0 ∨ 4 ≤ (M7.1 0 13).toNatClampNeg) then none else
  zlet (zsi M7 8 (M7.1 0 13).toNatClampNeg (M7.1 14 v1.toNatClampNeg)) fun M10 =>
  if ((M10.1 0 13) < 0 ∨ 4 ≤ (M10.1 0 13).toNatClampNeg) then none else
  zlet (zsi M10 9 (M10.1 0 13).toNatClampNeg (M10.1 15 v1.toNatClampNeg)) fun M13 =>
  if ((M13.1 0 13) < 0 ∨ 4 ≤ (M13.1 0 13).toNatClampNeg) then none else
  zlet (zsi M13 7 (M13.1 0 13).toNatClampNeg (M13.1 17 v1.toNatClampNeg)) fun M16 =>
  if ((M16.1 0 13) < 0 ∨ 4 ≤ (M16.1 0 13).toNatClampNeg) then none else
  zlet (zsi M16 10 (M16.1 0 13).toNatClampNeg (0 : Int32)) fun M19 =>
  zlet (zsi M19 0 13 ((M19.1 0 13) + (1 : Int32))) fun M21 =>
  some ((1 : Int32), M21))
  else
  some ((0 : Int32), M)
set_option maxHeartbeats 4000000 in
set_option maxRecDepth 100000 in
theorem tX12_comes {κ : Nat → ClassId} {E : zEn} {ad : Nat → Nat} (hEk : zEk E) {M : zM} {v1 : Int32} {res : (Int32 × zM)} (h : xX12_comes M v1 = some res) (l : Launch) (D : va_G) : zCT E D vwCl (zty κ) l yX12_comes wsX12_comes ({ frames := 1, cells := 0, slots := 0, locals := 23 } : Room) 0 0 [.ref (ad 0), .int v1] (zwM κ ad M) (zPd (some (.int res.1)) (zwM κ ad res.2)) := by
  refine zCT.of (cc := cX12_comes) (maxL := 2) (ret := (some .boolean)) (by decide) rfl (Nat.le_of_ble_eq_true rfl) ?_
  intro X hC hR
  unfold xX12_comes at h
  refine zV.sub (lv' := [(0, .ref (ad 0)), (1, .int v1)]) [0, 1] rfl ?_
  refine zr_aload_n (pc := 0) hC 0 rfl rfl dX12_comes_0 ?_
  refine zmg_19 (pc := 1) hC hinX12_comes_X12 flX12_comes_65 dX12_comes_1 ?_
  refine zr_iload_n (pc := 4) hC 1 rfl rfl dX12_comes_4 ?_
  obtain ⟨i1, h⟩ := zgd h
  refine zml_18 (pc := 5) hC i1 dX12_comes_5 ?_
  refine zr_bipush (pc := 6) hC zkb_119 dX12_comes_6 ?_
  refine zr_icmp_ne (pc := 8) (tgt := 82) hC dX12_comes_8 (by decide) (fun c2 => ?_) (fun c2 => ?_)
  · replace h := zin h c2
    refine zr_aload_n (pc := 82) hC 0 rfl rfl dX12_comes_82 ?_
    refine zmg_13 (pc := 83) hC hinX12_comes_X12 flX12_comes_114 dX12_comes_83 ?_
    refine zr_iconst (pc := 86) hC zki_4 dX12_comes_86 ?_
    refine zr_icmp_eq (pc := 87) (tgt := 113) hC dX12_comes_87 (by decide) (fun c3 => ?_) (fun c3 => ?_)
    · replace h := zip h c3
      refine zr_iconst (pc := 113) hC zki_0 dX12_comes_113 ?_
      obtain rfl := Option.some.inj h
      exact zr_zret hC hR (by decide) ⟨rfl, rfl⟩ (Nat.le_refl _) (Nat.le_refl _) dX12_comes_114
    · replace h := zin h c3
      refine zr_aload_n (pc := 90) hC 0 rfl rfl dX12_comes_90 ?_
      refine zmg_16 (pc := 91) hC hinX12_comes_X12 flX12_comes_56 dX12_comes_91 ?_
      refine zr_iload_n (pc := 94) hC 1 rfl rfl dX12_comes_94 ?_
      refine zml_15 (pc := 95) hC i1 dX12_comes_95 ?_
      refine zr_bipush (pc := 96) hC zkb_100 dX12_comes_96 ?_
      refine zr_icmp_gt (pc := 98) (tgt := 113) hC dX12_comes_98 (by decide) (fun c4 => ?_) (fun c4 => ?_)
      · replace h := zip h c4
        refine zr_iconst (pc := 113) hC zki_0 dX12_comes_113 ?_
        obtain rfl := Option.some.inj h
        exact zr_zret hC hR (by decide) ⟨rfl, rfl⟩ (Nat.le_refl _) (Nat.le_refl _) dX12_comes_114
      · replace h := zin h c4
        refine zr_aload_n (pc := 101) hC 0 rfl rfl dX12_comes_101 ?_
        refine zmg_18 (pc := 102) hC hinX12_comes_X12 flX12_comes_62 dX12_comes_102 ?_
        refine zr_iload_n (pc := 105) hC 1 rfl rfl dX12_comes_105 ?_
        refine zml_17 (pc := 106) hC i1 dX12_comes_106 ?_
        refine zr_sipush (pc := 107) hC zks_1024 dX12_comes_107 ?_
        refine zr_icmp_lt (pc := 110) (tgt := 115) hC dX12_comes_110 (by decide) (fun c5 => ?_) (fun c5 => ?_)
        · replace h := zip h c5
          refine zr_aload_n (pc := 115) hC 0 rfl rfl dX12_comes_115 ?_
          refine zmg_5 (pc := 116) hC hinX12_comes_X12 flX12_comes_25 dX12_comes_116 ?_
          refine zr_aload_n (pc := 119) hC 0 rfl rfl dX12_comes_119 ?_
          refine zmg_13 (pc := 120) hC hinX12_comes_X12 flX12_comes_114 dX12_comes_120 ?_
          refine zr_aload_n (pc := 123) hC 0 rfl rfl dX12_comes_123 ?_
          refine zmg_17 (pc := 124) hC hinX12_comes_X12 flX12_comes_59 dX12_comes_124 ?_
          refine zr_iload_n (pc := 127) hC 1 rfl rfl dX12_comes_127 ?_
          refine zml_16 (pc := 128) hC i1 dX12_comes_128 ?_
          obtain ⟨i6, h⟩ := zgd h
          obtain ⟨M7, e8, h⟩ := zle h
          refine zms_6 (pc := 129) hC i6 e8 dX12_comes_129 ?_
          refine zr_aload_n (pc := 130) hC 0 rfl rfl dX12_comes_130 ?_
          refine zmg_7 (pc := 131) hC hinX12_comes_X12 flX12_comes_31 dX12_comes_131 ?_
          refine zr_aload_n (pc := 134) hC 0 rfl rfl dX12_comes_134 ?_
          refine zmg_13 (pc := 135) hC hinX12_comes_X12 flX12_comes_114 dX12_comes_135 ?_
          refine zr_aload_n (pc := 138) hC 0 rfl rfl dX12_comes_138 ?_
          refine zmg_15 (pc := 139) hC hinX12_comes_X12 flX12_comes_53 dX12_comes_139 ?_
          refine zr_iload_n (pc := 142) hC 1 rfl rfl dX12_comes_142 ?_
          refine zml_14 (pc := 143) hC i1 dX12_comes_143 ?_
          obtain ⟨i9, h⟩ := zgd h
          obtain ⟨M10, e11, h⟩ := zle h
          refine zms_8 (pc := 144) hC i9 e11 dX12_comes_144 ?_
          refine zr_aload_n (pc := 145) hC 0 rfl rfl dX12_comes_145 ?_
          refine zmg_8 (pc := 146) hC hinX12_comes_X12 flX12_comes_34 dX12_comes_146 ?_
          refine zr_aload_n (pc := 149) hC 0 rfl rfl dX12_comes_149 ?_
          refine zmg_13 (pc := 150) hC hinX12_comes_X12 flX12_comes_114 dX12_comes_150 ?_
          refine zr_aload_n (pc := 153) hC 0 rfl rfl dX12_comes_153 ?_
          refine zmg_16 (pc := 154) hC hinX12_comes_X12 flX12_comes_56 dX12_comes_154 ?_
          refine zr_iload_n (pc := 157) hC 1 rfl rfl dX12_comes_157 ?_
          refine zml_15 (pc := 158) hC i1 dX12_comes_158 ?_
          obtain ⟨i12, h⟩ := zgd h
          obtain ⟨M13, e14, h⟩ := zle h
          refine zms_9 (pc := 159) hC i12 e14 dX12_comes_159 ?_
          refine zr_aload_n (pc := 160) hC 0 rfl rfl dX12_comes_160 ?_
          refine zmg_6 (pc := 161) hC hinX12_comes_X12 flX12_comes_28 dX12_comes_161 ?_
          refine zr_aload_n (pc := 164) hC 0 rfl rfl dX12_comes_164 ?_
          refine zmg_13 (pc := 165) hC hinX12_comes_X12 flX12_comes_114 dX12_comes_165 ?_
          refine zr_aload_n (pc := 168) hC 0 rfl rfl dX12_comes_168 ?_
          refine zmg_18 (pc := 169) hC hinX12_comes_X12 flX12_comes_62 dX12_comes_169 ?_
          refine zr_iload_n (pc := 172) hC 1 rfl rfl dX12_comes_172 ?_
          refine zml_17 (pc := 173) hC i1 dX12_comes_173 ?_
          obtain ⟨i15, h⟩ := zgd h
          obtain ⟨M16, e17, h⟩ := zle h
          refine zms_7 (pc := 174) hC i15 e17 dX12_comes_174 ?_
          refine zr_aload_n (pc := 175) hC 0 rfl rfl dX12_comes_175 ?_
          refine zmg_9 (pc := 176) hC hinX12_comes_X12 flX12_comes_37 dX12_comes_176 ?_
          refine zr_aload_n (pc := 179) hC 0 rfl rfl dX12_comes_179 ?_
          refine zmg_13 (pc := 180) hC hinX12_comes_X12 flX12_comes_114 dX12_comes_180 ?_
          refine zr_iconst (pc := 183) hC zki_0 dX12_comes_183 ?_
          obtain ⟨i18, h⟩ := zgd h
          obtain ⟨M19, e20, h⟩ := zle h
          refine zms_10 (pc := 184) hC i18 e20 dX12_comes_184 ?_
          refine zr_aload_n (pc := 185) hC 0 rfl rfl dX12_comes_185 ?_
          refine zr_dup (pc := 186) hC rfl dX12_comes_186 ?_
          refine zmg_13 (pc := 187) hC hinX12_comes_X12 flX12_comes_114 dX12_comes_187 ?_
          refine zr_iconst (pc := 190) hC zki_1 dX12_comes_190 ?_
          refine zr_iadd (pc := 191) hC dX12_comes_191 ?_
          obtain ⟨M21, e22, h⟩ := zle h
          refine zmp_13 (pc := 192) hC hinX12_comes_X12 flX12_comes_114 e22 dX12_comes_192 ?_
          refine zr_iconst (pc := 195) hC zki_1 dX12_comes_195 ?_
          obtain rfl := Option.some.inj h
          exact zr_zret hC hR (by decide) ⟨rfl, rfl⟩ (Nat.le_refl _) (Nat.le_refl _) dX12_comes_196
        · replace h := zin h c5
          refine zr_iconst (pc := 113) hC zki_0 dX12_comes_113 ?_
          obtain rfl := Option.some.inj h
          exact zr_zret hC hR (by decide) ⟨rfl, rfl⟩ (Nat.le_refl _) (Nat.le_refl _) dX12_comes_114
  · replace h := zip h c2
    refine zr_aload_n (pc := 11) hC 0 rfl rfl dX12_comes_11 ?_
    refine zmg_12 (pc := 12) hC hinX12_comes_X12 flX12_comes_46 dX12_comes_12 ?_
    refine zr_bipush (pc := 15) hC zkb_24 dX12_comes_15 ?_
    refine zr_icmp_eq (pc := 17) (tgt := 56) hC dX12_comes_17 (by decide) (fun c23 => ?_) (fun c23 => ?_)
    · replace h := zip h c23
      refine zr_iconst (pc := 56) hC zki_0 dX12_comes_56 ?_
      obtain rfl := Option.some.inj h
      exact zr_zret hC hR (by decide) ⟨rfl, rfl⟩ (Nat.le_refl _) (Nat.le_refl _) dX12_comes_57
    · replace h := zin h c23
      refine zr_aload_n (pc := 20) hC 0 rfl rfl dX12_comes_20 ?_
      refine zr_aload_n (pc := 21) hC 0 rfl rfl dX12_comes_21 ?_
      refine zmg_15 (pc := 22) hC hinX12_comes_X12 flX12_comes_53 dX12_comes_22 ?_
      refine zr_iload_n (pc := 25) hC 1 rfl rfl dX12_comes_25 ?_
      refine zml_14 (pc := 26) hC i1 dX12_comes_26 ?_
      obtain ⟨q24, hq24, h⟩ := zbd h
      refine zr_cVi (pc := 27) hC hEk [.int (M.1 14 v1.toNatClampNeg)] [] 0 1 (fun l D => tX12_isWord hEk hq24 l D) gX12_comes_X12_isWord rfl rfl rfl ⟨Nat.le_of_ble_eq_true rfl, Nat.le_of_ble_eq_true rfl⟩ hyX12_isWord (by decide) entM_0 rfl rfl rfl (Nat.le_of_ble_eq_true rfl) ⟨Nat.le_of_ble_eq_true rfl, Nat.le_of_ble_eq_true rfl⟩ dX12_comes_27 ?_
      refine zr_if_eq (pc := 30) (tgt := 56) hC dX12_comes_30 (by decide) (fun c25 => ?_) (fun c25 => ?_)
      · replace h := zip h c25
        refine zr_iconst (pc := 56) hC zki_0 dX12_comes_56 ?_
        obtain rfl := Option.some.inj h
        exact zr_zret hC hR (by decide) ⟨rfl, rfl⟩ (Nat.le_refl _) (Nat.le_refl _) dX12_comes_57
      · replace h := zin h c25
        refine zr_aload_n (pc := 33) hC 0 rfl rfl dX12_comes_33 ?_
        refine zmg_3 (pc := 34) hC hinX12_comes_X12 flX12_comes_19 dX12_comes_34 ?_
        refine zr_aload_n (pc := 37) hC 0 rfl rfl dX12_comes_37 ?_
        refine zmg_15 (pc := 38) hC hinX12_comes_X12 flX12_comes_53 dX12_comes_38 ?_
        refine zr_iload_n (pc := 41) hC 1 rfl rfl dX12_comes_41 ?_
        refine zml_14 (pc := 42) hC i1 dX12_comes_42 ?_
        obtain ⟨i26, h⟩ := zgd h
        refine zml_4 (pc := 43) hC i26 dX12_comes_43 ?_
        refine zr_if_ne (pc := 44) (tgt := 56) hC dX12_comes_44 (by decide) (fun c27 => ?_) (fun c27 => ?_)
        · replace h := zin h c27
          refine zr_iconst (pc := 56) hC zki_0 dX12_comes_56 ?_
          obtain rfl := Option.some.inj h
          exact zr_zret hC hR (by decide) ⟨rfl, rfl⟩ (Nat.le_refl _) (Nat.le_refl _) dX12_comes_57
        · replace h := zip h c27
          refine zr_aload_n (pc := 47) hC 0 rfl rfl dX12_comes_47 ?_
          refine zmg_16 (pc := 48) hC hinX12_comes_X12 flX12_comes_56 dX12_comes_48 ?_
          refine zr_iload_n (pc := 51) hC 1 rfl rfl dX12_comes_51 ?_
          refine zml_15 (pc := 52) hC i1 dX12_comes_52 ?_
          refine zr_if_ne (pc := 53) (tgt := 58) hC dX12_comes_53 (by decide) (fun c28 => ?_) (fun c28 => ?_)
          · replace h := zin h c28
            refine zr_aload_n (pc := 58) hC 0 rfl rfl dX12_comes_58 ?_
            refine zr_aload_n (pc := 59) hC 0 rfl rfl dX12_comes_59 ?_
            refine zmg_15 (pc := 60) hC hinX12_comes_X12 flX12_comes_53 dX12_comes_60 ?_
            refine zr_iload_n (pc := 63) hC 1 rfl rfl dX12_comes_63 ?_
            refine zml_14 (pc := 64) hC i1 dX12_comes_64 ?_
            refine zr_aload_n (pc := 65) hC 0 rfl rfl dX12_comes_65 ?_
            refine zmg_16 (pc := 66) hC hinX12_comes_X12 flX12_comes_56 dX12_comes_66 ?_
            refine zr_iload_n (pc := 69) hC 1 rfl rfl dX12_comes_69 ?_
            refine zml_15 (pc := 70) hC i1 dX12_comes_70 ?_
            refine zr_aload_n (pc := 71) hC 0 rfl rfl dX12_comes_71 ?_
            refine zmg_17 (pc := 72) hC hinX12_comes_X12 flX12_comes_59 dX12_comes_72 ?_
            refine zr_iload_n (pc := 75) hC 1 rfl rfl dX12_comes_75 ?_
            refine zml_16 (pc := 76) hC i1 dX12_comes_76 ?_
            obtain ⟨q29, hq29, h⟩ := zbd h
            refine zr_cVv (pc := 77) hC hEk [.int (M.1 14 v1.toNatClampNeg), .int (M.1 15 v1.toNatClampNeg), .int (M.1 16 v1.toNatClampNeg)] [] 0 3 (fun l D => tX12_comesWord hEk hq29 l D) gX12_comes_X12_comesWord rfl rfl rfl ⟨Nat.le_of_ble_eq_true rfl, Nat.le_of_ble_eq_true rfl⟩ hyX12_comesWord (by decide) entM_0 rfl rfl rfl (Nat.le_of_ble_eq_true rfl) ⟨Nat.le_of_ble_eq_true rfl, Nat.le_of_ble_eq_true rfl⟩ dX12_comes_77 ?_
            refine zr_iconst (pc := 80) hC zki_1 dX12_comes_80 ?_
            obtain rfl := Option.some.inj h
            exact zr_zret hC hR (by decide) ⟨rfl, rfl⟩ (Nat.le_refl _) (Nat.le_refl _) dX12_comes_81
          · replace h := zip h c28
            refine zr_iconst (pc := 56) hC zki_0 dX12_comes_56 ?_
            obtain rfl := Option.some.inj h
            exact zr_zret hC hR (by decide) ⟨rfl, rfl⟩ (Nat.le_refl _) (Nat.le_refl _) dX12_comes_57
/-! X12_quiz -/
theorem hyX12_quiz : yX12_quiz.cls = RX12 ∧ yX12_quiz.cls ≠ "java/lang/invoke/MethodHandle" ∧ yX12_quiz.cls ≠ "java/lang/invoke/VarHandle" ∧ (parseMethodDescriptor yX12_quiz.desc).map (fun d => d.parameters.length) = some 0 := by decide +kernel
theorem flX12_quiz_114 : Cond.fieldLink RX12 114 "BeforeTheEndModel" "players" "I" ∈ wsX12_quiz := by decide +kernel
theorem flX12_quiz_125 : Cond.fieldLink RX12 125 "BeforeTheEndModel" "taped" "I" ∈ wsX12_quiz := by decide +kernel
theorem flX12_quiz_133 : Cond.fieldLink RX12 133 "BeforeTheEndModel" "at" "I" ∈ wsX12_quiz := by decide +kernel
theorem flX12_quiz_157 : Cond.fieldLink RX12 157 "BeforeTheEndModel" "statements" "I" ∈ wsX12_quiz := by decide +kernel
theorem flX12_quiz_46 : Cond.fieldLink RX12 46 "BeforeTheEndModel" "words" "I" ∈ wsX12_quiz := by decide +kernel
theorem flX12_quiz_68 : Cond.fieldLink RX12 68 "BeforeTheEndModel" "toldAt" "[I" ∈ wsX12_quiz := by decide +kernel
theorem hinX12_quiz_X12 : ∀ w ∈ wsX120, w ∈ wsX12_quiz := fun _ h => List.mem_cons_of_mem _ (List.mem_append_right _ h)
def xX12_quiz_L12 (w0 : zM) (w1 : Int32) : Option ((zM × Int32) ⊕ (zM × Int32)) :=
  if w1 = 0 then
  (some (.inr (w0, w1)))
  else
  if (w0.1 0 22) < (w0.1 0 21) then
  ((xX12_statement w0).bind fun q3 =>
  if q3.1 = 0 then
  (zlet (zsi q3.2 0 23 ((q3.2.1 0 23) + (0 : Int32))) fun M5 =>
  some (.inl (M5, q3.1)))
  else
  zlet (zsi q3.2 0 23 ((q3.2.1 0 23) + (1 : Int32))) fun M7 =>
  some (.inl (M7, q3.1)))
  else
  if (w0.1 0 23) = 0 then
  ((xX12_statement w0).bind fun q10 =>
  if q10.1 = 0 then
  (zlet (zsi q10.2 0 23 ((q10.2.1 0 23) + (0 : Int32))) fun M12 =>
  some (.inl (M12, q10.1)))
  else
  zlet (zsi q10.2 0 23 ((q10.2.1 0 23) + (1 : Int32))) fun M14 =>
  some (.inl (M14, q10.1)))
  else
  some (.inr (w0, w1))
set_option maxHeartbeats 4000000 in
set_option maxRecDepth 100000 in
theorem tX12_quiz_L12 {κ : Nat → ClassId} {E : zEn} {ad : Nat → Nat} {X : zX} {w0 : zM} {w1 : Int32} {r : ((zM × Int32) ⊕ (zM × Int32))} (hC : zC X cX12_quiz RX12 wsX12_quiz vwCl (zty κ) E 5 ({ frames := 5, cells := 0, slots := 0, locals := 107 } : Room)) (hEk : zEk E) (hin : ∀ (x0' : zM) (x1' : Int32), r = .inl (x0', x1') → zV X 0 0 (zwM κ ad x0') [(0, .ref (ad 0)), (1, .int x1')] [] 12) (hout0 : ∀ (x0' : zM) (x1' : Int32), r = .inr (x0', x1') → zV X 0 0 (zwM κ ad x0') [(0, .ref (ad 0)), (1, .int x1')] [] 60) (h : xX12_quiz_L12   w0 w1 = some r) : zV X 0 0 (zwM κ ad w0) [(0, .ref (ad 0)), (1, .int w1)] [] 12 := by
  unfold xX12_quiz_L12 at h
  refine zr_iload_n (pc := 12) hC 1 rfl rfl dX12_quiz_12 ?_
  refine zr_if_eq (pc := 13) (tgt := 60) hC dX12_quiz_13 (by decide) (fun c1 => ?_) (fun c1 => ?_)
  · replace h := zip h c1
    obtain rfl := Option.some.inj h
    exact zV.sub (lv' := [(0, .ref (ad 0)), (1, .int w1)]) [0, 1] rfl (hout0 w0 w1 rfl)
  · replace h := zin h c1
    refine zr_aload_n (pc := 16) hC 0 rfl rfl dX12_quiz_16 ?_
    refine zmg_22 (pc := 17) hC hinX12_quiz_X12 flX12_quiz_133 dX12_quiz_17 ?_
    refine zr_aload_n (pc := 20) hC 0 rfl rfl dX12_quiz_20 ?_
    refine zmg_21 (pc := 21) hC hinX12_quiz_X12 flX12_quiz_125 dX12_quiz_21 ?_
    refine zr_icmp_lt (pc := 24) (tgt := 34) hC dX12_quiz_24 (by decide) (fun c2 => ?_) (fun c2 => ?_)
    · replace h := zip h c2
      refine zr_aload_n (pc := 34) hC 0 rfl rfl dX12_quiz_34 ?_
      obtain ⟨q3, hq3, h⟩ := zbd h
      refine zr_cVi (pc := 35) hC hEk [] [] 0 0 (fun l D => tX12_statement hEk hq3 l D) gX12_quiz_X12_statement rfl rfl rfl ⟨Nat.le_of_ble_eq_true rfl, Nat.le_of_ble_eq_true rfl⟩ hyX12_statement (by decide) entM_0 rfl rfl rfl (Nat.le_of_ble_eq_true rfl) ⟨Nat.le_of_ble_eq_true rfl, Nat.le_of_ble_eq_true rfl⟩ dX12_quiz_35 ?_
      refine zr_istore_n (pc := 38) (lv' := [(1, .int q3.1), (0, .ref (ad 0))]) hC rfl (by decide) rfl dX12_quiz_38 ?_
      refine zr_aload_n (pc := 39) hC 1 rfl rfl dX12_quiz_39 ?_
      refine zr_dup (pc := 40) hC rfl dX12_quiz_40 ?_
      refine zmg_23 (pc := 41) hC hinX12_quiz_X12 flX12_quiz_157 dX12_quiz_41 ?_
      refine zr_iload_n (pc := 44) hC 0 rfl rfl dX12_quiz_44 ?_
      refine zr_if_eq (pc := 45) (tgt := 52) hC dX12_quiz_45 (by decide) (fun c4 => ?_) (fun c4 => ?_)
      · replace h := zip h c4
        refine zr_iconst (pc := 52) hC zki_0 dX12_quiz_52 ?_
        refine zr_iadd (pc := 53) hC dX12_quiz_53 ?_
        obtain ⟨M5, e6, h⟩ := zle h
        refine zmp_23 (pc := 54) hC hinX12_quiz_X12 flX12_quiz_157 e6 dX12_quiz_54 ?_
        refine zr_goto (pc := 57) (tgt := 12) hC dX12_quiz_57 (by decide) ?_
        obtain rfl := Option.some.inj h
        exact zV.sub (lv' := [(0, .ref (ad 0)), (1, .int q3.1)]) [1, 0] rfl (hin M5 q3.1 rfl)
      · replace h := zin h c4
        refine zr_iconst (pc := 48) hC zki_1 dX12_quiz_48 ?_
        refine zr_goto (pc := 49) (tgt := 53) hC dX12_quiz_49 (by decide) ?_
        refine zr_iadd (pc := 53) hC dX12_quiz_53 ?_
        obtain ⟨M7, e8, h⟩ := zle h
        refine zmp_23 (pc := 54) hC hinX12_quiz_X12 flX12_quiz_157 e8 dX12_quiz_54 ?_
        refine zr_goto (pc := 57) (tgt := 12) hC dX12_quiz_57 (by decide) ?_
        obtain rfl := Option.some.inj h
        exact zV.sub (lv' := [(0, .ref (ad 0)), (1, .int q3.1)]) [1, 0] rfl (hin M7 q3.1 rfl)
    · replace h := zin h c2
      refine zr_aload_n (pc := 27) hC 0 rfl rfl dX12_quiz_27 ?_
      refine zmg_23 (pc := 28) hC hinX12_quiz_X12 flX12_quiz_157 dX12_quiz_28 ?_
      refine zr_if_ne (pc := 31) (tgt := 60) hC dX12_quiz_31 (by decide) (fun c9 => ?_) (fun c9 => ?_)
      · replace h := zin h c9
        obtain rfl := Option.some.inj h
        exact zV.sub (lv' := [(0, .ref (ad 0)), (1, .int w1)]) [0, 1] rfl (hout0 w0 w1 rfl)
      · replace h := zip h c9
        refine zr_aload_n (pc := 34) hC 0 rfl rfl dX12_quiz_34 ?_
        obtain ⟨q10, hq10, h⟩ := zbd h
        refine zr_cVi (pc := 35) hC hEk [] [] 0 0 (fun l D => tX12_statement hEk hq10 l D) gX12_quiz_X12_statement rfl rfl rfl ⟨Nat.le_of_ble_eq_true rfl, Nat.le_of_ble_eq_true rfl⟩ hyX12_statement (by decide) entM_0 rfl rfl rfl (Nat.le_of_ble_eq_true rfl) ⟨Nat.le_of_ble_eq_true rfl, Nat.le_of_ble_eq_true rfl⟩ dX12_quiz_35 ?_
        refine zr_istore_n (pc := 38) (lv' := [(1, .int q10.1), (0, .ref (ad 0))]) hC rfl (by decide) rfl dX12_quiz_38 ?_
        refine zr_aload_n (pc := 39) hC 1 rfl rfl dX12_quiz_39 ?_
        refine zr_dup (pc := 40) hC rfl dX12_quiz_40 ?_
        refine zmg_23 (pc := 41) hC hinX12_quiz_X12 flX12_quiz_157 dX12_quiz_41 ?_
        refine zr_iload_n (pc := 44) hC 0 rfl rfl dX12_quiz_44 ?_
        refine zr_if_eq (pc := 45) (tgt := 52) hC dX12_quiz_45 (by decide) (fun c11 => ?_) (fun c11 => ?_)
        · replace h := zip h c11
          refine zr_iconst (pc := 52) hC zki_0 dX12_quiz_52 ?_
          refine zr_iadd (pc := 53) hC dX12_quiz_53 ?_
          obtain ⟨M12, e13, h⟩ := zle h
          refine zmp_23 (pc := 54) hC hinX12_quiz_X12 flX12_quiz_157 e13 dX12_quiz_54 ?_
          refine zr_goto (pc := 57) (tgt := 12) hC dX12_quiz_57 (by decide) ?_
          obtain rfl := Option.some.inj h
          exact zV.sub (lv' := [(0, .ref (ad 0)), (1, .int q10.1)]) [1, 0] rfl (hin M12 q10.1 rfl)
        · replace h := zin h c11
          refine zr_iconst (pc := 48) hC zki_1 dX12_quiz_48 ?_
          refine zr_goto (pc := 49) (tgt := 53) hC dX12_quiz_49 (by decide) ?_
          refine zr_iadd (pc := 53) hC dX12_quiz_53 ?_
          obtain ⟨M14, e15, h⟩ := zle h
          refine zmp_23 (pc := 54) hC hinX12_quiz_X12 flX12_quiz_157 e15 dX12_quiz_54 ?_
          refine zr_goto (pc := 57) (tgt := 12) hC dX12_quiz_57 (by decide) ?_
          obtain rfl := Option.some.inj h
          exact zV.sub (lv' := [(0, .ref (ad 0)), (1, .int q10.1)]) [1, 0] rfl (hin M14 q10.1 rfl)
def xX12_quiz_L91 (v2 : Int32) (v3 : Int32) (w0 : zM) (w1 : Int32) : Option ((zM × Int32) ⊕ ((zM × Int32) ⊕ zM)) :=
  if (w0.1 0 23) ≤ w1 then
  (some (.inr (.inr w0)))
  else
  (xX12_comes w0 w1).bind fun q2 =>
  if q2.1 = 0 then
  (some (.inr (.inl (q2.2, w1))))
  else
  some (.inl (q2.2, (w1 + (1 : Int32))))
set_option maxHeartbeats 4000000 in
set_option maxRecDepth 100000 in
theorem tX12_quiz_L91 {κ : Nat → ClassId} {E : zEn} {ad : Nat → Nat} {X : zX} {v2 : Int32} {v3 : Int32} {w0 : zM} {w1 : Int32} {r : ((zM × Int32) ⊕ ((zM × Int32) ⊕ zM))} (hC : zC X cX12_quiz RX12 wsX12_quiz vwCl (zty κ) E 5 ({ frames := 5, cells := 0, slots := 0, locals := 107 } : Room)) (hEk : zEk E) (hin : ∀ (x0' : zM) (x1' : Int32), r = .inl (x0', x1') → zV X 0 0 (zwM κ ad x0') [(0, .ref (ad 0)), (2, .int v2), (3, .int v3), (4, .int x1')] [] 91) (hout0 : ∀ (x0' : zM) (x1' : Int32), r = .inr (.inl (x0', x1')) → zV X 0 0 (zwM κ ad x0') [(0, .ref (ad 0)), (2, .int v2), (3, .int v3), (4, .int x1')] [] 112) (hout1 : ∀ (x0' : zM), r = .inr (.inr x0') → zV X 0 0 (zwM κ ad x0') [(0, .ref (ad 0))] [] 140) (h : xX12_quiz_L91  v2 v3 w0 w1 = some r) : zV X 0 0 (zwM κ ad w0) [(0, .ref (ad 0)), (2, .int v2), (3, .int v3), (4, .int w1)] [] 91 := by
  unfold xX12_quiz_L91 at h
  refine zr_iload (pc := 91) hC 3 rfl dX12_quiz_91 ?_
  refine zr_aload_n (pc := 93) hC 0 rfl rfl dX12_quiz_93 ?_
  refine zmg_23 (pc := 94) hC hinX12_quiz_X12 flX12_quiz_157 dX12_quiz_94 ?_
  refine zr_icmp_ge (pc := 97) (tgt := 140) hC dX12_quiz_97 (by decide) (fun c1 => ?_) (fun c1 => ?_)
  · replace h := zip h c1
    obtain rfl := Option.some.inj h
    exact zV.sub (lv' := [(0, .ref (ad 0))]) [0] rfl (hout1 w0 rfl)
  · replace h := zin h c1
    refine zr_aload_n (pc := 100) hC 0 rfl rfl dX12_quiz_100 ?_
    refine zr_iload (pc := 101) hC 3 rfl dX12_quiz_101 ?_
    obtain ⟨q2, hq2, h⟩ := zbd h
    refine zr_cVi (pc := 103) hC hEk [.int w1] [] 0 1 (fun l D => tX12_comes hEk hq2 l D) gX12_quiz_X12_comes rfl rfl rfl ⟨Nat.le_of_ble_eq_true rfl, Nat.le_of_ble_eq_true rfl⟩ hyX12_comes (by decide) entM_0 rfl rfl rfl (Nat.le_of_ble_eq_true rfl) ⟨Nat.le_of_ble_eq_true rfl, Nat.le_of_ble_eq_true rfl⟩ dX12_quiz_103 ?_
    refine zr_if_eq (pc := 106) (tgt := 112) hC dX12_quiz_106 (by decide) (fun c3 => ?_) (fun c3 => ?_)
    · replace h := zip h c3
      obtain rfl := Option.some.inj h
      exact zV.sub (lv' := [(0, .ref (ad 0)), (2, .int v2), (3, .int v3), (4, .int w1)]) [0, 1, 2, 3] rfl (hout0 q2.2 w1 rfl)
    · replace h := zin h c3
      refine zr_goto (pc := 109) (tgt := 134) hC dX12_quiz_109 (by decide) ?_
      refine zr_iinc (pc := 134) (k := 3) (lv' := [(4, .int (w1 + (1 : Int32))), (0, .ref (ad 0)), (2, .int v2), (3, .int v3)]) hC zki_1 (by decide) rfl rfl dX12_quiz_134 ?_
      refine zr_goto (pc := 137) (tgt := 91) hC dX12_quiz_137 (by decide) ?_
      obtain rfl := Option.some.inj h
      exact zV.sub (lv' := [(0, .ref (ad 0)), (2, .int v2), (3, .int v3), (4, .int (w1 + (1 : Int32)))]) [1, 2, 3, 0] rfl (hin q2.2 (w1 + (1 : Int32)) rfl)
def xX12_quiz (M : zM)  : Option (Int32 × zM) :=
  zlet (zsi M 0 22 (0 : Int32)) fun M1 =>
  zlet (zsi M1 0 23 (0 : Int32)) fun M3 =>
  (x_it (fun a9 => xX12_quiz_L12 a9.1 a9.2) zFU (M3, (1 : Int32))).bind fun q5 =>
  zlet (zsi q5.1 0 21 (0 : Int32)) fun M6 =>
  if q5.2 = 0 then
  (some (((-1000 : Int32) - (M6.1 0 22)), M6))
  else
  zlet (M6.1 0 12) fun z9 =>
  zlet (M6.1 0 13) fun z11 =>
  (x_it (fun a9 => xX12_quiz_L91 z9 z11 a9.1 a9.2) zFU (M6, (0 : Int32))).bind fun q13 =>
  Sum.elim (fun b14 => zlet (zsi b14.1 0 12 z9) fun M16 =>
  zlet (zsi M16 0 13 z11) fun M18 =>
  if (b14.2 < 0 ∨ 32 ≤ b14.2.toNatClampNeg) then none else
  some (((-2000 : Int32) - (M18.1 19 b14.2.toNatClampNeg)), M18)) (fun c15 => some ((c15.1 0 23), c15)) q13
set_option maxHeartbeats 4000000 in
set_option maxRecDepth 100000 in
theorem tX12_quiz {κ : Nat → ClassId} {E : zEn} {ad : Nat → Nat} (hEk : zEk E) {M : zM}  {res : (Int32 × zM)} (h : xX12_quiz M  = some res) (l : Launch) (D : va_G) : zCT E D vwCl (zty κ) l yX12_quiz wsX12_quiz ({ frames := 5, cells := 0, slots := 0, locals := 107 } : Room) 0 0 [.ref (ad 0)] (zwM κ ad M) (zPd (some (.int res.1)) (zwM κ ad res.2)) := by
  refine zCT.of (cc := cX12_quiz) (maxL := 5) (ret := (some .int)) (by decide) rfl (Nat.le_of_ble_eq_true rfl) ?_
  intro X hC hR
  unfold xX12_quiz at h
  refine zV.sub (lv' := [(0, .ref (ad 0))]) [0] rfl ?_
  refine zr_aload_n (pc := 0) hC 0 rfl rfl dX12_quiz_0 ?_
  refine zr_iconst (pc := 1) hC zki_0 dX12_quiz_1 ?_
  obtain ⟨M1, e2, h⟩ := zle h
  refine zmp_22 (pc := 2) hC hinX12_quiz_X12 flX12_quiz_133 e2 dX12_quiz_2 ?_
  refine zr_aload_n (pc := 5) hC 0 rfl rfl dX12_quiz_5 ?_
  refine zr_iconst (pc := 6) hC zki_0 dX12_quiz_6 ?_
  obtain ⟨M3, e4, h⟩ := zle h
  refine zmp_23 (pc := 7) hC hinX12_quiz_X12 flX12_quiz_157 e4 dX12_quiz_7 ?_
  refine zr_iconst (pc := 10) hC zki_1 dX12_quiz_10 ?_
  refine zr_istore_n (pc := 11) (lv' := [(1, .int (1 : Int32)), (0, .ref (ad 0))]) hC rfl (by decide) rfl dX12_quiz_11 ?_
  obtain ⟨q5, hq5, h⟩ := zbd h
  refine zV.sub (lv' := [(0, .ref (ad 0)), (1, .int (1 : Int32))]) [1, 0] rfl ?_
  refine zit2 (Wp := fun (y0 : zM) (y1 : Int32) => zV X 0 0 (zwM κ ad y0) [(0, .ref (ad 0)), (1, .int y1)] [] 12) (Ex := fun (b9 : (zM × Int32)) => zV X 0 0 (zwM κ ad b9.1) [(0, .ref (ad 0)), (1, .int b9.2)] [] 60) (fun y0 y1 r9 hr hin hout => tX12_quiz_L12 hC hEk hin (fun z0 z1 e9 => hout (z0, z1) e9) hr) zFU M3 (1 : Int32) q5 hq5 ?_
  show zV X 0 0 (zwM κ ad q5.1) [(0, .ref (ad 0)), (1, .int q5.2)] [] 60
  refine zr_aload_n (pc := 60) hC 0 rfl rfl dX12_quiz_60 ?_
  refine zr_iconst (pc := 61) hC zki_0 dX12_quiz_61 ?_
  obtain ⟨M6, e7, h⟩ := zle h
  refine zmp_21 (pc := 62) hC hinX12_quiz_X12 flX12_quiz_125 e7 dX12_quiz_62 ?_
  refine zr_iload_n (pc := 65) hC 1 rfl rfl dX12_quiz_65 ?_
  refine zr_if_ne (pc := 66) (tgt := 78) hC dX12_quiz_66 (by decide) (fun c8 => ?_) (fun c8 => ?_)
  · replace h := zin h c8
    refine zr_aload_n (pc := 78) hC 0 rfl rfl dX12_quiz_78 ?_
    refine zmg_12 (pc := 79) hC hinX12_quiz_X12 flX12_quiz_46 dX12_quiz_79 ?_
    obtain ⟨z9, e10, h⟩ := zle h
    refine zr_topi e10 ?_
    refine zr_istore_n (pc := 82) (lv' := [(2, .int z9), (0, .ref (ad 0)), (1, .int q5.2)]) hC rfl (by decide) rfl dX12_quiz_82 ?_
    refine zr_aload_n (pc := 83) hC 1 rfl rfl dX12_quiz_83 ?_
    refine zmg_13 (pc := 84) hC hinX12_quiz_X12 flX12_quiz_114 dX12_quiz_84 ?_
    obtain ⟨z11, e12, h⟩ := zle h
    refine zr_topi e12 ?_
    refine zr_istore_n (pc := 87) (lv' := [(3, .int z11), (2, .int z9), (0, .ref (ad 0)), (1, .int q5.2)]) hC rfl (by decide) rfl dX12_quiz_87 ?_
    refine zr_iconst (pc := 88) hC zki_0 dX12_quiz_88 ?_
    refine zr_istore (pc := 89) (lv' := [(4, .int (0 : Int32)), (3, .int z11), (2, .int z9), (0, .ref (ad 0)), (1, .int q5.2)]) hC (by decide) rfl dX12_quiz_89 ?_
    obtain ⟨q13, hq13, h⟩ := zbd h
    refine zV.sub (lv' := [(0, .ref (ad 0)), (2, .int z9), (3, .int z11), (4, .int (0 : Int32))]) [3, 2, 1, 0] rfl ?_
    refine zit2 (Wp := fun (y0 : zM) (y1 : Int32) => zV X 0 0 (zwM κ ad y0) [(0, .ref (ad 0)), (2, .int z9), (3, .int z11), (4, .int y1)] [] 91) (Ex := fun (b9 : ((zM × Int32) ⊕ zM)) => Sum.elim (fun (b0 : (zM × Int32)) => zV X 0 0 (zwM κ ad b0.1) [(0, .ref (ad 0)), (2, .int z9), (3, .int z11), (4, .int b0.2)] [] 112) (fun (c0 : zM) => zV X 0 0 (zwM κ ad c0) [(0, .ref (ad 0))] [] 140) b9) (fun y0 y1 r9 hr hin hout => tX12_quiz_L91 hC hEk hin (fun z0 z1 e9 => hout (.inl (z0, z1)) e9) (fun z0 e9 => hout (.inr z0) e9) hr) zFU M6 (0 : Int32) q13 hq13 ?_
    rcases q13 with b14 | c15
    · replace h := zel h
      show zV X 0 0 (zwM κ ad b14.1) [(0, .ref (ad 0)), (2, .int z9), (3, .int z11), (4, .int b14.2)] [] 112
      refine zr_aload_n (pc := 112) hC 0 rfl rfl dX12_quiz_112 ?_
      refine zr_iload_n (pc := 113) hC 1 rfl rfl dX12_quiz_113 ?_
      obtain ⟨M16, e17, h⟩ := zle h
      refine zmp_12 (pc := 114) hC hinX12_quiz_X12 flX12_quiz_46 e17 dX12_quiz_114 ?_
      refine zr_aload_n (pc := 117) hC 0 rfl rfl dX12_quiz_117 ?_
      refine zr_iload_n (pc := 118) hC 2 rfl rfl dX12_quiz_118 ?_
      obtain ⟨M18, e19, h⟩ := zle h
      refine zmp_13 (pc := 119) hC hinX12_quiz_X12 flX12_quiz_114 e19 dX12_quiz_119 ?_
      refine zr_sipush (pc := 122) hC zks_m2000 dX12_quiz_122 ?_
      refine zr_aload_n (pc := 125) hC 0 rfl rfl dX12_quiz_125 ?_
      refine zmg_20 (pc := 126) hC hinX12_quiz_X12 flX12_quiz_68 dX12_quiz_126 ?_
      refine zr_iload (pc := 129) hC 3 rfl dX12_quiz_129 ?_
      obtain ⟨i20, h⟩ := zgd h
      refine zml_19 (pc := 131) hC i20 dX12_quiz_131 ?_
      refine zr_isub (pc := 132) hC dX12_quiz_132 ?_
      obtain rfl := Option.some.inj h
      exact zr_iret hC hR ⟨rfl, rfl⟩ (Nat.le_refl _) (Nat.le_refl _) dX12_quiz_133
    · replace h := zer h
      show zV X 0 0 (zwM κ ad c15) [(0, .ref (ad 0))] [] 140
      refine zr_aload_n (pc := 140) hC 0 rfl rfl dX12_quiz_140 ?_
      refine zmg_23 (pc := 141) hC hinX12_quiz_X12 flX12_quiz_157 dX12_quiz_141 ?_
      obtain rfl := Option.some.inj h
      exact zr_iret hC hR ⟨rfl, rfl⟩ (Nat.le_refl _) (Nat.le_refl _) dX12_quiz_144
  · replace h := zip h c8
    refine zr_sipush (pc := 69) hC zks_m1000 dX12_quiz_69 ?_
    refine zr_aload_n (pc := 72) hC 0 rfl rfl dX12_quiz_72 ?_
    refine zmg_22 (pc := 73) hC hinX12_quiz_X12 flX12_quiz_133 dX12_quiz_73 ?_
    refine zr_isub (pc := 76) hC dX12_quiz_76 ?_
    obtain rfl := Option.some.inj h
    exact zr_iret hC hR ⟨rfl, rfl⟩ (Nat.le_refl _) (Nat.le_refl _) dX12_quiz_77
/-! X12_word -/
theorem hyX12_word : yX12_word.cls = RX12 ∧ yX12_word.cls ≠ "java/lang/invoke/MethodHandle" ∧ yX12_word.cls ≠ "java/lang/invoke/VarHandle" ∧ (parseMethodDescriptor yX12_word.desc).map (fun d => d.parameters.length) = some 2 := by decide +kernel
theorem flX12_word_13 : Cond.fieldLink RX12 13 "BeforeTheEndModel" "parent" "[I" ∈ wsX12_word := by decide +kernel
theorem flX12_word_16 : Cond.fieldLink RX12 16 "BeforeTheEndModel" "weight" "[I" ∈ wsX12_word := by decide +kernel
theorem flX12_word_19 : Cond.fieldLink RX12 19 "BeforeTheEndModel" "answer" "[I" ∈ wsX12_word := by decide +kernel
theorem flX12_word_22 : Cond.fieldLink RX12 22 "BeforeTheEndModel" "length" "[I" ∈ wsX12_word := by decide +kernel
theorem hinX12_word_X12 : ∀ w ∈ wsX120, w ∈ wsX12_word := fun _ h => List.mem_cons_of_mem _ (List.mem_append_right _ h)
def xX12_word (M : zM) (v1 : Int32) (v2 : Int32) : Option (Int32 × zM) :=
  (xX12_isWord M v1).bind fun q1 =>
  if q1 = 0 then
  ((xX12_no M (-1 : Int32)).bind fun q14 =>
  some (q14.1, q14.2))
  else
  if v2 = (0 : Int32) then
  (if (v1 < 0 ∨ 24 ≤ v1.toNatClampNeg) then none else
  some ((M.1 2 v1.toNatClampNeg), M))
  else
  if v2 = (1 : Int32) then
  (if (v1 < 0 ∨ 24 ≤ v1.toNatClampNeg) then none else
  some ((M.1 3 v1.toNatClampNeg), M))
  else
  if v2 = (2 : Int32) then
  (if (v1 < 0 ∨ 24 ≤ v1.toNatClampNeg) then none else
  some ((M.1 4 v1.toNatClampNeg), M))
  else
  if v2 = (3 : Int32) then
  (if (v1 < 0 ∨ 24 ≤ v1.toNatClampNeg) then none else
  some ((M.1 5 v1.toNatClampNeg), M))
  else
  if v2 = (4 : Int32) then
  ((xX12_nexts M v1).bind fun q12 =>
  some (q12, M))
  else
  (xX12_no M (-2 : Int32)).bind fun q13 =>
  some (q13.1, q13.2)
set_option maxHeartbeats 4000000 in
set_option maxRecDepth 100000 in
theorem tX12_word {κ : Nat → ClassId} {E : zEn} {ad : Nat → Nat} (hEk : zEk E) {M : zM} {v1 : Int32} {v2 : Int32} {res : (Int32 × zM)} (h : xX12_word M v1 v2 = some res) (l : Launch) (D : va_G) : zCT E D vwCl (zty κ) l yX12_word wsX12_word ({ frames := 1, cells := 0, slots := 0, locals := 23 } : Room) 0 0 [.ref (ad 0), .int v1, .int v2] (zwM κ ad M) (zPd (some (.int res.1)) (zwM κ ad res.2)) := by
  refine zCT.of (cc := cX12_word) (maxL := 3) (ret := (some .int)) (by decide) rfl (Nat.le_of_ble_eq_true rfl) ?_
  intro X hC hR
  unfold xX12_word at h
  refine zV.sub (lv' := [(0, .ref (ad 0)), (1, .int v1), (2, .int v2)]) [0, 1, 2] rfl ?_
  refine zr_aload_n (pc := 0) hC 0 rfl rfl dX12_word_0 ?_
  refine zr_iload_n (pc := 1) hC 1 rfl rfl dX12_word_1 ?_
  obtain ⟨q1, hq1, h⟩ := zbd h
  refine zr_cVi (pc := 2) hC hEk [.int v1] [] 0 1 (fun l D => tX12_isWord hEk hq1 l D) gX12_word_X12_isWord rfl rfl rfl ⟨Nat.le_of_ble_eq_true rfl, Nat.le_of_ble_eq_true rfl⟩ hyX12_isWord (by decide) entM_0 rfl rfl rfl (Nat.le_of_ble_eq_true rfl) ⟨Nat.le_of_ble_eq_true rfl, Nat.le_of_ble_eq_true rfl⟩ dX12_word_2 ?_
  refine zr_if_ne (pc := 5) (tgt := 14) hC dX12_word_5 (by decide) (fun c2 => ?_) (fun c2 => ?_)
  · replace h := zin h c2
    refine zr_iload_n (pc := 14) hC 2 rfl rfl dX12_word_14 ?_
    by_cases c3 : v2 = (0 : Int32)
    · replace h := zip h c3
      refine zr_tabIn (pc := 15) (off := 33) (tgt := 48) hC dX12_word_15 (by rw [c3]; decide) (by rw [c3]; decide) (by rw [c3]; decide) (by decide) ?_
      refine zr_aload_n (pc := 48) hC 0 rfl rfl dX12_word_48 ?_
      refine zmg_1 (pc := 49) hC hinX12_word_X12 flX12_word_13 dX12_word_49 ?_
      refine zr_iload_n (pc := 52) hC 1 rfl rfl dX12_word_52 ?_
      obtain ⟨i4, h⟩ := zgd h
      refine zml_2 (pc := 53) hC i4 dX12_word_53 ?_
      obtain rfl := Option.some.inj h
      exact zr_iret hC hR ⟨rfl, rfl⟩ (Nat.le_refl _) (Nat.le_refl _) dX12_word_54
    · replace h := zin h c3
      by_cases c5 : v2 = (1 : Int32)
      · replace h := zip h c5
        refine zr_tabIn (pc := 15) (off := 40) (tgt := 55) hC dX12_word_15 (by rw [c5]; decide) (by rw [c5]; decide) (by rw [c5]; decide) (by decide) ?_
        refine zr_aload_n (pc := 55) hC 0 rfl rfl dX12_word_55 ?_
        refine zmg_2 (pc := 56) hC hinX12_word_X12 flX12_word_16 dX12_word_56 ?_
        refine zr_iload_n (pc := 59) hC 1 rfl rfl dX12_word_59 ?_
        obtain ⟨i6, h⟩ := zgd h
        refine zml_3 (pc := 60) hC i6 dX12_word_60 ?_
        obtain rfl := Option.some.inj h
        exact zr_iret hC hR ⟨rfl, rfl⟩ (Nat.le_refl _) (Nat.le_refl _) dX12_word_61
      · replace h := zin h c5
        by_cases c7 : v2 = (2 : Int32)
        · replace h := zip h c7
          refine zr_tabIn (pc := 15) (off := 47) (tgt := 62) hC dX12_word_15 (by rw [c7]; decide) (by rw [c7]; decide) (by rw [c7]; decide) (by decide) ?_
          refine zr_aload_n (pc := 62) hC 0 rfl rfl dX12_word_62 ?_
          refine zmg_3 (pc := 63) hC hinX12_word_X12 flX12_word_19 dX12_word_63 ?_
          refine zr_iload_n (pc := 66) hC 1 rfl rfl dX12_word_66 ?_
          obtain ⟨i8, h⟩ := zgd h
          refine zml_4 (pc := 67) hC i8 dX12_word_67 ?_
          obtain rfl := Option.some.inj h
          exact zr_iret hC hR ⟨rfl, rfl⟩ (Nat.le_refl _) (Nat.le_refl _) dX12_word_68
        · replace h := zin h c7
          by_cases c9 : v2 = (3 : Int32)
          · replace h := zip h c9
            refine zr_tabIn (pc := 15) (off := 54) (tgt := 69) hC dX12_word_15 (by rw [c9]; decide) (by rw [c9]; decide) (by rw [c9]; decide) (by decide) ?_
            refine zr_aload_n (pc := 69) hC 0 rfl rfl dX12_word_69 ?_
            refine zmg_4 (pc := 70) hC hinX12_word_X12 flX12_word_22 dX12_word_70 ?_
            refine zr_iload_n (pc := 73) hC 1 rfl rfl dX12_word_73 ?_
            obtain ⟨i10, h⟩ := zgd h
            refine zml_5 (pc := 74) hC i10 dX12_word_74 ?_
            obtain rfl := Option.some.inj h
            exact zr_iret hC hR ⟨rfl, rfl⟩ (Nat.le_refl _) (Nat.le_refl _) dX12_word_75
          · replace h := zin h c9
            by_cases c11 : v2 = (4 : Int32)
            · replace h := zip h c11
              refine zr_tabIn (pc := 15) (off := 61) (tgt := 76) hC dX12_word_15 (by rw [c11]; decide) (by rw [c11]; decide) (by rw [c11]; decide) (by decide) ?_
              refine zr_aload_n (pc := 76) hC 0 rfl rfl dX12_word_76 ?_
              refine zr_iload_n (pc := 77) hC 1 rfl rfl dX12_word_77 ?_
              obtain ⟨q12, hq12, h⟩ := zbd h
              refine zr_cVi (pc := 78) hC hEk [.int v1] [] 0 1 (fun l D => tX12_nexts hEk hq12 l D) gX12_word_X12_nexts rfl rfl rfl ⟨Nat.le_of_ble_eq_true rfl, Nat.le_of_ble_eq_true rfl⟩ hyX12_nexts (by decide) entM_0 rfl rfl rfl (Nat.le_of_ble_eq_true rfl) ⟨Nat.le_of_ble_eq_true rfl, Nat.le_of_ble_eq_true rfl⟩ dX12_word_78 ?_
              obtain rfl := Option.some.inj h
              exact zr_iret hC hR ⟨rfl, rfl⟩ (Nat.le_refl _) (Nat.le_refl _) dX12_word_81
            · replace h := zin h c11
              refine zr_tabOut (pc := 15) (tgt := 82) hC dX12_word_15 (zsw_out_0_5 c3 c5 c7 c9 c11) (by decide) ?_
              refine zr_aload_n (pc := 82) hC 0 rfl rfl dX12_word_82 ?_
              refine zr_bipush (pc := 83) hC zkb_m2 dX12_word_83 ?_
              obtain ⟨q13, hq13, h⟩ := zbd h
              refine zr_cVi (pc := 85) hC hEk [.int (-2 : Int32)] [] 0 1 (fun l D => tX12_no hEk hq13 l D) gX12_word_X12_no rfl rfl rfl ⟨Nat.le_of_ble_eq_true rfl, Nat.le_of_ble_eq_true rfl⟩ hyX12_no (by decide) entM_0 rfl rfl rfl (Nat.le_of_ble_eq_true rfl) ⟨Nat.le_of_ble_eq_true rfl, Nat.le_of_ble_eq_true rfl⟩ dX12_word_85 ?_
              obtain rfl := Option.some.inj h
              exact zr_iret hC hR ⟨rfl, rfl⟩ (Nat.le_refl _) (Nat.le_refl _) dX12_word_88
  · replace h := zip h c2
    refine zr_aload_n (pc := 8) hC 0 rfl rfl dX12_word_8 ?_
    refine zr_iconst (pc := 9) hC zki_m1 dX12_word_9 ?_
    obtain ⟨q14, hq14, h⟩ := zbd h
    refine zr_cVi (pc := 10) hC hEk [.int (-1 : Int32)] [] 0 1 (fun l D => tX12_no hEk hq14 l D) gX12_word_X12_no rfl rfl rfl ⟨Nat.le_of_ble_eq_true rfl, Nat.le_of_ble_eq_true rfl⟩ hyX12_no (by decide) entM_0 rfl rfl rfl (Nat.le_of_ble_eq_true rfl) ⟨Nat.le_of_ble_eq_true rfl, Nat.le_of_ble_eq_true rfl⟩ dX12_word_10 ?_
    obtain rfl := Option.some.inj h
    exact zr_iret hC hR ⟨rfl, rfl⟩ (Nat.le_refl _) (Nat.le_refl _) dX12_word_13
