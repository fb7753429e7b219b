/-! X10_lookBehind -/
theorem hyX10_lookBehind : yX10_lookBehind.cls = RX10 ∧ yX10_lookBehind.cls ≠ "java/lang/invoke/MethodHandle" ∧ yX10_lookBehind.cls ≠ "java/lang/invoke/VarHandle" ∧ (parseMethodDescriptor yX10_lookBehind.desc).map (fun d => d.parameters.length) = some 1 := by decide +kernel
theorem flX10_lookBehind_15 : Cond.fieldLink RX10 15 "BeforeTheEnd$Tree" "weight" "[I" ∈ wsX10_lookBehind := by decide +kernel
theorem flX10_lookBehind_18 : Cond.fieldLink RX10 18 "BeforeTheEnd$Tree" "answer" "[I" ∈ wsX10_lookBehind := by decide +kernel
theorem flX10_lookBehind_24 : Cond.fieldLink RX10 24 "BeforeTheEnd$Tree" "nexts" "[I" ∈ wsX10_lookBehind := by decide +kernel
theorem flX10_lookBehind_27 : Cond.fieldLink RX10 27 "BeforeTheEnd$Tree" "nextSum" "[I" ∈ wsX10_lookBehind := by decide +kernel
theorem flX10_lookBehind_30 : Cond.fieldLink RX10 30 "BeforeTheEnd$Tree" "behind" "[I" ∈ wsX10_lookBehind := by decide +kernel
theorem flX10_lookBehind_36 : Cond.fieldLink RX10 36 "BeforeTheEnd$Tree" "below" "[J" ∈ wsX10_lookBehind := by decide +kernel
theorem flX10_lookBehind_40 : Cond.fieldLink RX10 40 "BeforeTheEnd$Tree" "step" "[J" ∈ wsX10_lookBehind := by decide +kernel
theorem flX10_lookBehind_48 : Cond.fieldLink RX10 48 "BeforeTheEnd$Tree" "share" "[[J" ∈ wsX10_lookBehind := by decide +kernel
theorem flX10_lookBehind_51 : Cond.fieldLink RX10 51 "BeforeTheEnd$Tree" "far" "[[J" ∈ wsX10_lookBehind := by decide +kernel
theorem flX10_lookBehind_54 : Cond.fieldLink RX10 54 "BeforeTheEnd$Tree" "count" "I" ∈ wsX10_lookBehind := by decide +kernel
theorem flX10_lookBehind_58 : Cond.fieldLink RX10 58 "BeforeTheEnd$Tree" "ends" "I" ∈ wsX10_lookBehind := by decide +kernel
theorem flX10_lookBehind_61 : Cond.fieldLink RX10 61 "BeforeTheEnd$Tree" "allClosed" "Z" ∈ wsX10_lookBehind := by decide +kernel
theorem flX10_lookBehind_9 : Cond.fieldLink RX10 9 "BeforeTheEnd$Tree" "parent" "[I" ∈ wsX10_lookBehind := by decide +kernel
theorem iniX10_lookBehind_X11 : Cond.initialized yX11_commonDivisor.cls ∈ wsX10_lookBehind := by decide +kernel
theorem staX10_lookBehind_X11_commonDivisor : Cond.static yX11_commonDivisor ∈ wsX10_lookBehind := by decide +kernel
theorem staX10_lookBehind_X11_parted : Cond.static yX11_parted ∈ wsX10_lookBehind := by decide +kernel
theorem hinX10_lookBehind_X10 : ∀ w ∈ wsX100, w ∈ wsX10_lookBehind := fun _ h => List.mem_cons_of_mem _ (List.mem_append_right _ h)
def xX10_lookBehind_L60_b54 (v1 : Int32) (w0 : zM) (w1 : Int64) (w2 : Int64) (w3 : Int32) : Option ((zM × Int64 × Int64 × Int32) ⊕ (zM × Int64 × Int64)) :=
  if (24 : Int32) ≤ w3 then
  (some (.inr (w0, w1, w2)))
  else
  if (w0.1 0 13) ≤ w3 then
  (some (.inr (w0, w1, w2)))
  else
  if (w3 < 0 ∨ 24 ≤ w3.toNatClampNeg) then none else
  if (w0.1 1 w3.toNatClampNeg) = v1 then
  (if (v1 < 0 ∨ 24 ≤ v1.toNatClampNeg) then none else
  zlet (zsi w0 5 v1.toNatClampNeg ((w0.1 5 v1.toNatClampNeg) + (1 : Int32))) fun M6 =>
  zlet (zsi M6 6 v1.toNatClampNeg ((M6.1 6 v1.toNatClampNeg) + (M6.1 2 w3.toNatClampNeg))) fun M8 =>
  zlet (zsi M8 7 v1.toNatClampNeg ((M8.1 7 v1.toNatClampNeg) ||| (M8.1 7 w3.toNatClampNeg))) fun M10 =>
  (xX11_commonDivisor w1 (M10.1 2 w3.toNatClampNeg).toInt64).bind fun q12 =>
  (xX11_commonDivisor w2 (M10.2 9 w3.toNatClampNeg)).bind fun q13 =>
  (xX11_parted w2 q13).bind fun q14 =>
  zlet (q14 * (M10.2 9 w3.toNatClampNeg)) fun z15 =>
  some (.inl (M10, q12, z15, (w3 + (1 : Int32)))))
  else
  some (.inl (w0, w1, w2, (w3 + (1 : Int32))))
set_option maxHeartbeats 4000000 in
set_option maxRecDepth 100000 in
theorem tX10_lookBehind_L60_b54 {κ : Nat → ClassId} {tg : Nat} {S : zEn} {ad : Nat → Nat} {X : zX} {pR : zM} {pX : zM} {pF : zM} {pB : zM} {pP : zP} {v1 : Int32} {w0 : zM} {w1 : Int64} {w2 : Int64} {w3 : Int32} {r : ((zM × Int64 × Int64 × Int32) ⊕ (zM × Int64 × Int64))} (hC : zC X cX10_lookBehind RX10 wsX10_lookBehind vwCl (zty κ) (zE tg S) 7 ({ frames := 2, cells := 0, slots := 0, locals := 51 } : Room)) (hEk : zEk (zE tg S)) (hin : ∀ (x0' : zM) (x1' : Int64) (x2' : Int64) (x3' : Int32), r = .inl (x0', x1', x2', x3') → zV X 0 0 (zwC κ ad x0' pR pX pF pB pP) [(0, .ref (ad 0)), (1, .int v1), (2, .long x1'), (4, .long x2'), (6, .int x3')] [] 60) (hout0 : ∀ (x0' : zM) (x1' : Int64) (x2' : Int64), r = .inr (x0', x1', x2') → zV X 0 0 (zwC κ ad x0' pR pX pF pB pP) [(0, .ref (ad 0)), (1, .int v1), (2, .long x1'), (4, .long x2')] [] 178) (h : xX10_lookBehind_L60_b54  v1 w0 w1 w2 w3 = some r) : zV X 0 0 (zwC κ ad w0 pR pX pF pB pP) [(0, .ref (ad 0)), (1, .int v1), (2, .long w1), (4, .long w2), (6, .int w3)] [] 60 := by
  unfold xX10_lookBehind_L60_b54 at h
  refine zr_iload (pc := 60) hC 4 rfl dX10_lookBehind_60 ?_
  refine zr_bipush (pc := 62) hC zkb_24 dX10_lookBehind_62 ?_
  refine zr_icmp_ge (pc := 64) (tgt := 178) hC dX10_lookBehind_64 (by decide) (fun c1 => ?_) (fun c1 => ?_)
  · replace h := zip h c1
    obtain rfl := Option.some.inj h
    exact zV.sub (lv' := [(0, .ref (ad 0)), (1, .int v1), (2, .long w1), (4, .long w2)]) [0, 1, 2, 3] rfl (hout0 w0 w1 w2 rfl)
  · replace h := zin h c1
    refine zr_iload (pc := 67) hC 4 rfl dX10_lookBehind_67 ?_
    refine zr_aload_n (pc := 69) hC 0 rfl rfl dX10_lookBehind_69 ?_
    refine zcg_0_13 (pc := 70) hC hinX10_lookBehind_X10 flX10_lookBehind_54 dX10_lookBehind_70 ?_
    refine zr_icmp_ge (pc := 73) (tgt := 178) hC dX10_lookBehind_73 (by decide) (fun c2 => ?_) (fun c2 => ?_)
    · replace h := zip h c2
      obtain rfl := Option.some.inj h
      exact zV.sub (lv' := [(0, .ref (ad 0)), (1, .int v1), (2, .long w1), (4, .long w2)]) [0, 1, 2, 3] rfl (hout0 w0 w1 w2 rfl)
    · replace h := zin h c2
      refine zr_aload_n (pc := 76) hC 0 rfl rfl dX10_lookBehind_76 ?_
      refine zcg_0_0 (pc := 77) hC hinX10_lookBehind_X10 flX10_lookBehind_9 dX10_lookBehind_77 ?_
      refine zr_iload (pc := 80) hC 4 rfl dX10_lookBehind_80 ?_
      obtain ⟨i3, h⟩ := zgd h
      refine zcl_1 (pc := 82) hC i3 dX10_lookBehind_82 ?_
      refine zr_iload_n (pc := 83) hC 1 rfl rfl dX10_lookBehind_83 ?_
      refine zr_icmp_eq (pc := 84) (tgt := 90) hC dX10_lookBehind_84 (by decide) (fun c4 => ?_) (fun c4 => ?_)
      · replace h := zip h c4
        refine zr_aload_n (pc := 90) hC 0 rfl rfl dX10_lookBehind_90 ?_
        refine zcg_0_4 (pc := 91) hC hinX10_lookBehind_X10 flX10_lookBehind_24 dX10_lookBehind_91 ?_
        refine zr_iload_n (pc := 94) hC 1 rfl rfl dX10_lookBehind_94 ?_
        refine zr_dup2 (pc := 95) hC rfl rfl dX10_lookBehind_95 ?_
        obtain ⟨i5, h⟩ := zgd h
        refine zcl_5 (pc := 96) hC i5 dX10_lookBehind_96 ?_
        refine zr_iconst (pc := 97) hC zki_1 dX10_lookBehind_97 ?_
        refine zr_iadd (pc := 98) hC dX10_lookBehind_98 ?_
        obtain ⟨M6, e7, h⟩ := zle h
        refine zcs_5 (pc := 99) hC i5 e7 dX10_lookBehind_99 ?_
        refine zr_aload_n (pc := 100) hC 0 rfl rfl dX10_lookBehind_100 ?_
        refine zcg_0_5 (pc := 101) hC hinX10_lookBehind_X10 flX10_lookBehind_27 dX10_lookBehind_101 ?_
        refine zr_iload_n (pc := 104) hC 1 rfl rfl dX10_lookBehind_104 ?_
        refine zr_dup2 (pc := 105) hC rfl rfl dX10_lookBehind_105 ?_
        refine zcl_6 (pc := 106) hC i5 dX10_lookBehind_106 ?_
        refine zr_aload_n (pc := 107) hC 0 rfl rfl dX10_lookBehind_107 ?_
        refine zcg_0_1 (pc := 108) hC hinX10_lookBehind_X10 flX10_lookBehind_15 dX10_lookBehind_108 ?_
        refine zr_iload (pc := 111) hC 4 rfl dX10_lookBehind_111 ?_
        refine zcl_2 (pc := 113) hC i3 dX10_lookBehind_113 ?_
        refine zr_iadd (pc := 114) hC dX10_lookBehind_114 ?_
        obtain ⟨M8, e9, h⟩ := zle h
        refine zcs_6 (pc := 115) hC i5 e9 dX10_lookBehind_115 ?_
        refine zr_aload_n (pc := 116) hC 0 rfl rfl dX10_lookBehind_116 ?_
        refine zcg_0_6 (pc := 117) hC hinX10_lookBehind_X10 flX10_lookBehind_30 dX10_lookBehind_117 ?_
        refine zr_iload_n (pc := 120) hC 1 rfl rfl dX10_lookBehind_120 ?_
        refine zr_dup2 (pc := 121) hC rfl rfl dX10_lookBehind_121 ?_
        refine zcl_7 (pc := 122) hC i5 dX10_lookBehind_122 ?_
        refine zr_aload_n (pc := 123) hC 0 rfl rfl dX10_lookBehind_123 ?_
        refine zcg_0_6 (pc := 124) hC hinX10_lookBehind_X10 flX10_lookBehind_30 dX10_lookBehind_124 ?_
        refine zr_iload (pc := 127) hC 4 rfl dX10_lookBehind_127 ?_
        refine zcl_7 (pc := 129) hC i3 dX10_lookBehind_129 ?_
        refine zr_ior (pc := 130) hC dX10_lookBehind_130 ?_
        obtain ⟨M10, e11, h⟩ := zle h
        refine zcs_7 (pc := 131) hC i5 e11 dX10_lookBehind_131 ?_
        refine zr_lload_n (pc := 132) hC 2 rfl rfl dX10_lookBehind_132 ?_
        refine zr_aload_n (pc := 133) hC 0 rfl rfl dX10_lookBehind_133 ?_
        refine zcg_0_1 (pc := 134) hC hinX10_lookBehind_X10 flX10_lookBehind_15 dX10_lookBehind_134 ?_
        refine zr_iload (pc := 137) hC 4 rfl dX10_lookBehind_137 ?_
        refine zcl_2 (pc := 139) hC i3 dX10_lookBehind_139 ?_
        refine zr_i2l (pc := 140) hC dX10_lookBehind_140 ?_
        obtain ⟨q12, hq12, h⟩ := zbd h
        refine zr_cNl (pc := 141) (host := "BeforeTheEnd") hC hEk [.long w1, .long (M10.1 2 w3.toNatClampNeg).toInt64] [] 2 (fun l D => tX11_commonDivisor hEk hq12 l D) gX10_lookBehind_X11_commonDivisor_n79 (zE_n79) (iniX10_lookBehind_X11) (staX10_lookBehind_X11_commonDivisor) rfl rfl rfl ⟨Nat.le_of_ble_eq_true rfl, Nat.le_of_ble_eq_true rfl⟩ hyX11_commonDivisor rfl rfl (Nat.le_of_ble_eq_true rfl) ⟨Nat.le_of_ble_eq_true rfl, Nat.le_of_ble_eq_true rfl⟩ dX10_lookBehind_141 ?_
        refine zr_lstore_n (pc := 144) (lv' := [(2, .long q12), (0, .ref (ad 0)), (1, .int v1), (4, .long w2), (6, .int w3)]) hC rfl (by decide) rfl dX10_lookBehind_144 ?_
        refine zr_lload (pc := 145) hC 3 rfl dX10_lookBehind_145 ?_
        refine zr_lload (pc := 147) hC 3 rfl dX10_lookBehind_147 ?_
        refine zr_aload_n (pc := 149) hC 1 rfl rfl dX10_lookBehind_149 ?_
        refine zcg_0_8 (pc := 150) hC hinX10_lookBehind_X10 flX10_lookBehind_36 dX10_lookBehind_150 ?_
        refine zr_iload (pc := 153) hC 4 rfl dX10_lookBehind_153 ?_
        refine zcl_9 (pc := 155) hC i3 dX10_lookBehind_155 ?_
        obtain ⟨q13, hq13, h⟩ := zbd h
        refine zr_cNl (pc := 156) (host := "BeforeTheEnd") hC hEk [.long w2, .long (M10.2 9 w3.toNatClampNeg)] [.long w2] 2 (fun l D => tX11_commonDivisor hEk hq13 l D) gX10_lookBehind_X11_commonDivisor_n79 (zE_n79) (iniX10_lookBehind_X11) (staX10_lookBehind_X11_commonDivisor) rfl rfl rfl ⟨Nat.le_of_ble_eq_true rfl, Nat.le_of_ble_eq_true rfl⟩ hyX11_commonDivisor rfl rfl (Nat.le_of_ble_eq_true rfl) ⟨Nat.le_of_ble_eq_true rfl, Nat.le_of_ble_eq_true rfl⟩ dX10_lookBehind_156 ?_
        obtain ⟨q14, hq14, h⟩ := zbd h
        refine zr_cNl (pc := 159) (host := "BeforeTheEnd") hC hEk [.long w2, .long q13] [] 2 (fun l D => tX11_parted hEk hq14 l D) gX10_lookBehind_X11_parted_n83 (zE_n83) (iniX10_lookBehind_X11) (staX10_lookBehind_X11_parted) rfl rfl rfl ⟨Nat.le_of_ble_eq_true rfl, Nat.le_of_ble_eq_true rfl⟩ hyX11_parted rfl rfl (Nat.le_of_ble_eq_true rfl) ⟨Nat.le_of_ble_eq_true rfl, Nat.le_of_ble_eq_true rfl⟩ dX10_lookBehind_159 ?_
        refine zr_aload_n (pc := 162) hC 1 rfl rfl dX10_lookBehind_162 ?_
        refine zcg_0_8 (pc := 163) hC hinX10_lookBehind_X10 flX10_lookBehind_36 dX10_lookBehind_163 ?_
        refine zr_iload (pc := 166) hC 4 rfl dX10_lookBehind_166 ?_
        refine zcl_9 (pc := 168) hC i3 dX10_lookBehind_168 ?_
        refine zr_lmul (pc := 169) hC dX10_lookBehind_169 ?_
        obtain ⟨z15, e16, h⟩ := zle h
        refine zr_topl e16 ?_
        refine zr_lstore (pc := 170) (lv' := [(4, .long z15), (2, .long q12), (0, .ref (ad 0)), (1, .int v1), (6, .int w3)]) hC (by decide) rfl dX10_lookBehind_170 ?_
        refine zr_iinc (pc := 172) (k := 4) (lv' := [(6, .int (w3 + (1 : Int32))), (4, .long z15), (2, .long q12), (0, .ref (ad 0)), (1, .int v1)]) hC zki_1 (by decide) rfl rfl dX10_lookBehind_172 ?_
        refine zr_goto (pc := 175) (tgt := 60) hC dX10_lookBehind_175 (by decide) ?_
        obtain rfl := Option.some.inj h
        exact zV.sub (lv' := [(0, .ref (ad 0)), (1, .int v1), (2, .long q12), (4, .long z15), (6, .int (w3 + (1 : Int32)))]) [3, 4, 2, 1, 0] rfl (hin M10 q12 z15 (w3 + (1 : Int32)) rfl)
      · replace h := zin h c4
        refine zr_goto (pc := 87) (tgt := 172) hC dX10_lookBehind_87 (by decide) ?_
        refine zr_iinc (pc := 172) (k := 4) (lv' := [(6, .int (w3 + (1 : Int32))), (0, .ref (ad 0)), (1, .int v1), (2, .long w1), (4, .long w2)]) hC zki_1 (by decide) rfl rfl dX10_lookBehind_172 ?_
        refine zr_goto (pc := 175) (tgt := 60) hC dX10_lookBehind_175 (by decide) ?_
        obtain rfl := Option.some.inj h
        exact zV.sub (lv' := [(0, .ref (ad 0)), (1, .int v1), (2, .long w1), (4, .long w2), (6, .int (w3 + (1 : Int32)))]) [1, 2, 3, 4, 0] rfl (hin w0 w1 w2 (w3 + (1 : Int32)) rfl)
def xX10_lookBehind_L214_b210 (v1 : Int32) (v2 : Int64) (v4 : Int64) (w0 : zM) (w1 : Int32) : Option ((zM × Int32) ⊕ zM) :=
  if (10 : Int32) ≤ w1 then
  (some (.inr w0))
  else
  if (v1 < 0 ∨ 24 ≤ v1.toNatClampNeg) then none else
  if w1 ≤ 0 then
  (if (w1 < 0 ∨ 10 ≤ w1.toNatClampNeg) then none else
  zlet (zsj w0 (14 + v1.toNatClampNeg) w1.toNatClampNeg (0 : Int64)) fun M5 =>
  zlet (zsj M5 (38 + v1.toNatClampNeg) w1.toNatClampNeg (0 : Int64)) fun M7 =>
  some (.inl (M7, (w1 + (1 : Int32)))))
  else
  if w1 = (w0.1 3 v1.toNatClampNeg) then
  (if (w1 < 0 ∨ 10 ≤ w1.toNatClampNeg) then none else
  zlet (zsj w0 (14 + v1.toNatClampNeg) w1.toNatClampNeg (1 : Int64)) fun M16 =>
  zlet (zsj M16 (38 + v1.toNatClampNeg) w1.toNatClampNeg (0 : Int64)) fun M18 =>
  some (.inl (M18, (w1 + (1 : Int32)))))
  else
  if (w1 < 0 ∨ 10 ≤ w1.toNatClampNeg) then none else
  zlet (zsj w0 (14 + v1.toNatClampNeg) w1.toNatClampNeg (0 : Int64)) fun M11 =>
  zlet (zsj M11 (38 + v1.toNatClampNeg) w1.toNatClampNeg (0 : Int64)) fun M13 =>
  some (.inl (M13, (w1 + (1 : Int32))))
set_option maxHeartbeats 4000000 in
set_option maxRecDepth 100000 in
theorem tX10_lookBehind_L214_b210 {κ : Nat → ClassId} {tg : Nat} {S : zEn} {ad : Nat → Nat} {X : zX} {pR : zM} {pX : zM} {pF : zM} {pB : zM} {pP : zP} {v1 : Int32} {v2 : Int64} {v4 : Int64} {w0 : zM} {w1 : Int32} {r : ((zM × Int32) ⊕ zM)} (hC : zC X cX10_lookBehind RX10 wsX10_lookBehind vwCl (zty κ) (zE tg S) 7 ({ frames := 2, cells := 0, slots := 0, locals := 51 } : Room)) (hEk : zEk (zE tg S)) (hin : ∀ (x0' : zM) (x1' : Int32), r = .inl (x0', x1') → zV X 0 0 (zwC κ ad x0' pR pX pF pB pP) [(0, .ref (ad 0)), (1, .int v1), (2, .long v2), (4, .long v4), (6, .int x1')] [] 214) (hout0 : ∀ (x0' : zM), r = .inr x0' → zV X 0 0 (zwC κ ad x0' pR pX pF pB pP) [(0, .ref (ad 0)), (1, .int v1), (2, .long v2), (4, .long v4)] [] 267) (h : xX10_lookBehind_L214_b210  v1 v2 v4 w0 w1 = some r) : zV X 0 0 (zwC κ ad w0 pR pX pF pB pP) [(0, .ref (ad 0)), (1, .int v1), (2, .long v2), (4, .long v4), (6, .int w1)] [] 214 := by
  unfold xX10_lookBehind_L214_b210 at h
  refine zr_iload (pc := 214) hC 4 rfl dX10_lookBehind_214 ?_
  refine zr_bipush (pc := 216) hC zkb_10 dX10_lookBehind_216 ?_
  refine zr_icmp_ge (pc := 218) (tgt := 267) hC dX10_lookBehind_218 (by decide) (fun c1 => ?_) (fun c1 => ?_)
  · replace h := zip h c1
    obtain rfl := Option.some.inj h
    exact zV.sub (lv' := [(0, .ref (ad 0)), (1, .int v1), (2, .long v2), (4, .long v4)]) [0, 1, 2, 3] rfl (hout0 w0 rfl)
  · replace h := zin h c1
    refine zr_aload_n (pc := 221) hC 0 rfl rfl dX10_lookBehind_221 ?_
    refine zcg_0_11 (pc := 222) hC hinX10_lookBehind_X10 flX10_lookBehind_48 dX10_lookBehind_222 ?_
    refine zr_iload_n (pc := 225) hC 1 rfl rfl dX10_lookBehind_225 ?_
    obtain ⟨i2, h⟩ := zgd h
    refine zcr_12 (pc := 226) hC i2 dX10_lookBehind_226 ?_
    refine zr_iload (pc := 227) hC 4 rfl dX10_lookBehind_227 ?_
    refine zr_iload (pc := 229) hC 4 rfl dX10_lookBehind_229 ?_
    refine zr_if_le (pc := 231) (tgt := 249) hC dX10_lookBehind_231 (by decide) (fun c3 => ?_) (fun c3 => ?_)
    · replace h := zip h c3
      refine zr_lconst (pc := 249) hC zkl_0 dX10_lookBehind_249 ?_
      obtain ⟨i4, h⟩ := zgd h
      obtain ⟨M5, e6, h⟩ := zle h
      refine zrs_14 (pc := 250) hC i2 i4 e6 dX10_lookBehind_250 ?_
      refine zr_aload_n (pc := 251) hC 0 rfl rfl dX10_lookBehind_251 ?_
      refine zcg_0_12 (pc := 252) hC hinX10_lookBehind_X10 flX10_lookBehind_51 dX10_lookBehind_252 ?_
      refine zr_iload_n (pc := 255) hC 1 rfl rfl dX10_lookBehind_255 ?_
      refine zcr_13 (pc := 256) hC i2 dX10_lookBehind_256 ?_
      refine zr_iload (pc := 257) hC 4 rfl dX10_lookBehind_257 ?_
      refine zr_lconst (pc := 259) hC zkl_0 dX10_lookBehind_259 ?_
      obtain ⟨M7, e8, h⟩ := zle h
      refine zrs_38 (pc := 260) hC i2 i4 e8 dX10_lookBehind_260 ?_
      refine zr_iinc (pc := 261) (k := 4) (lv' := [(6, .int (w1 + (1 : Int32))), (0, .ref (ad 0)), (1, .int v1), (2, .long v2), (4, .long v4)]) hC zki_1 (by decide) rfl rfl dX10_lookBehind_261 ?_
      refine zr_goto (pc := 264) (tgt := 214) hC dX10_lookBehind_264 (by decide) ?_
      obtain rfl := Option.some.inj h
      exact zV.sub (lv' := [(0, .ref (ad 0)), (1, .int v1), (2, .long v2), (4, .long v4), (6, .int (w1 + (1 : Int32)))]) [1, 2, 3, 4, 0] rfl (hin M7 (w1 + (1 : Int32)) rfl)
    · replace h := zin h c3
      refine zr_iload (pc := 234) hC 4 rfl dX10_lookBehind_234 ?_
      refine zr_aload_n (pc := 236) hC 0 rfl rfl dX10_lookBehind_236 ?_
      refine zcg_0_2 (pc := 237) hC hinX10_lookBehind_X10 flX10_lookBehind_18 dX10_lookBehind_237 ?_
      refine zr_iload_n (pc := 240) hC 1 rfl rfl dX10_lookBehind_240 ?_
      refine zcl_3 (pc := 241) hC i2 dX10_lookBehind_241 ?_
      refine zr_icmp_ne (pc := 242) (tgt := 249) hC dX10_lookBehind_242 (by decide) (fun c9 => ?_) (fun c9 => ?_)
      · replace h := zin h c9
        refine zr_lconst (pc := 249) hC zkl_0 dX10_lookBehind_249 ?_
        obtain ⟨i10, h⟩ := zgd h
        obtain ⟨M11, e12, h⟩ := zle h
        refine zrs_14 (pc := 250) hC i2 i10 e12 dX10_lookBehind_250 ?_
        refine zr_aload_n (pc := 251) hC 0 rfl rfl dX10_lookBehind_251 ?_
        refine zcg_0_12 (pc := 252) hC hinX10_lookBehind_X10 flX10_lookBehind_51 dX10_lookBehind_252 ?_
        refine zr_iload_n (pc := 255) hC 1 rfl rfl dX10_lookBehind_255 ?_
        refine zcr_13 (pc := 256) hC i2 dX10_lookBehind_256 ?_
        refine zr_iload (pc := 257) hC 4 rfl dX10_lookBehind_257 ?_
        refine zr_lconst (pc := 259) hC zkl_0 dX10_lookBehind_259 ?_
        obtain ⟨M13, e14, h⟩ := zle h
        refine zrs_38 (pc := 260) hC i2 i10 e14 dX10_lookBehind_260 ?_
        refine zr_iinc (pc := 261) (k := 4) (lv' := [(6, .int (w1 + (1 : Int32))), (0, .ref (ad 0)), (1, .int v1), (2, .long v2), (4, .long v4)]) hC zki_1 (by decide) rfl rfl dX10_lookBehind_261 ?_
        refine zr_goto (pc := 264) (tgt := 214) hC dX10_lookBehind_264 (by decide) ?_
        obtain rfl := Option.some.inj h
        exact zV.sub (lv' := [(0, .ref (ad 0)), (1, .int v1), (2, .long v2), (4, .long v4), (6, .int (w1 + (1 : Int32)))]) [1, 2, 3, 4, 0] rfl (hin M13 (w1 + (1 : Int32)) rfl)
      · replace h := zip h c9
        refine zr_lconst (pc := 245) hC zkl_1 dX10_lookBehind_245 ?_
        refine zr_goto (pc := 246) (tgt := 250) hC dX10_lookBehind_246 (by decide) ?_
        obtain ⟨i15, h⟩ := zgd h
        obtain ⟨M16, e17, h⟩ := zle h
        refine zrs_14 (pc := 250) hC i2 i15 e17 dX10_lookBehind_250 ?_
        refine zr_aload_n (pc := 251) hC 0 rfl rfl dX10_lookBehind_251 ?_
        refine zcg_0_12 (pc := 252) hC hinX10_lookBehind_X10 flX10_lookBehind_51 dX10_lookBehind_252 ?_
        refine zr_iload_n (pc := 255) hC 1 rfl rfl dX10_lookBehind_255 ?_
        refine zcr_13 (pc := 256) hC i2 dX10_lookBehind_256 ?_
        refine zr_iload (pc := 257) hC 4 rfl dX10_lookBehind_257 ?_
        refine zr_lconst (pc := 259) hC zkl_0 dX10_lookBehind_259 ?_
        obtain ⟨M18, e19, h⟩ := zle h
        refine zrs_38 (pc := 260) hC i2 i15 e19 dX10_lookBehind_260 ?_
        refine zr_iinc (pc := 261) (k := 4) (lv' := [(6, .int (w1 + (1 : Int32))), (0, .ref (ad 0)), (1, .int v1), (2, .long v2), (4, .long v4)]) hC zki_1 (by decide) rfl rfl dX10_lookBehind_261 ?_
        refine zr_goto (pc := 264) (tgt := 214) hC dX10_lookBehind_264 (by decide) ?_
        obtain rfl := Option.some.inj h
        exact zV.sub (lv' := [(0, .ref (ad 0)), (1, .int v1), (2, .long v2), (4, .long v4), (6, .int (w1 + (1 : Int32)))]) [1, 2, 3, 4, 0] rfl (hin M18 (w1 + (1 : Int32)) rfl)
def xX10_lookBehind_L272_b210 (v1 : Int32) (v2 : Int64) (v4 : Int64) (w0 : zM) (w1 : Int32) : Option ((zM × Int32) ⊕ zM) :=
  if (24 : Int32) ≤ w1 then
  (some (.inr w0))
  else
  if (w0.1 0 13) ≤ w1 then
  (some (.inr w0))
  else
  if (w1 < 0 ∨ 24 ≤ w1.toNatClampNeg) then none else
  if (w0.1 1 w1.toNatClampNeg) = v1 then
  ((xX11_parted (w0.1 2 w1.toNatClampNeg).toInt64 v2).bind fun q5 =>
  (xX11_parted v4 (w0.2 9 w1.toNatClampNeg)).bind fun q6 =>
  zlet (zsj w0 10 w1.toNatClampNeg (q5 * q6)) fun M7 =>
  (xX10_addShares M7 v1 w1).bind fun q9 =>
  some (.inl (q9, (w1 + (1 : Int32)))))
  else
  some (.inl (w0, (w1 + (1 : Int32))))
set_option maxHeartbeats 4000000 in
set_option maxRecDepth 100000 in
theorem tX10_lookBehind_L272_b210 {κ : Nat → ClassId} {tg : Nat} {S : zEn} {ad : Nat → Nat} {X : zX} {pR : zM} {pX : zM} {pF : zM} {pB : zM} {pP : zP} {v1 : Int32} {v2 : Int64} {v4 : Int64} {w0 : zM} {w1 : Int32} {r : ((zM × Int32) ⊕ zM)} (hC : zC X cX10_lookBehind RX10 wsX10_lookBehind vwCl (zty κ) (zE tg S) 7 ({ frames := 2, cells := 0, slots := 0, locals := 51 } : Room)) (hEk : zEk (zE tg S)) (hin : ∀ (x0' : zM) (x1' : Int32), r = .inl (x0', x1') → zV X 0 0 (zwC κ ad x0' pR pX pF pB pP) [(0, .ref (ad 0)), (1, .int v1), (2, .long v2), (4, .long v4), (6, .int x1')] [] 272) (hout0 : ∀ (x0' : zM), r = .inr x0' → zV X 0 0 (zwC κ ad x0' pR pX pF pB pP) [(0, .ref (ad 0)), (1, .int v1)] [] 347) (h : xX10_lookBehind_L272_b210  v1 v2 v4 w0 w1 = some r) : zV X 0 0 (zwC κ ad w0 pR pX pF pB pP) [(0, .ref (ad 0)), (1, .int v1), (2, .long v2), (4, .long v4), (6, .int w1)] [] 272 := by
  unfold xX10_lookBehind_L272_b210 at h
  refine zr_iload (pc := 272) hC 4 rfl dX10_lookBehind_272 ?_
  refine zr_bipush (pc := 274) hC zkb_24 dX10_lookBehind_274 ?_
  refine zr_icmp_ge (pc := 276) (tgt := 347) hC dX10_lookBehind_276 (by decide) (fun c1 => ?_) (fun c1 => ?_)
  · replace h := zip h c1
    obtain rfl := Option.some.inj h
    exact zV.sub (lv' := [(0, .ref (ad 0)), (1, .int v1)]) [0, 1] rfl (hout0 w0 rfl)
  · replace h := zin h c1
    refine zr_iload (pc := 279) hC 4 rfl dX10_lookBehind_279 ?_
    refine zr_aload_n (pc := 281) hC 0 rfl rfl dX10_lookBehind_281 ?_
    refine zcg_0_13 (pc := 282) hC hinX10_lookBehind_X10 flX10_lookBehind_54 dX10_lookBehind_282 ?_
    refine zr_icmp_ge (pc := 285) (tgt := 347) hC dX10_lookBehind_285 (by decide) (fun c2 => ?_) (fun c2 => ?_)
    · replace h := zip h c2
      obtain rfl := Option.some.inj h
      exact zV.sub (lv' := [(0, .ref (ad 0)), (1, .int v1)]) [0, 1] rfl (hout0 w0 rfl)
    · replace h := zin h c2
      refine zr_aload_n (pc := 288) hC 0 rfl rfl dX10_lookBehind_288 ?_
      refine zcg_0_0 (pc := 289) hC hinX10_lookBehind_X10 flX10_lookBehind_9 dX10_lookBehind_289 ?_
      refine zr_iload (pc := 292) hC 4 rfl dX10_lookBehind_292 ?_
      obtain ⟨i3, h⟩ := zgd h
      refine zcl_1 (pc := 294) hC i3 dX10_lookBehind_294 ?_
      refine zr_iload_n (pc := 295) hC 1 rfl rfl dX10_lookBehind_295 ?_
      refine zr_icmp_eq (pc := 296) (tgt := 302) hC dX10_lookBehind_296 (by decide) (fun c4 => ?_) (fun c4 => ?_)
      · replace h := zip h c4
        refine zr_aload_n (pc := 302) hC 0 rfl rfl dX10_lookBehind_302 ?_
        refine zcg_0_9 (pc := 303) hC hinX10_lookBehind_X10 flX10_lookBehind_40 dX10_lookBehind_303 ?_
        refine zr_iload (pc := 306) hC 4 rfl dX10_lookBehind_306 ?_
        refine zr_aload_n (pc := 308) hC 0 rfl rfl dX10_lookBehind_308 ?_
        refine zcg_0_1 (pc := 309) hC hinX10_lookBehind_X10 flX10_lookBehind_15 dX10_lookBehind_309 ?_
        refine zr_iload (pc := 312) hC 4 rfl dX10_lookBehind_312 ?_
        refine zcl_2 (pc := 314) hC i3 dX10_lookBehind_314 ?_
        refine zr_i2l (pc := 315) hC dX10_lookBehind_315 ?_
        refine zr_lload_n (pc := 316) hC 2 rfl rfl dX10_lookBehind_316 ?_
        obtain ⟨q5, hq5, h⟩ := zbd h
        refine zr_cNl (pc := 317) (host := "BeforeTheEnd") hC hEk [.long (w0.1 2 w1.toNatClampNeg).toInt64, .long v2] [.int w1, .ref (ad 10)] 2 (fun l D => tX11_parted hEk hq5 l D) gX10_lookBehind_X11_parted_n83 (zE_n83) (iniX10_lookBehind_X11) (staX10_lookBehind_X11_parted) rfl rfl rfl ⟨Nat.le_of_ble_eq_true rfl, Nat.le_of_ble_eq_true rfl⟩ hyX11_parted rfl rfl (Nat.le_of_ble_eq_true rfl) ⟨Nat.le_of_ble_eq_true rfl, Nat.le_of_ble_eq_true rfl⟩ dX10_lookBehind_317 ?_
        refine zr_lload (pc := 320) hC 3 rfl dX10_lookBehind_320 ?_
        refine zr_aload_n (pc := 322) hC 0 rfl rfl dX10_lookBehind_322 ?_
        refine zcg_0_8 (pc := 323) hC hinX10_lookBehind_X10 flX10_lookBehind_36 dX10_lookBehind_323 ?_
        refine zr_iload (pc := 326) hC 4 rfl dX10_lookBehind_326 ?_
        refine zcl_9 (pc := 328) hC i3 dX10_lookBehind_328 ?_
        obtain ⟨q6, hq6, h⟩ := zbd h
        refine zr_cNl (pc := 329) (host := "BeforeTheEnd") hC hEk [.long v4, .long (w0.2 9 w1.toNatClampNeg)] [.long q5, .int w1, .ref (ad 10)] 2 (fun l D => tX11_parted hEk hq6 l D) gX10_lookBehind_X11_parted_n83 (zE_n83) (iniX10_lookBehind_X11) (staX10_lookBehind_X11_parted) rfl rfl rfl ⟨Nat.le_of_ble_eq_true rfl, Nat.le_of_ble_eq_true rfl⟩ hyX11_parted rfl rfl (Nat.le_of_ble_eq_true rfl) ⟨Nat.le_of_ble_eq_true rfl, Nat.le_of_ble_eq_true rfl⟩ dX10_lookBehind_329 ?_
        refine zr_lmul (pc := 332) hC dX10_lookBehind_332 ?_
        obtain ⟨M7, e8, h⟩ := zle h
        refine zcs_10 (pc := 333) hC i3 e8 dX10_lookBehind_333 ?_
        refine zr_aload_n (pc := 334) hC 0 rfl rfl dX10_lookBehind_334 ?_
        refine zr_iload_n (pc := 335) hC 1 rfl rfl dX10_lookBehind_335 ?_
        refine zr_iload (pc := 336) hC 4 rfl dX10_lookBehind_336 ?_
        obtain ⟨q9, hq9, h⟩ := zbd h
        refine zr_cVv (pc := 338) hC hEk [.int v1, .int w1] [] 0 2 (fun l D => tX10_addShares hEk hq9 l D) gX10_lookBehind_X10_addShares rfl rfl rfl ⟨Nat.le_of_ble_eq_true rfl, Nat.le_of_ble_eq_true rfl⟩ hyX10_addShares (zNC (by decide)) entC_0 rfl rfl rfl (Nat.le_of_ble_eq_true rfl) ⟨Nat.le_of_ble_eq_true rfl, Nat.le_of_ble_eq_true rfl⟩ dX10_lookBehind_338 ?_
        refine zr_iinc (pc := 341) (k := 4) (lv' := [(6, .int (w1 + (1 : Int32))), (0, .ref (ad 0)), (1, .int v1), (2, .long v2), (4, .long v4)]) hC zki_1 (by decide) rfl rfl dX10_lookBehind_341 ?_
        refine zr_goto (pc := 344) (tgt := 272) hC dX10_lookBehind_344 (by decide) ?_
        obtain rfl := Option.some.inj h
        exact zV.sub (lv' := [(0, .ref (ad 0)), (1, .int v1), (2, .long v2), (4, .long v4), (6, .int (w1 + (1 : Int32)))]) [1, 2, 3, 4, 0] rfl (hin q9 (w1 + (1 : Int32)) rfl)
      · replace h := zin h c4
        refine zr_goto (pc := 299) (tgt := 341) hC dX10_lookBehind_299 (by decide) ?_
        refine zr_iinc (pc := 341) (k := 4) (lv' := [(6, .int (w1 + (1 : Int32))), (0, .ref (ad 0)), (1, .int v1), (2, .long v2), (4, .long v4)]) hC zki_1 (by decide) rfl rfl dX10_lookBehind_341 ?_
        refine zr_goto (pc := 344) (tgt := 272) hC dX10_lookBehind_344 (by decide) ?_
        obtain rfl := Option.some.inj h
        exact zV.sub (lv' := [(0, .ref (ad 0)), (1, .int v1), (2, .long v2), (4, .long v4), (6, .int (w1 + (1 : Int32)))]) [1, 2, 3, 4, 0] rfl (hin w0 (w1 + (1 : Int32)) rfl)
def xX10_lookBehind_b210 (pT : zM) (v1 : Int32) (v2 : Int64) (v4 : Int64) (s1 : Int32) (s2 : Int64) : Option zM :=
  if (s1 < 0 ∨ 24 ≤ s1.toNatClampNeg) then none else
  zlet (zsj pT 9 s1.toNatClampNeg s2) fun M2 =>
  (x_it (fun a9 => xX10_lookBehind_L214_b210 v1 v2 v4 a9.1 a9.2) zFU (M2, (0 : Int32))).bind fun q4 =>
  zlet (v1 + (1 : Int32)) fun z5 =>
  (x_it (fun a9 => xX10_lookBehind_L272_b210 v1 v2 v4 a9.1 a9.2) zFU (q4, z5)).bind fun q7 =>
  if (v1 < 0 ∨ 24 ≤ v1.toNatClampNeg) then none else
  if (q7.1 3 v1.toNatClampNeg) ≤ 0 then
  (if (q7.1 5 v1.toNatClampNeg) = 0 then
  (zlet (zsi q7 0 15 (0 : Int32)) fun M11 =>
  some M11)
  else
  some q7)
  else
  zlet (zsi q7 0 14 ((q7.1 0 14) + (1 : Int32))) fun M13 =>
  some M13
set_option maxHeartbeats 4000000 in
set_option maxRecDepth 100000 in
theorem tX10_lookBehind_b210 {κ : Nat → ClassId} {tg : Nat} {S : zEn} {ad : Nat → Nat} {X : zX} {res : zM} {pR : zM} {pX : zM} {pF : zM} {pB : zM} {pP : zP} {pT : zM} {v1 : Int32} {v2 : Int64} {v4 : Int64} {s1 : Int32} {s2 : Int64} (hC : zC X cX10_lookBehind RX10 wsX10_lookBehind vwCl (zty κ) (zE tg S) 7 ({ frames := 2, cells := 0, slots := 0, locals := 51 } : Room)) (hEk : zEk (zE tg S)) (hR : zR X none (zPd none (zwC κ ad res pR pX pF pB pP)) 0 0) (h : xX10_lookBehind_b210 pT v1 v2 v4 s1 s2 = some res) : zV X 0 0 (zwC κ ad pT pR pX pF pB pP) [(0, .ref (ad 0)), (1, .int v1), (2, .long v2), (4, .long v4)] [.long s2, .int s1, .ref (ad 9)] 210 := by
  unfold xX10_lookBehind_b210 at h
  obtain ⟨i1, h⟩ := zgd h
  obtain ⟨M2, e3, h⟩ := zle h
  refine zcs_9 (pc := 210) hC i1 e3 dX10_lookBehind_210 ?_
  refine zr_iconst (pc := 211) hC zki_0 dX10_lookBehind_211 ?_
  refine zr_istore (pc := 212) (lv' := [(6, .int (0 : Int32)), (0, .ref (ad 0)), (1, .int v1), (2, .long v2), (4, .long v4)]) hC (by decide) rfl dX10_lookBehind_212 ?_
  obtain ⟨q4, hq4, h⟩ := zbd h
  refine zV.sub (lv' := [(0, .ref (ad 0)), (1, .int v1), (2, .long v2), (4, .long v4), (6, .int (0 : Int32))]) [1, 2, 3, 4, 0] rfl ?_
  refine zit2 (Wp := fun (y0 : zM) (y1 : Int32) => zV X 0 0 (zwC κ ad y0 pR pX pF pB pP) [(0, .ref (ad 0)), (1, .int v1), (2, .long v2), (4, .long v4), (6, .int y1)] [] 214) (Ex := fun (b9 : zM) => zV X 0 0 (zwC κ ad b9 pR pX pF pB pP) [(0, .ref (ad 0)), (1, .int v1), (2, .long v2), (4, .long v4)] [] 267) (fun y0 y1 r9 hr hin hout => tX10_lookBehind_L214_b210 hC hEk hin (fun z0 e9 => hout z0 e9) hr) zFU M2 (0 : Int32) q4 hq4 ?_
  show zV X 0 0 (zwC κ ad q4 pR pX pF pB pP) [(0, .ref (ad 0)), (1, .int v1), (2, .long v2), (4, .long v4)] [] 267
  refine zr_iload_n (pc := 267) hC 1 rfl rfl dX10_lookBehind_267 ?_
  refine zr_iconst (pc := 268) hC zki_1 dX10_lookBehind_268 ?_
  refine zr_iadd (pc := 269) hC dX10_lookBehind_269 ?_
  obtain ⟨z5, e6, h⟩ := zle h
  refine zr_topi e6 ?_
  refine zr_istore (pc := 270) (lv' := [(6, .int z5), (0, .ref (ad 0)), (1, .int v1), (2, .long v2), (4, .long v4)]) hC (by decide) rfl dX10_lookBehind_270 ?_
  obtain ⟨q7, hq7, h⟩ := zbd h
  refine zV.sub (lv' := [(0, .ref (ad 0)), (1, .int v1), (2, .long v2), (4, .long v4), (6, .int z5)]) [1, 2, 3, 4, 0] rfl ?_
  refine zit2 (Wp := fun (y0 : zM) (y1 : Int32) => zV X 0 0 (zwC κ ad y0 pR pX pF pB pP) [(0, .ref (ad 0)), (1, .int v1), (2, .long v2), (4, .long v4), (6, .int y1)] [] 272) (Ex := fun (b9 : zM) => zV X 0 0 (zwC κ ad b9 pR pX pF pB pP) [(0, .ref (ad 0)), (1, .int v1)] [] 347) (fun y0 y1 r9 hr hin hout => tX10_lookBehind_L272_b210 hC hEk hin (fun z0 e9 => hout z0 e9) hr) zFU q4 z5 q7 hq7 ?_
  show zV X 0 0 (zwC κ ad q7 pR pX pF pB pP) [(0, .ref (ad 0)), (1, .int v1)] [] 347
  refine zr_aload_n (pc := 347) hC 0 rfl rfl dX10_lookBehind_347 ?_
  refine zcg_0_2 (pc := 348) hC hinX10_lookBehind_X10 flX10_lookBehind_18 dX10_lookBehind_348 ?_
  refine zr_iload_n (pc := 351) hC 1 rfl rfl dX10_lookBehind_351 ?_
  obtain ⟨i8, h⟩ := zgd h
  refine zcl_3 (pc := 352) hC i8 dX10_lookBehind_352 ?_
  refine zr_if_le (pc := 353) (tgt := 369) hC dX10_lookBehind_353 (by decide) (fun c9 => ?_) (fun c9 => ?_)
  · replace h := zip h c9
    refine zr_aload_n (pc := 369) hC 0 rfl rfl dX10_lookBehind_369 ?_
    refine zcg_0_4 (pc := 370) hC hinX10_lookBehind_X10 flX10_lookBehind_24 dX10_lookBehind_370 ?_
    refine zr_iload_n (pc := 373) hC 1 rfl rfl dX10_lookBehind_373 ?_
    refine zcl_5 (pc := 374) hC i8 dX10_lookBehind_374 ?_
    refine zr_if_ne (pc := 375) (tgt := 383) hC dX10_lookBehind_375 (by decide) (fun c10 => ?_) (fun c10 => ?_)
    · replace h := zin h c10
      obtain rfl := Option.some.inj h
      exact zr_vret hC hR ⟨rfl, rfl⟩ (Nat.le_refl _) (Nat.le_refl _) dX10_lookBehind_383
    · replace h := zip h c10
      refine zr_aload_n (pc := 378) hC 0 rfl rfl dX10_lookBehind_378 ?_
      refine zr_iconst (pc := 379) hC zki_0 dX10_lookBehind_379 ?_
      obtain ⟨M11, e12, h⟩ := zle h
      refine zcp_0_15 (pc := 380) hC hinX10_lookBehind_X10 flX10_lookBehind_61 (by decide) e12 dX10_lookBehind_380 ?_
      obtain rfl := Option.some.inj h
      exact zr_vret hC hR ⟨rfl, rfl⟩ (Nat.le_refl _) (Nat.le_refl _) dX10_lookBehind_383
  · replace h := zin h c9
    refine zr_aload_n (pc := 356) hC 0 rfl rfl dX10_lookBehind_356 ?_
    refine zr_dup (pc := 357) hC rfl dX10_lookBehind_357 ?_
    refine zcg_0_14 (pc := 358) hC hinX10_lookBehind_X10 flX10_lookBehind_58 dX10_lookBehind_358 ?_
    refine zr_iconst (pc := 361) hC zki_1 dX10_lookBehind_361 ?_
    refine zr_iadd (pc := 362) hC dX10_lookBehind_362 ?_
    obtain ⟨M13, e14, h⟩ := zle h
    refine zcp_0_14 (pc := 363) hC hinX10_lookBehind_X10 flX10_lookBehind_58 e14 dX10_lookBehind_363 ?_
    refine zr_goto (pc := 366) (tgt := 383) hC dX10_lookBehind_366 (by decide) ?_
    obtain rfl := Option.some.inj h
    exact zr_vret hC hR ⟨rfl, rfl⟩ (Nat.le_refl _) (Nat.le_refl _) dX10_lookBehind_383
def xX10_lookBehind_b54 (pT : zM) (v1 : Int32) (v2 : Int64) (v4 : Int64) (s1 : Int32) (s2 : Int32) : Option zM :=
  if (s1 < 0 ∨ 24 ≤ s1.toNatClampNeg) then none else
  zlet (zsi pT 7 s1.toNatClampNeg s2) fun M2 =>
  zlet (v1 + (1 : Int32)) fun z4 =>
  (x_it (fun a9 => xX10_lookBehind_L60_b54 v1 a9.1 a9.2.1 a9.2.2.1 a9.2.2.2) zFU (M2, v2, v4, z4)).bind fun q6 =>
  if (v1 < 0 ∨ 24 ≤ v1.toNatClampNeg) then none else
  if (q6.1.1 5 v1.toNatClampNeg) = 0 then
  (xX10_lookBehind_b210 q6.1 v1 q6.2.1 q6.2.2 v1 (1 : Int64))
  else
  (xX11_parted (q6.1.1 6 v1.toNatClampNeg).toInt64 q6.2.1).bind fun q9 =>
  xX10_lookBehind_b210 q6.1 v1 q6.2.1 q6.2.2 v1 (q9 * q6.2.2)
set_option maxHeartbeats 4000000 in
set_option maxRecDepth 100000 in
theorem tX10_lookBehind_b54 {κ : Nat → ClassId} {tg : Nat} {S : zEn} {ad : Nat → Nat} {X : zX} {res : zM} {pR : zM} {pX : zM} {pF : zM} {pB : zM} {pP : zP} {pT : zM} {v1 : Int32} {v2 : Int64} {v4 : Int64} {s1 : Int32} {s2 : Int32} (hC : zC X cX10_lookBehind RX10 wsX10_lookBehind vwCl (zty κ) (zE tg S) 7 ({ frames := 2, cells := 0, slots := 0, locals := 51 } : Room)) (hEk : zEk (zE tg S)) (hR : zR X none (zPd none (zwC κ ad res pR pX pF pB pP)) 0 0) (h : xX10_lookBehind_b54 pT v1 v2 v4 s1 s2 = some res) : zV X 0 0 (zwC κ ad pT pR pX pF pB pP) [(0, .ref (ad 0)), (1, .int v1), (2, .long v2), (4, .long v4)] [.int s2, .int s1, .ref (ad 7)] 54 := by
  unfold xX10_lookBehind_b54 at h
  obtain ⟨i1, h⟩ := zgd h
  obtain ⟨M2, e3, h⟩ := zle h
  refine zcs_7 (pc := 54) hC i1 e3 dX10_lookBehind_54 ?_
  refine zr_iload_n (pc := 55) hC 1 rfl rfl dX10_lookBehind_55 ?_
  refine zr_iconst (pc := 56) hC zki_1 dX10_lookBehind_56 ?_
  refine zr_iadd (pc := 57) hC dX10_lookBehind_57 ?_
  obtain ⟨z4, e5, h⟩ := zle h
  refine zr_topi e5 ?_
  refine zr_istore (pc := 58) (lv' := [(6, .int z4), (0, .ref (ad 0)), (1, .int v1), (2, .long v2), (4, .long v4)]) hC (by decide) rfl dX10_lookBehind_58 ?_
  obtain ⟨q6, hq6, h⟩ := zbd h
  refine zV.sub (lv' := [(0, .ref (ad 0)), (1, .int v1), (2, .long v2), (4, .long v4), (6, .int z4)]) [1, 2, 3, 4, 0] rfl ?_
  refine zit4 (Wp := fun (y0 : zM) (y1 : Int64) (y2 : Int64) (y3 : Int32) => zV X 0 0 (zwC κ ad y0 pR pX pF pB pP) [(0, .ref (ad 0)), (1, .int v1), (2, .long y1), (4, .long y2), (6, .int y3)] [] 60) (Ex := fun (b9 : (zM × Int64 × Int64)) => zV X 0 0 (zwC κ ad b9.1 pR pX pF pB pP) [(0, .ref (ad 0)), (1, .int v1), (2, .long b9.2.1), (4, .long b9.2.2)] [] 178) (fun y0 y1 y2 y3 r9 hr hin hout => tX10_lookBehind_L60_b54 hC hEk hin (fun z0 z1 z2 e9 => hout (z0, z1, z2) e9) hr) zFU M2 v2 v4 z4 q6 hq6 ?_
  show zV X 0 0 (zwC κ ad q6.1 pR pX pF pB pP) [(0, .ref (ad 0)), (1, .int v1), (2, .long q6.2.1), (4, .long q6.2.2)] [] 178
  refine zr_aload_n (pc := 178) hC 0 rfl rfl dX10_lookBehind_178 ?_
  refine zcg_0_8 (pc := 179) hC hinX10_lookBehind_X10 flX10_lookBehind_36 dX10_lookBehind_179 ?_
  refine zr_iload_n (pc := 182) hC 1 rfl rfl dX10_lookBehind_182 ?_
  refine zr_aload_n (pc := 183) hC 0 rfl rfl dX10_lookBehind_183 ?_
  refine zcg_0_4 (pc := 184) hC hinX10_lookBehind_X10 flX10_lookBehind_24 dX10_lookBehind_184 ?_
  refine zr_iload_n (pc := 187) hC 1 rfl rfl dX10_lookBehind_187 ?_
  obtain ⟨i7, h⟩ := zgd h
  refine zcl_5 (pc := 188) hC i7 dX10_lookBehind_188 ?_
  refine zr_if_ne (pc := 189) (tgt := 196) hC dX10_lookBehind_189 (by decide) (fun c8 => ?_) (fun c8 => ?_)
  · replace h := zin h c8
    refine zr_aload_n (pc := 196) hC 0 rfl rfl dX10_lookBehind_196 ?_
    refine zcg_0_5 (pc := 197) hC hinX10_lookBehind_X10 flX10_lookBehind_27 dX10_lookBehind_197 ?_
    refine zr_iload_n (pc := 200) hC 1 rfl rfl dX10_lookBehind_200 ?_
    refine zcl_6 (pc := 201) hC i7 dX10_lookBehind_201 ?_
    refine zr_i2l (pc := 202) hC dX10_lookBehind_202 ?_
    refine zr_lload_n (pc := 203) hC 2 rfl rfl dX10_lookBehind_203 ?_
    obtain ⟨q9, hq9, h⟩ := zbd h
    refine zr_cNl (pc := 204) (host := "BeforeTheEnd") hC hEk [.long (q6.1.1 6 v1.toNatClampNeg).toInt64, .long q6.2.1] [.int v1, .ref (ad 9)] 2 (fun l D => tX11_parted hEk hq9 l D) gX10_lookBehind_X11_parted_n83 (zE_n83) (iniX10_lookBehind_X11) (staX10_lookBehind_X11_parted) rfl rfl rfl ⟨Nat.le_of_ble_eq_true rfl, Nat.le_of_ble_eq_true rfl⟩ hyX11_parted rfl rfl (Nat.le_of_ble_eq_true rfl) ⟨Nat.le_of_ble_eq_true rfl, Nat.le_of_ble_eq_true rfl⟩ dX10_lookBehind_204 ?_
    refine zr_lload (pc := 207) hC 3 rfl dX10_lookBehind_207 ?_
    refine zr_lmul (pc := 209) hC dX10_lookBehind_209 ?_
    exact zV.sub (lv' := [(0, .ref (ad 0)), (1, .int v1), (2, .long q6.2.1), (4, .long q6.2.2)]) [0, 1, 2, 3] rfl (tX10_lookBehind_b210 hC hEk hR h)
  · replace h := zip h c8
    refine zr_lconst (pc := 192) hC zkl_1 dX10_lookBehind_192 ?_
    refine zr_goto (pc := 193) (tgt := 210) hC dX10_lookBehind_193 (by decide) ?_
    exact zV.sub (lv' := [(0, .ref (ad 0)), (1, .int v1), (2, .long q6.2.1), (4, .long q6.2.2)]) [0, 1, 2, 3] rfl (tX10_lookBehind_b210 hC hEk hR h)
def xX10_lookBehind (pT : zM) (v1 : Int32) : Option zM :=
  (xX10_has pT v1).bind fun q1 =>
  if q1 = 0 then
  (some pT)
  else
  if (v1 < 0 ∨ 24 ≤ v1.toNatClampNeg) then none else
  zlet (zsi pT 5 v1.toNatClampNeg (0 : Int32)) fun M4 =>
  zlet (zsi M4 6 v1.toNatClampNeg (0 : Int32)) fun M6 =>
  if (M6.1 3 v1.toNatClampNeg) ≤ 0 then
  (xX10_lookBehind_b54 M6 v1 (0 : Int64) (1 : Int64) v1 (0 : Int32))
  else
  xX10_lookBehind_b54 M6 v1 (0 : Int64) (1 : Int64) v1 ((1 : Int32) <<< ((M6.1 3 v1.toNatClampNeg) &&& 31))
set_option maxHeartbeats 4000000 in
set_option maxRecDepth 100000 in
theorem tX10_lookBehind {κ : Nat → ClassId} {tg : Nat} {S : zEn} {ad : Nat → Nat} (hEk : zEk (zE tg S)) {pT : zM} {pR : zM} {pX : zM} {pF : zM} {pB : zM} {pP : zP} {v1 : Int32} {res : zM} (h : xX10_lookBehind pT v1 = some res) (l : Launch) (D : va_G) : zCT (zE tg S) D vwCl (zty κ) l yX10_lookBehind wsX10_lookBehind ({ frames := 2, cells := 0, slots := 0, locals := 51 } : Room) 0 0 [.ref (ad 0), .int v1] (zwC κ ad pT pR pX pF pB pP) (zPd none (zwC κ ad res pR pX pF pB pP)) := by
  refine zCT.of (cc := cX10_lookBehind) (maxL := 7) (ret := none) (by decide) rfl (Nat.le_of_ble_eq_true rfl) ?_
  intro X hC hR
  unfold xX10_lookBehind at h
  refine zV.sub (lv' := [(0, .ref (ad 0)), (1, .int v1)]) [0, 1] rfl ?_
  refine zr_aload_n (pc := 0) hC 0 rfl rfl dX10_lookBehind_0 ?_
  refine zr_iload_n (pc := 1) hC 1 rfl rfl dX10_lookBehind_1 ?_
  obtain ⟨q1, hq1, h⟩ := zbd h
  refine zr_cVi (pc := 2) hC hEk [.int v1] [] 0 1 (fun l D => tX10_has hEk hq1 l D) gX10_lookBehind_X10_has rfl rfl rfl ⟨Nat.le_of_ble_eq_true rfl, Nat.le_of_ble_eq_true rfl⟩ hyX10_has (zNC (by decide)) entC_0 rfl rfl rfl (Nat.le_of_ble_eq_true rfl) ⟨Nat.le_of_ble_eq_true rfl, Nat.le_of_ble_eq_true rfl⟩ dX10_lookBehind_2 ?_
  refine zr_if_ne (pc := 5) (tgt := 9) hC dX10_lookBehind_5 (by decide) (fun c2 => ?_) (fun c2 => ?_)
  · replace h := zin h c2
    refine zr_lconst (pc := 9) hC zkl_0 dX10_lookBehind_9 ?_
    refine zr_lstore_n (pc := 10) (lv' := [(2, .long (0 : Int64)), (0, .ref (ad 0)), (1, .int v1)]) hC rfl (by decide) rfl dX10_lookBehind_10 ?_
    refine zr_lconst (pc := 11) hC zkl_1 dX10_lookBehind_11 ?_
    refine zr_lstore (pc := 12) (lv' := [(4, .long (1 : Int64)), (2, .long (0 : Int64)), (0, .ref (ad 0)), (1, .int v1)]) hC (by decide) rfl dX10_lookBehind_12 ?_
    refine zr_aload_n (pc := 14) hC 2 rfl rfl dX10_lookBehind_14 ?_
    refine zcg_0_4 (pc := 15) hC hinX10_lookBehind_X10 flX10_lookBehind_24 dX10_lookBehind_15 ?_
    refine zr_iload_n (pc := 18) hC 3 rfl rfl dX10_lookBehind_18 ?_
    refine zr_iconst (pc := 19) hC zki_0 dX10_lookBehind_19 ?_
    obtain ⟨i3, h⟩ := zgd h
    obtain ⟨M4, e5, h⟩ := zle h
    refine zcs_5 (pc := 20) hC i3 e5 dX10_lookBehind_20 ?_
    refine zr_aload_n (pc := 21) hC 2 rfl rfl dX10_lookBehind_21 ?_
    refine zcg_0_5 (pc := 22) hC hinX10_lookBehind_X10 flX10_lookBehind_27 dX10_lookBehind_22 ?_
    refine zr_iload_n (pc := 25) hC 3 rfl rfl dX10_lookBehind_25 ?_
    refine zr_iconst (pc := 26) hC zki_0 dX10_lookBehind_26 ?_
    obtain ⟨M6, e7, h⟩ := zle h
    refine zcs_6 (pc := 27) hC i3 e7 dX10_lookBehind_27 ?_
    refine zr_aload_n (pc := 28) hC 2 rfl rfl dX10_lookBehind_28 ?_
    refine zcg_0_6 (pc := 29) hC hinX10_lookBehind_X10 flX10_lookBehind_30 dX10_lookBehind_29 ?_
    refine zr_iload_n (pc := 32) hC 3 rfl rfl dX10_lookBehind_32 ?_
    refine zr_aload_n (pc := 33) hC 2 rfl rfl dX10_lookBehind_33 ?_
    refine zcg_0_2 (pc := 34) hC hinX10_lookBehind_X10 flX10_lookBehind_18 dX10_lookBehind_34 ?_
    refine zr_iload_n (pc := 37) hC 3 rfl rfl dX10_lookBehind_37 ?_
    refine zcl_3 (pc := 38) hC i3 dX10_lookBehind_38 ?_
    refine zr_if_le (pc := 39) (tgt := 53) hC dX10_lookBehind_39 (by decide) (fun c8 => ?_) (fun c8 => ?_)
    · replace h := zip h c8
      refine zr_iconst (pc := 53) hC zki_0 dX10_lookBehind_53 ?_
      exact zV.sub (lv' := [(0, .ref (ad 0)), (1, .int v1), (2, .long (0 : Int64)), (4, .long (1 : Int64))]) [2, 3, 1, 0] rfl (tX10_lookBehind_b54 hC hEk hR h)
    · replace h := zin h c8
      refine zr_iconst (pc := 42) hC zki_1 dX10_lookBehind_42 ?_
      refine zr_aload_n (pc := 43) hC 2 rfl rfl dX10_lookBehind_43 ?_
      refine zcg_0_2 (pc := 44) hC hinX10_lookBehind_X10 flX10_lookBehind_18 dX10_lookBehind_44 ?_
      refine zr_iload_n (pc := 47) hC 3 rfl rfl dX10_lookBehind_47 ?_
      refine zcl_3 (pc := 48) hC i3 dX10_lookBehind_48 ?_
      refine zr_ishl (pc := 49) hC dX10_lookBehind_49 ?_
      refine zr_goto (pc := 50) (tgt := 54) hC dX10_lookBehind_50 (by decide) ?_
      exact zV.sub (lv' := [(0, .ref (ad 0)), (1, .int v1), (2, .long (0 : Int64)), (4, .long (1 : Int64))]) [2, 3, 1, 0] rfl (tX10_lookBehind_b54 hC hEk hR h)
  · replace h := zip h c2
    obtain rfl := Option.some.inj h
    exact zr_vret hC hR ⟨rfl, rfl⟩ (Nat.le_refl _) (Nat.le_refl _) dX10_lookBehind_8
/-! X10_lookAhead -/
theorem hyX10_lookAhead : yX10_lookAhead.cls = RX10 ∧ yX10_lookAhead.cls ≠ "java/lang/invoke/MethodHandle" ∧ yX10_lookAhead.cls ≠ "java/lang/invoke/VarHandle" ∧ (parseMethodDescriptor yX10_lookAhead.desc).map (fun d => d.parameters.length) = some 1 := by decide +kernel
theorem flX10_lookAhead_21 : Cond.fieldLink RX10 21 "BeforeTheEnd$Tree" "length" "[I" ∈ wsX10_lookAhead := by decide +kernel
theorem flX10_lookAhead_33 : Cond.fieldLink RX10 33 "BeforeTheEnd$Tree" "way" "[I" ∈ wsX10_lookAhead := by decide +kernel
theorem flX10_lookAhead_40 : Cond.fieldLink RX10 40 "BeforeTheEnd$Tree" "step" "[J" ∈ wsX10_lookAhead := by decide +kernel
theorem flX10_lookAhead_43 : Cond.fieldLink RX10 43 "BeforeTheEnd$Tree" "times" "[J" ∈ wsX10_lookAhead := by decide +kernel
theorem flX10_lookAhead_9 : Cond.fieldLink RX10 9 "BeforeTheEnd$Tree" "parent" "[I" ∈ wsX10_lookAhead := by decide +kernel
theorem hinX10_lookAhead_X10 : ∀ w ∈ wsX100, w ∈ wsX10_lookAhead := fun _ h => List.mem_cons_of_mem _ (List.mem_append_right _ h)
def xX10_lookAhead (pT : zM) (v1 : Int32) : Option zM :=
  (xX10_has pT v1).bind fun q1 =>
  if q1 = 0 then
  (some pT)
  else
  if (v1 < 0 ∨ 24 ≤ v1.toNatClampNeg) then none else
  (xX10_has pT (pT.1 1 v1.toNatClampNeg)).bind fun q4 =>
  if q4 = 0 then
  (some pT)
  else
  if ((pT.1 1 v1.toNatClampNeg) < 0 ∨ 24 ≤ (pT.1 1 v1.toNatClampNeg).toNatClampNeg) then none else
  zlet (zsi pT 4 v1.toNatClampNeg ((pT.1 4 (pT.1 1 v1.toNatClampNeg).toNatClampNeg) + (1 : Int32))) fun M7 =>
  if ((M7.1 1 v1.toNatClampNeg) < 0 ∨ 24 ≤ (M7.1 1 v1.toNatClampNeg).toNatClampNeg) then none else
  zlet (zsi M7 8 v1.toNatClampNeg ((M7.1 8 (M7.1 1 v1.toNatClampNeg).toNatClampNeg) ||| ((1 : Int32) <<< (v1 &&& 31)))) fun M10 =>
  if ((M10.1 1 v1.toNatClampNeg) < 0 ∨ 24 ≤ (M10.1 1 v1.toNatClampNeg).toNatClampNeg) then none else
  zlet (zsj M10 11 v1.toNatClampNeg ((M10.2 11 (M10.1 1 v1.toNatClampNeg).toNatClampNeg) * (M10.2 10 v1.toNatClampNeg))) fun M13 =>
  some M13
set_option maxHeartbeats 4000000 in
set_option maxRecDepth 100000 in
theorem tX10_lookAhead {κ : Nat → ClassId} {tg : Nat} {S : zEn} {ad : Nat → Nat} (hEk : zEk (zE tg S)) {pT : zM} {pR : zM} {pX : zM} {pF : zM} {pB : zM} {pP : zP} {v1 : Int32} {res : zM} (h : xX10_lookAhead pT v1 = some res) (l : Launch) (D : va_G) : zCT (zE tg S) D vwCl (zty κ) l yX10_lookAhead wsX10_lookAhead ({ frames := 1, cells := 0, slots := 0, locals := 21 } : Room) 0 0 [.ref (ad 0), .int v1] (zwC κ ad pT pR pX pF pB pP) (zPd none (zwC κ ad res pR pX pF pB pP)) := by
  refine zCT.of (cc := cX10_lookAhead) (maxL := 2) (ret := none) (by decide) rfl (Nat.le_of_ble_eq_true rfl) ?_
  intro X hC hR
  unfold xX10_lookAhead at h
  refine zV.sub (lv' := [(0, .ref (ad 0)), (1, .int v1)]) [0, 1] rfl ?_
  refine zr_aload_n (pc := 0) hC 0 rfl rfl dX10_lookAhead_0 ?_
  refine zr_iload_n (pc := 1) hC 1 rfl rfl dX10_lookAhead_1 ?_
  obtain ⟨q1, hq1, h⟩ := zbd h
  refine zr_cVi (pc := 2) hC hEk [.int v1] [] 0 1 (fun l D => tX10_has hEk hq1 l D) gX10_lookAhead_X10_has rfl rfl rfl ⟨Nat.le_of_ble_eq_true rfl, Nat.le_of_ble_eq_true rfl⟩ hyX10_has (zNC (by decide)) entC_0 rfl rfl rfl (Nat.le_of_ble_eq_true rfl) ⟨Nat.le_of_ble_eq_true rfl, Nat.le_of_ble_eq_true rfl⟩ dX10_lookAhead_2 ?_
  refine zr_if_eq (pc := 5) (tgt := 21) hC dX10_lookAhead_5 (by decide) (fun c2 => ?_) (fun c2 => ?_)
  · replace h := zip h c2
    obtain rfl := Option.some.inj h
    exact zr_vret hC hR ⟨rfl, rfl⟩ (Nat.le_refl _) (Nat.le_refl _) dX10_lookAhead_21
  · replace h := zin h c2
    refine zr_aload_n (pc := 8) hC 0 rfl rfl dX10_lookAhead_8 ?_
    refine zr_aload_n (pc := 9) hC 0 rfl rfl dX10_lookAhead_9 ?_
    refine zcg_0_0 (pc := 10) hC hinX10_lookAhead_X10 flX10_lookAhead_9 dX10_lookAhead_10 ?_
    refine zr_iload_n (pc := 13) hC 1 rfl rfl dX10_lookAhead_13 ?_
    obtain ⟨i3, h⟩ := zgd h
    refine zcl_1 (pc := 14) hC i3 dX10_lookAhead_14 ?_
    obtain ⟨q4, hq4, h⟩ := zbd h
    refine zr_cVi (pc := 15) hC hEk [.int (pT.1 1 v1.toNatClampNeg)] [] 0 1 (fun l D => tX10_has hEk hq4 l D) gX10_lookAhead_X10_has rfl rfl rfl ⟨Nat.le_of_ble_eq_true rfl, Nat.le_of_ble_eq_true rfl⟩ hyX10_has (zNC (by decide)) entC_0 rfl rfl rfl (Nat.le_of_ble_eq_true rfl) ⟨Nat.le_of_ble_eq_true rfl, Nat.le_of_ble_eq_true rfl⟩ dX10_lookAhead_15 ?_
    refine zr_if_ne (pc := 18) (tgt := 22) hC dX10_lookAhead_18 (by decide) (fun c5 => ?_) (fun c5 => ?_)
    · replace h := zin h c5
      refine zr_aload_n (pc := 22) hC 0 rfl rfl dX10_lookAhead_22 ?_
      refine zcg_0_3 (pc := 23) hC hinX10_lookAhead_X10 flX10_lookAhead_21 dX10_lookAhead_23 ?_
      refine zr_iload_n (pc := 26) hC 1 rfl rfl dX10_lookAhead_26 ?_
      refine zr_aload_n (pc := 27) hC 0 rfl rfl dX10_lookAhead_27 ?_
      refine zcg_0_3 (pc := 28) hC hinX10_lookAhead_X10 flX10_lookAhead_21 dX10_lookAhead_28 ?_
      refine zr_aload_n (pc := 31) hC 0 rfl rfl dX10_lookAhead_31 ?_
      refine zcg_0_0 (pc := 32) hC hinX10_lookAhead_X10 flX10_lookAhead_9 dX10_lookAhead_32 ?_
      refine zr_iload_n (pc := 35) hC 1 rfl rfl dX10_lookAhead_35 ?_
      refine zcl_1 (pc := 36) hC i3 dX10_lookAhead_36 ?_
      obtain ⟨i6, h⟩ := zgd h
      refine zcl_4 (pc := 37) hC i6 dX10_lookAhead_37 ?_
      refine zr_iconst (pc := 38) hC zki_1 dX10_lookAhead_38 ?_
      refine zr_iadd (pc := 39) hC dX10_lookAhead_39 ?_
      obtain ⟨M7, e8, h⟩ := zle h
      refine zcs_4 (pc := 40) hC i3 e8 dX10_lookAhead_40 ?_
      refine zr_aload_n (pc := 41) hC 0 rfl rfl dX10_lookAhead_41 ?_
      refine zcg_0_7 (pc := 42) hC hinX10_lookAhead_X10 flX10_lookAhead_33 dX10_lookAhead_42 ?_
      refine zr_iload_n (pc := 45) hC 1 rfl rfl dX10_lookAhead_45 ?_
      refine zr_aload_n (pc := 46) hC 0 rfl rfl dX10_lookAhead_46 ?_
      refine zcg_0_7 (pc := 47) hC hinX10_lookAhead_X10 flX10_lookAhead_33 dX10_lookAhead_47 ?_
      refine zr_aload_n (pc := 50) hC 0 rfl rfl dX10_lookAhead_50 ?_
      refine zcg_0_0 (pc := 51) hC hinX10_lookAhead_X10 flX10_lookAhead_9 dX10_lookAhead_51 ?_
      refine zr_iload_n (pc := 54) hC 1 rfl rfl dX10_lookAhead_54 ?_
      refine zcl_1 (pc := 55) hC i3 dX10_lookAhead_55 ?_
      obtain ⟨i9, h⟩ := zgd h
      refine zcl_8 (pc := 56) hC i9 dX10_lookAhead_56 ?_
      refine zr_iconst (pc := 57) hC zki_1 dX10_lookAhead_57 ?_
      refine zr_iload_n (pc := 58) hC 1 rfl rfl dX10_lookAhead_58 ?_
      refine zr_ishl (pc := 59) hC dX10_lookAhead_59 ?_
      refine zr_ior (pc := 60) hC dX10_lookAhead_60 ?_
      obtain ⟨M10, e11, h⟩ := zle h
      refine zcs_8 (pc := 61) hC i3 e11 dX10_lookAhead_61 ?_
      refine zr_aload_n (pc := 62) hC 0 rfl rfl dX10_lookAhead_62 ?_
      refine zcg_0_10 (pc := 63) hC hinX10_lookAhead_X10 flX10_lookAhead_43 dX10_lookAhead_63 ?_
      refine zr_iload_n (pc := 66) hC 1 rfl rfl dX10_lookAhead_66 ?_
      refine zr_aload_n (pc := 67) hC 0 rfl rfl dX10_lookAhead_67 ?_
      refine zcg_0_10 (pc := 68) hC hinX10_lookAhead_X10 flX10_lookAhead_43 dX10_lookAhead_68 ?_
      refine zr_aload_n (pc := 71) hC 0 rfl rfl dX10_lookAhead_71 ?_
      refine zcg_0_0 (pc := 72) hC hinX10_lookAhead_X10 flX10_lookAhead_9 dX10_lookAhead_72 ?_
      refine zr_iload_n (pc := 75) hC 1 rfl rfl dX10_lookAhead_75 ?_
      refine zcl_1 (pc := 76) hC i3 dX10_lookAhead_76 ?_
      obtain ⟨i12, h⟩ := zgd h
      refine zcl_11 (pc := 77) hC i12 dX10_lookAhead_77 ?_
      refine zr_aload_n (pc := 78) hC 0 rfl rfl dX10_lookAhead_78 ?_
      refine zcg_0_9 (pc := 79) hC hinX10_lookAhead_X10 flX10_lookAhead_40 dX10_lookAhead_79 ?_
      refine zr_iload_n (pc := 82) hC 1 rfl rfl dX10_lookAhead_82 ?_
      refine zcl_10 (pc := 83) hC i3 dX10_lookAhead_83 ?_
      refine zr_lmul (pc := 84) hC dX10_lookAhead_84 ?_
      obtain ⟨M13, e14, h⟩ := zle h
      refine zcs_11 (pc := 85) hC i3 e14 dX10_lookAhead_85 ?_
      obtain rfl := Option.some.inj h
      exact zr_vret hC hR ⟨rfl, rfl⟩ (Nat.le_refl _) (Nat.le_refl _) dX10_lookAhead_86
    · replace h := zip h c5
      obtain rfl := Option.some.inj h
      exact zr_vret hC hR ⟨rfl, rfl⟩ (Nat.le_refl _) (Nat.le_refl _) dX10_lookAhead_21
/-! X10_settle -/
theorem hyX10_settle : yX10_settle.cls = RX10 ∧ yX10_settle.cls ≠ "java/lang/invoke/MethodHandle" ∧ yX10_settle.cls ≠ "java/lang/invoke/VarHandle" ∧ (parseMethodDescriptor yX10_settle.desc).map (fun d => d.parameters.length) = some 0 := by decide +kernel
theorem flX10_settle_54 : Cond.fieldLink RX10 54 "BeforeTheEnd$Tree" "count" "I" ∈ wsX10_settle := by decide +kernel
theorem flX10_settle_58 : Cond.fieldLink RX10 58 "BeforeTheEnd$Tree" "ends" "I" ∈ wsX10_settle := by decide +kernel
theorem flX10_settle_61 : Cond.fieldLink RX10 61 "BeforeTheEnd$Tree" "allClosed" "Z" ∈ wsX10_settle := by decide +kernel
theorem hinX10_settle_X10 : ∀ w ∈ wsX100, w ∈ wsX10_settle := fun _ h => List.mem_cons_of_mem _ (List.mem_append_right _ h)
def xX10_settle_L13 (w0 : zM) (w1 : Int32) : Option ((zM × Int32) ⊕ zM) :=
  if w1 < 0 then
  (some (.inr w0))
  else
  if (w0.1 0 13) ≤ w1 then
  (some (.inl (w0, (w1 + (-1 : Int32)))))
  else
  (xX10_lookBehind w0 w1).bind fun q3 =>
  some (.inl (q3, (w1 + (-1 : Int32))))
set_option maxHeartbeats 4000000 in
set_option maxRecDepth 100000 in
theorem tX10_settle_L13 {κ : Nat → ClassId} {tg : Nat} {S : zEn} {ad : Nat → Nat} {X : zX} {pR : zM} {pX : zM} {pF : zM} {pB : zM} {pP : zP} {w0 : zM} {w1 : Int32} {r : ((zM × Int32) ⊕ zM)} (hC : zC X cX10_settle RX10 wsX10_settle vwCl (zty κ) (zE tg S) 2 ({ frames := 3, cells := 0, slots := 0, locals := 77 } : Room)) (hEk : zEk (zE tg S)) (hin : ∀ (x0' : zM) (x1' : Int32), r = .inl (x0', x1') → zV X 0 0 (zwC κ ad x0' pR pX pF pB pP) [(0, .ref (ad 0)), (1, .int x1')] [] 13) (hout0 : ∀ (x0' : zM), r = .inr x0' → zV X 0 0 (zwC κ ad x0' pR pX pF pB pP) [(0, .ref (ad 0))] [] 36) (h : xX10_settle_L13   w0 w1 = some r) : zV X 0 0 (zwC κ ad w0 pR pX pF pB pP) [(0, .ref (ad 0)), (1, .int w1)] [] 13 := by
  unfold xX10_settle_L13 at h
  refine zr_iload_n (pc := 13) hC 1 rfl rfl dX10_settle_13 ?_
  refine zr_if_lt (pc := 14) (tgt := 36) hC dX10_settle_14 (by decide) (fun c1 => ?_) (fun c1 => ?_)
  · replace h := zip h c1
    obtain rfl := Option.some.inj h
    exact zV.sub (lv' := [(0, .ref (ad 0))]) [0] rfl (hout0 w0 rfl)
  · replace h := zin h c1
    refine zr_iload_n (pc := 17) hC 1 rfl rfl dX10_settle_17 ?_
    refine zr_aload_n (pc := 18) hC 0 rfl rfl dX10_settle_18 ?_
    refine zcg_0_13 (pc := 19) hC hinX10_settle_X10 flX10_settle_54 dX10_settle_19 ?_
    refine zr_icmp_ge (pc := 22) (tgt := 30) hC dX10_settle_22 (by decide) (fun c2 => ?_) (fun c2 => ?_)
    · replace h := zip h c2
      refine zr_iinc (pc := 30) (k := 1) (lv' := [(1, .int (w1 + (-1 : Int32))), (0, .ref (ad 0))]) hC zki_m1 (by decide) rfl rfl dX10_settle_30 ?_
      refine zr_goto (pc := 33) (tgt := 13) hC dX10_settle_33 (by decide) ?_
      obtain rfl := Option.some.inj h
      exact zV.sub (lv' := [(0, .ref (ad 0)), (1, .int (w1 + (-1 : Int32)))]) [1, 0] rfl (hin w0 (w1 + (-1 : Int32)) rfl)
    · replace h := zin h c2
      refine zr_aload_n (pc := 25) hC 0 rfl rfl dX10_settle_25 ?_
      refine zr_iload_n (pc := 26) hC 1 rfl rfl dX10_settle_26 ?_
      obtain ⟨q3, hq3, h⟩ := zbd h
      refine zr_cVv (pc := 27) hC hEk [.int w1] [] 0 1 (fun l D => tX10_lookBehind hEk hq3 l D) gX10_settle_X10_lookBehind rfl rfl rfl ⟨Nat.le_of_ble_eq_true rfl, Nat.le_of_ble_eq_true rfl⟩ hyX10_lookBehind (zNC (by decide)) entC_0 rfl rfl rfl (Nat.le_of_ble_eq_true rfl) ⟨Nat.le_of_ble_eq_true rfl, Nat.le_of_ble_eq_true rfl⟩ dX10_settle_27 ?_
      refine zr_iinc (pc := 30) (k := 1) (lv' := [(1, .int (w1 + (-1 : Int32))), (0, .ref (ad 0))]) hC zki_m1 (by decide) rfl rfl dX10_settle_30 ?_
      refine zr_goto (pc := 33) (tgt := 13) hC dX10_settle_33 (by decide) ?_
      obtain rfl := Option.some.inj h
      exact zV.sub (lv' := [(0, .ref (ad 0)), (1, .int (w1 + (-1 : Int32)))]) [1, 0] rfl (hin q3 (w1 + (-1 : Int32)) rfl)
def xX10_settle_L38 (w0 : zM) (w1 : Int32) : Option ((zM × Int32) ⊕ zM) :=
  if (24 : Int32) ≤ w1 then
  (some (.inr w0))
  else
  if (w0.1 0 13) ≤ w1 then
  (some (.inr w0))
  else
  (xX10_lookAhead w0 w1).bind fun q3 =>
  some (.inl (q3, (w1 + (1 : Int32))))
set_option maxHeartbeats 4000000 in
set_option maxRecDepth 100000 in
theorem tX10_settle_L38 {κ : Nat → ClassId} {tg : Nat} {S : zEn} {ad : Nat → Nat} {X : zX} {pR : zM} {pX : zM} {pF : zM} {pB : zM} {pP : zP} {w0 : zM} {w1 : Int32} {r : ((zM × Int32) ⊕ zM)} (hC : zC X cX10_settle RX10 wsX10_settle vwCl (zty κ) (zE tg S) 2 ({ frames := 3, cells := 0, slots := 0, locals := 77 } : Room)) (hEk : zEk (zE tg S)) (hin : ∀ (x0' : zM) (x1' : Int32), r = .inl (x0', x1') → zV X 0 0 (zwC κ ad x0' pR pX pF pB pP) [(0, .ref (ad 0)), (1, .int x1')] [] 38) (hout0 : ∀ (x0' : zM), r = .inr x0' → zV X 0 0 (zwC κ ad x0' pR pX pF pB pP) [] [] 63) (h : xX10_settle_L38   w0 w1 = some r) : zV X 0 0 (zwC κ ad w0 pR pX pF pB pP) [(0, .ref (ad 0)), (1, .int w1)] [] 38 := by
  unfold xX10_settle_L38 at h
  refine zr_iload_n (pc := 38) hC 1 rfl rfl dX10_settle_38 ?_
  refine zr_bipush (pc := 39) hC zkb_24 dX10_settle_39 ?_
  refine zr_icmp_ge (pc := 41) (tgt := 63) hC dX10_settle_41 (by decide) (fun c1 => ?_) (fun c1 => ?_)
  · replace h := zip h c1
    obtain rfl := Option.some.inj h
    exact zV.sub (lv' := []) [] rfl (hout0 w0 rfl)
  · replace h := zin h c1
    refine zr_iload_n (pc := 44) hC 1 rfl rfl dX10_settle_44 ?_
    refine zr_aload_n (pc := 45) hC 0 rfl rfl dX10_settle_45 ?_
    refine zcg_0_13 (pc := 46) hC hinX10_settle_X10 flX10_settle_54 dX10_settle_46 ?_
    refine zr_icmp_ge (pc := 49) (tgt := 63) hC dX10_settle_49 (by decide) (fun c2 => ?_) (fun c2 => ?_)
    · replace h := zip h c2
      obtain rfl := Option.some.inj h
      exact zV.sub (lv' := []) [] rfl (hout0 w0 rfl)
    · replace h := zin h c2
      refine zr_aload_n (pc := 52) hC 0 rfl rfl dX10_settle_52 ?_
      refine zr_iload_n (pc := 53) hC 1 rfl rfl dX10_settle_53 ?_
      obtain ⟨q3, hq3, h⟩ := zbd h
      refine zr_cVv (pc := 54) hC hEk [.int w1] [] 0 1 (fun l D => tX10_lookAhead hEk hq3 l D) gX10_settle_X10_lookAhead rfl rfl rfl ⟨Nat.le_of_ble_eq_true rfl, Nat.le_of_ble_eq_true rfl⟩ hyX10_lookAhead (zNC (by decide)) entC_0 rfl rfl rfl (Nat.le_of_ble_eq_true rfl) ⟨Nat.le_of_ble_eq_true rfl, Nat.le_of_ble_eq_true rfl⟩ dX10_settle_54 ?_
      refine zr_iinc (pc := 57) (k := 1) (lv' := [(1, .int (w1 + (1 : Int32))), (0, .ref (ad 0))]) hC zki_1 (by decide) rfl rfl dX10_settle_57 ?_
      refine zr_goto (pc := 60) (tgt := 38) hC dX10_settle_60 (by decide) ?_
      obtain rfl := Option.some.inj h
      exact zV.sub (lv' := [(0, .ref (ad 0)), (1, .int (w1 + (1 : Int32)))]) [1, 0] rfl (hin q3 (w1 + (1 : Int32)) rfl)
def xX10_settle (pT : zM)  : Option zM :=
  zlet (zsi pT 0 14 (0 : Int32)) fun M1 =>
  zlet (zsi M1 0 15 (1 : Int32)) fun M3 =>
  (x_it (fun a9 => xX10_settle_L13 a9.1 a9.2) zFU (M3, (23 : Int32))).bind fun q5 =>
  (x_it (fun a9 => xX10_settle_L38 a9.1 a9.2) zFU (q5, (1 : Int32))).bind fun q6 =>
  some q6
set_option maxHeartbeats 4000000 in
set_option maxRecDepth 100000 in
theorem tX10_settle {κ : Nat → ClassId} {tg : Nat} {S : zEn} {ad : Nat → Nat} (hEk : zEk (zE tg S)) {pT : zM} {pR : zM} {pX : zM} {pF : zM} {pB : zM} {pP : zP}  {res : zM} (h : xX10_settle pT  = some res) (l : Launch) (D : va_G) : zCT (zE tg S) D vwCl (zty κ) l yX10_settle wsX10_settle ({ frames := 3, cells := 0, slots := 0, locals := 77 } : Room) 0 0 [.ref (ad 0)] (zwC κ ad pT pR pX pF pB pP) (zPd none (zwC κ ad res pR pX pF pB pP)) := by
  refine zCT.of (cc := cX10_settle) (maxL := 2) (ret := none) (by decide) rfl (Nat.le_of_ble_eq_true rfl) ?_
  intro X hC hR
  unfold xX10_settle at h
  refine zV.sub (lv' := [(0, .ref (ad 0))]) [0] rfl ?_
  refine zr_aload_n (pc := 0) hC 0 rfl rfl dX10_settle_0 ?_
  refine zr_iconst (pc := 1) hC zki_0 dX10_settle_1 ?_
  obtain ⟨M1, e2, h⟩ := zle h
  refine zcp_0_14 (pc := 2) hC hinX10_settle_X10 flX10_settle_58 e2 dX10_settle_2 ?_
  refine zr_aload_n (pc := 5) hC 0 rfl rfl dX10_settle_5 ?_
  refine zr_iconst (pc := 6) hC zki_1 dX10_settle_6 ?_
  obtain ⟨M3, e4, h⟩ := zle h
  refine zcp_0_15 (pc := 7) hC hinX10_settle_X10 flX10_settle_61 (by decide) e4 dX10_settle_7 ?_
  refine zr_bipush (pc := 10) hC zkb_23 dX10_settle_10 ?_
  refine zr_istore_n (pc := 12) (lv' := [(1, .int (23 : Int32)), (0, .ref (ad 0))]) hC rfl (by decide) rfl dX10_settle_12 ?_
  obtain ⟨q5, hq5, h⟩ := zbd h
  refine zV.sub (lv' := [(0, .ref (ad 0)), (1, .int (23 : Int32))]) [1, 0] rfl ?_
  refine zit2 (Wp := fun (y0 : zM) (y1 : Int32) => zV X 0 0 (zwC κ ad y0 pR pX pF pB pP) [(0, .ref (ad 0)), (1, .int y1)] [] 13) (Ex := fun (b9 : zM) => zV X 0 0 (zwC κ ad b9 pR pX pF pB pP) [(0, .ref (ad 0))] [] 36) (fun y0 y1 r9 hr hin hout => tX10_settle_L13 hC hEk hin (fun z0 e9 => hout z0 e9) hr) zFU M3 (23 : Int32) q5 hq5 ?_
  show zV X 0 0 (zwC κ ad q5 pR pX pF pB pP) [(0, .ref (ad 0))] [] 36
  refine zr_iconst (pc := 36) hC zki_1 dX10_settle_36 ?_
  refine zr_istore_n (pc := 37) (lv' := [(1, .int (1 : Int32)), (0, .ref (ad 0))]) hC rfl (by decide) rfl dX10_settle_37 ?_
  obtain ⟨q6, hq6, h⟩ := zbd h
  refine zV.sub (lv' := [(0, .ref (ad 0)), (1, .int (1 : Int32))]) [1, 0] rfl ?_
  refine zit2 (Wp := fun (y0 : zM) (y1 : Int32) => zV X 0 0 (zwC κ ad y0 pR pX pF pB pP) [(0, .ref (ad 0)), (1, .int y1)] [] 38) (Ex := fun (b9 : zM) => zV X 0 0 (zwC κ ad b9 pR pX pF pB pP) [] [] 63) (fun y0 y1 r9 hr hin hout => tX10_settle_L38 hC hEk hin (fun z0 e9 => hout z0 e9) hr) zFU q5 (1 : Int32) q6 hq6 ?_
  show zV X 0 0 (zwC κ ad q6 pR pX pF pB pP) [] [] 63
  obtain rfl := Option.some.inj h
  exact zr_vret hC hR ⟨rfl, rfl⟩ (Nat.le_refl _) (Nat.le_refl _) dX10_settle_63
/-! X11_refuse -/
theorem hyX11_refuse : yX11_refuse.cls = RX11 ∧ yX11_refuse.cls ≠ "java/lang/invoke/MethodHandle" ∧ yX11_refuse.cls ≠ "java/lang/invoke/VarHandle" ∧ (parseMethodDescriptor yX11_refuse.desc).map (fun d => d.parameters.length) = some 1 := by decide +kernel
theorem flX11_refuse_31 : Cond.fieldLink RX11 31 "BeforeTheEnd" "refusals" "[I" ∈ wsX11_refuse := by decide +kernel
theorem hinX11_refuse_X11 : ∀ w ∈ wsX110, w ∈ wsX11_refuse := fun _ h => List.mem_cons_of_mem _ (List.mem_append_right _ h)
def xX11_refuse (pB : zM) (v1 : Int32) : Option (Int32 × zM) :=
  zlet (-v1) fun z1 =>
  if z1 < 0 then
  (some (v1, pB))
  else
  if (7 : Int32) ≤ z1 then
  (some (v1, pB))
  else
  if (z1 < 0 ∨ 7 ≤ z1.toNatClampNeg) then none else
  zlet (zsi pB 78 z1.toNatClampNeg ((pB.1 78 z1.toNatClampNeg) + (1 : Int32))) fun M6 =>
  some (v1, M6)
set_option maxHeartbeats 4000000 in
set_option maxRecDepth 100000 in
theorem tX11_refuse {κ : Nat → ClassId} {tg : Nat} {S : zEn} {ad : Nat → Nat} (hEk : zEk (zE tg S)) {pT : zM} {pR : zM} {pX : zM} {pF : zM} {pB : zM} {pP : zP} {v1 : Int32} {res : (Int32 × zM)} (h : xX11_refuse pB v1 = some res) (l : Launch) (D : va_G) : zCT (zE tg S) D vwCl (zty κ) l yX11_refuse wsX11_refuse ({ frames := 0, cells := 0, slots := 0, locals := 0 } : Room) 0 0 [.ref (ad 76), .int v1] (zwC κ ad pT pR pX pF pB pP) (zPd (some (.int res.1)) (zwC κ ad pT pR pX pF res.2 pP)) := by
  refine zCT.of (cc := cX11_refuse) (maxL := 3) (ret := (some .int)) (by decide) rfl (Nat.le_of_ble_eq_true rfl) ?_
  intro X hC hR
  unfold xX11_refuse at h
  refine zV.sub (lv' := [(0, .ref (ad 76)), (1, .int v1)]) [0, 1] rfl ?_
  refine zr_iload_n (pc := 0) hC 1 rfl rfl dX11_refuse_0 ?_
  refine zr_ineg (pc := 1) hC dX11_refuse_1 ?_
  obtain ⟨z1, e2, h⟩ := zle h
  refine zr_topi e2 ?_
  refine zr_istore_n (pc := 2) (lv' := [(2, .int z1), (0, .ref (ad 76)), (1, .int v1)]) hC rfl (by decide) rfl dX11_refuse_2 ?_
  refine zr_iload_n (pc := 3) hC 0 rfl rfl dX11_refuse_3 ?_
  refine zr_if_lt (pc := 4) (tgt := 26) hC dX11_refuse_4 (by decide) (fun c3 => ?_) (fun c3 => ?_)
  · replace h := zip h c3
    refine zr_iload_n (pc := 26) hC 2 rfl rfl dX11_refuse_26 ?_
    obtain rfl := Option.some.inj h
    exact zr_iret hC hR ⟨rfl, rfl⟩ (Nat.le_refl _) (Nat.le_refl _) dX11_refuse_27
  · replace h := zin h c3
    refine zr_iload_n (pc := 7) hC 0 rfl rfl dX11_refuse_7 ?_
    refine zr_aload_n (pc := 8) hC 1 rfl rfl dX11_refuse_8 ?_
    refine zcg_76_6 (pc := 9) hC hinX11_refuse_X11 flX11_refuse_31 dX11_refuse_9 ?_
    refine zca_78 (pc := 12) hC dX11_refuse_12 ?_
    refine zr_icmp_ge (pc := 13) (tgt := 26) hC dX11_refuse_13 (by decide) (fun c4 => ?_) (fun c4 => ?_)
    · replace h := zip h c4
      refine zr_iload_n (pc := 26) hC 2 rfl rfl dX11_refuse_26 ?_
      obtain rfl := Option.some.inj h
      exact zr_iret hC hR ⟨rfl, rfl⟩ (Nat.le_refl _) (Nat.le_refl _) dX11_refuse_27
    · replace h := zin h c4
      refine zr_aload_n (pc := 16) hC 1 rfl rfl dX11_refuse_16 ?_
      refine zcg_76_6 (pc := 17) hC hinX11_refuse_X11 flX11_refuse_31 dX11_refuse_17 ?_
      refine zr_iload_n (pc := 20) hC 0 rfl rfl dX11_refuse_20 ?_
      refine zr_dup2 (pc := 21) hC rfl rfl dX11_refuse_21 ?_
      obtain ⟨i5, h⟩ := zgd h
      refine zcl_78 (pc := 22) hC i5 dX11_refuse_22 ?_
      refine zr_iconst (pc := 23) hC zki_1 dX11_refuse_23 ?_
      refine zr_iadd (pc := 24) hC dX11_refuse_24 ?_
      obtain ⟨M6, e7, h⟩ := zle h
      refine zcs_78 (pc := 25) hC i5 e7 dX11_refuse_25 ?_
      refine zr_iload_n (pc := 26) hC 2 rfl rfl dX11_refuse_26 ?_
      obtain rfl := Option.some.inj h
      exact zr_iret hC hR ⟨rfl, rfl⟩ (Nat.le_refl _) (Nat.le_refl _) dX11_refuse_27
/-! X11_feed -/
theorem hyX11_feed : yX11_feed.cls = RX11 ∧ yX11_feed.cls ≠ "java/lang/invoke/MethodHandle" ∧ yX11_feed.cls ≠ "java/lang/invoke/VarHandle" ∧ (parseMethodDescriptor yX11_feed.desc).map (fun d => d.parameters.length) = some 2 := by decide +kernel
theorem flX11_feed_10 : Cond.fieldLink RX11 10 "BeforeTheEnd" "tape" "LBeforeTheEnd$Text;" ∈ wsX11_feed := by decide +kernel
theorem flX11_feed_80 : Jvm.Cond.constantLong RX11 80 (255) ∈ wsX11_feed := by decide +kernel
theorem hinX11_feed_X11 : ∀ w ∈ wsX110, w ∈ wsX11_feed := fun _ h => List.mem_cons_of_mem _ (List.mem_append_left _ (List.mem_append_right _ h))
theorem hinX11_feed_X8 : ∀ w ∈ wsX80, w ∈ wsX11_feed := fun _ h => List.mem_cons_of_mem _ (List.mem_append_right _ h)
def xX11_feed_L42 (pB : zM) (v1 : Int32) (v2 : Int64) (w0 : zM) (w1 : Int32) : Option ((zM × Int32) ⊕ zM) :=
  if v1 ≤ w1 then
  (some (.inr w0))
  else
  if (8 : Int32) ≤ w1 then
  (some (.inr w0))
  else
  (xX8_append w0 ((v2 >>> (((8 : Int32) * w1).toInt64 &&& 63)) &&& (255 : Int64)).toInt32).bind fun q3 =>
  some (.inl (q3, (w1 + (1 : Int32))))
set_option maxHeartbeats 4000000 in
set_option maxRecDepth 100000 in
theorem tX11_feed_L42 {κ : Nat → ClassId} {tg : Nat} {S : zEn} {ad : Nat → Nat} {X : zX} {pT : zM} {pR : zM} {pF : zM} {pP : zP} {pB : zM} {v1 : Int32} {v2 : Int64} {w0 : zM} {w1 : Int32} {r : ((zM × Int32) ⊕ zM)} (hC : zC X cX11_feed RX11 wsX11_feed vwCl (zty κ) (zE tg S) 5 ({ frames := 1, cells := 0, slots := 0, locals := 22 } : Room)) (hEk : zEk (zE tg S)) (hin : ∀ (x0' : zM) (x1' : Int32), r = .inl (x0', x1') → zV X 0 0 (zwC κ ad pT pR x0' pF pB pP) [(0, .ref (ad 76)), (1, .int v1), (2, .long v2), (4, .int x1')] [] 42) (hout0 : ∀ (x0' : zM), r = .inr x0' → zV X 0 0 (zwC κ ad pT pR x0' pF pB pP) [(0, .ref (ad 76))] [] 80) (h : xX11_feed_L42 pB v1 v2 w0 w1 = some r) : zV X 0 0 (zwC κ ad pT pR w0 pF pB pP) [(0, .ref (ad 76)), (1, .int v1), (2, .long v2), (4, .int w1)] [] 42 := by
  unfold xX11_feed_L42 at h
  refine zr_iload (pc := 42) hC 3 rfl dX11_feed_42 ?_
  refine zr_iload_n (pc := 44) hC 1 rfl rfl dX11_feed_44 ?_
  refine zr_icmp_ge (pc := 45) (tgt := 80) hC dX11_feed_45 (by decide) (fun c1 => ?_) (fun c1 => ?_)
  · replace h := zip h c1
    obtain rfl := Option.some.inj h
    exact zV.sub (lv' := [(0, .ref (ad 76))]) [0] rfl (hout0 w0 rfl)
  · replace h := zin h c1
    refine zr_iload (pc := 48) hC 3 rfl dX11_feed_48 ?_
    refine zr_bipush (pc := 50) hC zkb_8 dX11_feed_50 ?_
    refine zr_icmp_ge (pc := 52) (tgt := 80) hC dX11_feed_52 (by decide) (fun c2 => ?_) (fun c2 => ?_)
    · replace h := zip h c2
      obtain rfl := Option.some.inj h
      exact zV.sub (lv' := [(0, .ref (ad 76))]) [0] rfl (hout0 w0 rfl)
    · replace h := zin h c2
      refine zr_aload_n (pc := 55) hC 0 rfl rfl dX11_feed_55 ?_
      refine zcg_76_2 (pc := 56) hC hinX11_feed_X11 flX11_feed_10 dX11_feed_56 ?_
      refine zr_lload_n (pc := 59) hC 2 rfl rfl dX11_feed_59 ?_
      refine zr_bipush (pc := 60) hC zkb_8 dX11_feed_60 ?_
      refine zr_iload (pc := 62) hC 3 rfl dX11_feed_62 ?_
      refine zr_imul (pc := 64) hC dX11_feed_64 ?_
      refine zr_lshr (pc := 65) hC dX11_feed_65 ?_
      refine zr_ldc2 (pc := 66) hC flX11_feed_80 dX11_feed_66 ?_
      refine zr_land (pc := 69) hC dX11_feed_69 ?_
      refine zr_l2i (pc := 70) hC dX11_feed_70 ?_
      obtain ⟨q3, hq3, h⟩ := zbd h
      refine zr_cVv (pc := 71) hC hEk [.int ((v2 >>> (((8 : Int32) * w1).toInt64 &&& 63)) &&& (255 : Int64)).toInt32] [] 70 1 (fun l D => tX8_append hEk hq3 l D) gX11_feed_X8_append rfl rfl rfl ⟨Nat.le_of_ble_eq_true rfl, Nat.le_of_ble_eq_true rfl⟩ hyX8_append (zNC (by decide)) entC_70 rfl rfl rfl (Nat.le_of_ble_eq_true rfl) ⟨Nat.le_of_ble_eq_true rfl, Nat.le_of_ble_eq_true rfl⟩ dX11_feed_71 ?_
      refine zr_iinc (pc := 74) (k := 3) (lv' := [(4, .int (w1 + (1 : Int32))), (0, .ref (ad 76)), (1, .int v1), (2, .long v2)]) hC zki_1 (by decide) rfl rfl dX11_feed_74 ?_
      refine zr_goto (pc := 77) (tgt := 42) hC dX11_feed_77 (by decide) ?_
      obtain rfl := Option.some.inj h
      exact zV.sub (lv' := [(0, .ref (ad 76)), (1, .int v1), (2, .long v2), (4, .int (w1 + (1 : Int32)))]) [1, 2, 3, 0] rfl (hin q3 (w1 + (1 : Int32)) rfl)
def xX11_feed (pX : zM) (pB : zM) (v1 : Int32) (v2 : Int64) : Option (Int32 × zM × zM) :=
  if (1 : Int32) ≤ v1 then
  (if (8 : Int32) < v1 then
  ((xX11_refuse pB (-6 : Int32)).bind fun q3 =>
  some (q3.1, pX, q3.2))
  else
  (xX8_size pX).bind fun q4 =>
  if (q4 + v1) ≤ (64 : Int32) then
  ((x_it (fun a9 => xX11_feed_L42 pB v1 v2 a9.1 a9.2) zFU (pX, (0 : Int32))).bind fun q6 =>
  (xX8_size q6).bind fun q7 =>
  some (q7, q6, pB))
  else
  (xX11_refuse pB (-6 : Int32)).bind fun q8 =>
  some (q8.1, pX, q8.2))
  else
  (xX11_refuse pB (-4 : Int32)).bind fun q9 =>
  some (q9.1, pX, q9.2)
set_option maxHeartbeats 4000000 in
set_option maxRecDepth 100000 in
theorem tX11_feed {κ : Nat → ClassId} {tg : Nat} {S : zEn} {ad : Nat → Nat} (hEk : zEk (zE tg S)) {pT : zM} {pR : zM} {pX : zM} {pF : zM} {pB : zM} {pP : zP} {v1 : Int32} {v2 : Int64} {res : (Int32 × zM × zM)} (h : xX11_feed pX pB v1 v2 = some res) (l : Launch) (D : va_G) : zCT (zE tg S) D vwCl (zty κ) l yX11_feed wsX11_feed ({ frames := 1, cells := 0, slots := 0, locals := 22 } : Room) 0 0 [.ref (ad 76), .int v1, .long v2] (zwC κ ad pT pR pX pF pB pP) (zPd (some (.int res.1)) (zwC κ ad pT pR res.2.1 pF res.2.2 pP)) := by
  refine zCT.of (cc := cX11_feed) (maxL := 5) (ret := (some .int)) (by decide) rfl (Nat.le_of_ble_eq_true rfl) ?_
  intro X hC hR
  unfold xX11_feed at h
  refine zV.sub (lv' := [(0, .ref (ad 76)), (1, .int v1), (2, .long v2)]) [0, 1, 2] rfl ?_
  refine zr_iload_n (pc := 0) hC 1 rfl rfl dX11_feed_0 ?_
  refine zr_iconst (pc := 1) hC zki_1 dX11_feed_1 ?_
  refine zr_icmp_ge (pc := 2) (tgt := 12) hC dX11_feed_2 (by decide) (fun c1 => ?_) (fun c1 => ?_)
  · replace h := zip h c1
    refine zr_iload_n (pc := 12) hC 1 rfl rfl dX11_feed_12 ?_
    refine zr_bipush (pc := 13) hC zkb_8 dX11_feed_13 ?_
    refine zr_icmp_gt (pc := 15) (tgt := 32) hC dX11_feed_15 (by decide) (fun c2 => ?_) (fun c2 => ?_)
    · replace h := zip h c2
      refine zr_aload_n (pc := 32) hC 0 rfl rfl dX11_feed_32 ?_
      refine zr_bipush (pc := 33) hC zkb_m6 dX11_feed_33 ?_
      obtain ⟨q3, hq3, h⟩ := zbd h
      refine zr_cVi (pc := 35) hC hEk [.int (-6 : Int32)] [] 76 1 (fun l D => tX11_refuse hEk hq3 l D) gX11_feed_X11_refuse rfl rfl rfl ⟨Nat.le_of_ble_eq_true rfl, Nat.le_of_ble_eq_true rfl⟩ hyX11_refuse (zNC (by decide)) entC_76 rfl rfl rfl (Nat.le_of_ble_eq_true rfl) ⟨Nat.le_of_ble_eq_true rfl, Nat.le_of_ble_eq_true rfl⟩ dX11_feed_35 ?_
      obtain rfl := Option.some.inj h
      exact zr_iret hC hR ⟨rfl, rfl⟩ (Nat.le_refl _) (Nat.le_refl _) dX11_feed_38
    · replace h := zin h c2
      refine zr_aload_n (pc := 18) hC 0 rfl rfl dX11_feed_18 ?_
      refine zcg_76_2 (pc := 19) hC hinX11_feed_X11 flX11_feed_10 dX11_feed_19 ?_
      obtain ⟨q4, hq4, h⟩ := zbd h
      refine zr_cVi (pc := 22) hC hEk [] [] 70 0 (fun l D => tX8_size hEk hq4 l D) gX11_feed_X8_size rfl rfl rfl ⟨Nat.le_of_ble_eq_true rfl, Nat.le_of_ble_eq_true rfl⟩ hyX8_size (zNC (by decide)) entC_70 rfl rfl rfl (Nat.le_of_ble_eq_true rfl) ⟨Nat.le_of_ble_eq_true rfl, Nat.le_of_ble_eq_true rfl⟩ dX11_feed_22 ?_
      refine zr_iload_n (pc := 25) hC 1 rfl rfl dX11_feed_25 ?_
      refine zr_iadd (pc := 26) hC dX11_feed_26 ?_
      refine zr_bipush (pc := 27) hC zkb_64 dX11_feed_27 ?_
      refine zr_icmp_le (pc := 29) (tgt := 39) hC dX11_feed_29 (by decide) (fun c5 => ?_) (fun c5 => ?_)
      · replace h := zip h c5
        refine zr_iconst (pc := 39) hC zki_0 dX11_feed_39 ?_
        refine zr_istore (pc := 40) (lv' := [(4, .int (0 : Int32)), (0, .ref (ad 76)), (1, .int v1), (2, .long v2)]) hC (by decide) rfl dX11_feed_40 ?_
        obtain ⟨q6, hq6, h⟩ := zbd h
        refine zV.sub (lv' := [(0, .ref (ad 76)), (1, .int v1), (2, .long v2), (4, .int (0 : Int32))]) [1, 2, 3, 0] rfl ?_
        refine zit2 (Wp := fun (y0 : zM) (y1 : Int32) => zV X 0 0 (zwC κ ad pT pR y0 pF pB pP) [(0, .ref (ad 76)), (1, .int v1), (2, .long v2), (4, .int y1)] [] 42) (Ex := fun (b9 : zM) => zV X 0 0 (zwC κ ad pT pR b9 pF pB pP) [(0, .ref (ad 76))] [] 80) (fun y0 y1 r9 hr hin hout => tX11_feed_L42 hC hEk hin (fun z0 e9 => hout z0 e9) hr) zFU pX (0 : Int32) q6 hq6 ?_
        show zV X 0 0 (zwC κ ad pT pR q6 pF pB pP) [(0, .ref (ad 76))] [] 80
        refine zr_aload_n (pc := 80) hC 0 rfl rfl dX11_feed_80 ?_
        refine zcg_76_2 (pc := 81) hC hinX11_feed_X11 flX11_feed_10 dX11_feed_81 ?_
        obtain ⟨q7, hq7, h⟩ := zbd h
        refine zr_cVi (pc := 84) hC hEk [] [] 70 0 (fun l D => tX8_size hEk hq7 l D) gX11_feed_X8_size rfl rfl rfl ⟨Nat.le_of_ble_eq_true rfl, Nat.le_of_ble_eq_true rfl⟩ hyX8_size (zNC (by decide)) entC_70 rfl rfl rfl (Nat.le_of_ble_eq_true rfl) ⟨Nat.le_of_ble_eq_true rfl, Nat.le_of_ble_eq_true rfl⟩ dX11_feed_84 ?_
        obtain rfl := Option.some.inj h
        exact zr_iret hC hR ⟨rfl, rfl⟩ (Nat.le_refl _) (Nat.le_refl _) dX11_feed_87
      · replace h := zin h c5
        refine zr_aload_n (pc := 32) hC 0 rfl rfl dX11_feed_32 ?_
        refine zr_bipush (pc := 33) hC zkb_m6 dX11_feed_33 ?_
        obtain ⟨q8, hq8, h⟩ := zbd h
        refine zr_cVi (pc := 35) hC hEk [.int (-6 : Int32)] [] 76 1 (fun l D => tX11_refuse hEk hq8 l D) gX11_feed_X11_refuse rfl rfl rfl ⟨Nat.le_of_ble_eq_true rfl, Nat.le_of_ble_eq_true rfl⟩ hyX11_refuse (zNC (by decide)) entC_76 rfl rfl rfl (Nat.le_of_ble_eq_true rfl) ⟨Nat.le_of_ble_eq_true rfl, Nat.le_of_ble_eq_true rfl⟩ dX11_feed_35 ?_
        obtain rfl := Option.some.inj h
        exact zr_iret hC hR ⟨rfl, rfl⟩ (Nat.le_refl _) (Nat.le_refl _) dX11_feed_38
  · replace h := zin h c1
    refine zr_aload_n (pc := 5) hC 0 rfl rfl dX11_feed_5 ?_
    refine zr_bipush (pc := 6) hC zkb_m4 dX11_feed_6 ?_
    obtain ⟨q9, hq9, h⟩ := zbd h
    refine zr_cVi (pc := 8) hC hEk [.int (-4 : Int32)] [] 76 1 (fun l D => tX11_refuse hEk hq9 l D) gX11_feed_X11_refuse rfl rfl rfl ⟨Nat.le_of_ble_eq_true rfl, Nat.le_of_ble_eq_true rfl⟩ hyX11_refuse (zNC (by decide)) entC_76 rfl rfl rfl (Nat.le_of_ble_eq_true rfl) ⟨Nat.le_of_ble_eq_true rfl, Nat.le_of_ble_eq_true rfl⟩ dX11_feed_8 ?_
    obtain rfl := Option.some.inj h
    exact zr_iret hC hR ⟨rfl, rfl⟩ (Nat.le_refl _) (Nat.le_refl _) dX11_feed_11
/-! X11_quiz -/
theorem hyX11_quiz : yX11_quiz.cls = RX11 ∧ yX11_quiz.cls ≠ "java/lang/invoke/MethodHandle" ∧ yX11_quiz.cls ≠ "java/lang/invoke/VarHandle" ∧ (parseMethodDescriptor yX11_quiz.desc).map (fun d => d.parameters.length) = some 0 := by decide +kernel
theorem flX11_quiz_10 : Cond.fieldLink RX11 10 "BeforeTheEnd" "tape" "LBeforeTheEnd$Text;" ∈ wsX11_quiz := by decide +kernel
theorem flX11_quiz_59 : Cond.fieldLink RX11 59 "BeforeTheEnd" "tree" "LBeforeTheEnd$Tree;" ∈ wsX11_quiz := by decide +kernel
theorem flX11_quiz_68 : Cond.fieldLink RX11 68 "BeforeTheEnd" "race" "LBeforeTheEnd$Race;" ∈ wsX11_quiz := by decide +kernel
theorem hinX11_quiz_X11 : ∀ w ∈ wsX110, w ∈ wsX11_quiz := fun _ h => List.mem_cons_of_mem _ (List.mem_append_left _ (List.mem_append_left _ (List.mem_append_left _ (List.mem_append_left _ (List.mem_append_left _ (List.mem_append_left _ (List.mem_append_left _ (List.mem_append_left _ (List.mem_append_left _ (List.mem_append_right _ h))))))))))
theorem hinX11_quiz_X8 : ∀ w ∈ wsX80, w ∈ wsX11_quiz := fun _ h => List.mem_cons_of_mem _ (List.mem_append_left _ (List.mem_append_left _ (List.mem_append_left _ (List.mem_append_left _ (List.mem_append_left _ (List.mem_append_left _ (List.mem_append_left _ (List.mem_append_left _ (List.mem_append_right _ h)))))))))
theorem hinX11_quiz_X10 : ∀ w ∈ wsX100, w ∈ wsX11_quiz := fun _ h => List.mem_cons_of_mem _ (List.mem_append_left _ (List.mem_append_left _ (List.mem_append_left _ (List.mem_append_left _ (List.mem_append_left _ (List.mem_append_left _ (List.mem_append_left _ (List.mem_append_right _ h))))))))
theorem hinX11_quiz_X6 : ∀ w ∈ wsX60, w ∈ wsX11_quiz := fun _ h => List.mem_cons_of_mem _ (List.mem_append_left _ (List.mem_append_left _ (List.mem_append_left _ (List.mem_append_left _ (List.mem_append_left _ (List.mem_append_left _ (List.mem_append_right _ h)))))))
theorem hinX11_quiz_X2 : ∀ w ∈ wsX20, w ∈ wsX11_quiz := fun _ h => List.mem_cons_of_mem _ (List.mem_append_left _ (List.mem_append_left _ (List.mem_append_left _ (List.mem_append_left _ (List.mem_append_left _ (List.mem_append_right _ h))))))
theorem hinX11_quiz_X7 : ∀ w ∈ wsX70, w ∈ wsX11_quiz := fun _ h => List.mem_cons_of_mem _ (List.mem_append_left _ (List.mem_append_left _ (List.mem_append_left _ (List.mem_append_left _ (List.mem_append_right _ h)))))
theorem hinX11_quiz_X1 : ∀ w ∈ wsX10, w ∈ wsX11_quiz := fun _ h => List.mem_cons_of_mem _ (List.mem_append_left _ (List.mem_append_left _ (List.mem_append_left _ (List.mem_append_right _ h))))
theorem hinX11_quiz_X4 : ∀ w ∈ wsX40, w ∈ wsX11_quiz := fun _ h => List.mem_cons_of_mem _ (List.mem_append_left _ (List.mem_append_left _ (List.mem_append_right _ h)))
theorem hinX11_quiz_X9 : ∀ w ∈ wsX90, w ∈ wsX11_quiz := fun _ h => List.mem_cons_of_mem _ (List.mem_append_left _ (List.mem_append_right _ h))
theorem hinX11_quiz_X0 : ∀ w ∈ wsX00, w ∈ wsX11_quiz := fun _ h => List.mem_cons_of_mem _ (List.mem_append_right _ h)
noncomputable def xX11_quiz (pT : zM) (pR : zM) (pX : zM) (pP : zP)  : Option (Int32 × zM × zM × zM × zP) :=
  (xX8_takeQuiz pT pR pX pP).bind fun q1 =>
  (xX8_clear q1.2.2.2.1).bind fun q2 =>
  (xX10_settle q1.2.1).bind fun q3 =>
  some (q1.1, q3, q1.2.2.1, q2, q1.2.2.2.2)
set_option maxHeartbeats 4000000 in
set_option maxRecDepth 100000 in
theorem tX11_quiz {κ : Nat → ClassId} {tg : Nat} {adK adV : Nat → Nat} {ad : Nat → Nat} (hEk : zEk (zE tg (zS adK adV))) {pT : zM} {pR : zM} {pX : zM} {pF : zM} {pB : zM} {pP : zP}  {res : (Int32 × zM × zM × zM × zP)} (h : xX11_quiz pT pR pX pP  = some res) (l : Launch) (D : va_G) : zCT (zE tg (zS adK adV)) D vwCl (zty κ) l yX11_quiz wsX11_quiz ({ frames := 9, cells := 64, slots := 256, locals := 201 } : Room) 64 256 [.ref (ad 76)] (zwC κ ad pT pR pX pF pB pP) (fun rv w => ∃ ad', (∀ j, j < 81 + pP.2.2.2 → ad' j = ad j) ∧ rv = some (.int res.1) ∧ w = (zwC κ ad' res.2.1 res.2.2.1 res.2.2.2.1 pF pB res.2.2.2.2)) := by
  refine zCT.of (cc := cX11_quiz) (maxL := 2) (ret := (some .int)) (by decide) rfl (Nat.le_of_ble_eq_true rfl) ?_
  intro X hC hR
  unfold xX11_quiz at h
  refine zV.sub (lv' := [(0, .ref (ad 76))]) [0] rfl ?_
  refine zr_aload_n (pc := 0) hC 0 rfl rfl dX11_quiz_0 ?_
  refine zcg_76_2 (pc := 1) hC hinX11_quiz_X11 flX11_quiz_10 dX11_quiz_1 ?_
  refine zr_aload_n (pc := 4) hC 0 rfl rfl dX11_quiz_4 ?_
  refine zcg_76_0 (pc := 5) hC hinX11_quiz_X11 flX11_quiz_59 dX11_quiz_5 ?_
  refine zr_aload_n (pc := 8) hC 0 rfl rfl dX11_quiz_8 ?_
  refine zcg_76_1 (pc := 9) hC hinX11_quiz_X11 flX11_quiz_68 dX11_quiz_9 ?_
  obtain ⟨q1, hq1, h⟩ := zbd h
  refine zr_callV (pc := 12) hC hEk [.ref (ad 0), .ref (ad 62)] [] 70 2 (fun l D => tX8_takeQuiz hEk hq1 l D) gX11_quiz_X8_takeQuiz rfl rfl rfl ⟨Nat.le_of_ble_eq_true rfl, Nat.le_of_ble_eq_true rfl⟩ hyX8_takeQuiz (zNC (by decide)) entC_70 rfl rfl rfl (Nat.le_of_ble_eq_true rfl) ⟨Nat.le_of_ble_eq_true rfl, Nat.le_of_ble_eq_true rfl⟩ dX11_quiz_12 (fun rv w1 hpo => ?_)
  obtain ⟨ad2, hag, rfl, rfl⟩ := hpo
  rw [← hag 76 (zNC (by decide))]
  show zV X 64 256 (zwC κ ad2 q1.2.1 q1.2.2.1 q1.2.2.2.1 pF pB q1.2.2.2.2) [(0, .ref (ad2 76))] [.int q1.1] 15
  refine zr_istore_n (pc := 15) (lv' := [(1, .int q1.1), (0, .ref (ad2 76))]) hC rfl (by decide) rfl dX11_quiz_15 ?_
  refine zr_aload_n (pc := 16) hC 1 rfl rfl dX11_quiz_16 ?_
  refine zcg_76_2 (pc := 17) hC hinX11_quiz_X11 flX11_quiz_10 dX11_quiz_17 ?_
  obtain ⟨q2, hq2, h⟩ := zbd h
  refine zr_cVv (pc := 20) hC hEk [] [] 70 0 (fun l D => tX8_clear hEk hq2 l D) gX11_quiz_X8_clear rfl rfl rfl ⟨Nat.le_of_ble_eq_true rfl, Nat.le_of_ble_eq_true rfl⟩ hyX8_clear (zNC (by decide)) entC_70 rfl rfl rfl (Nat.le_of_ble_eq_true rfl) ⟨Nat.le_of_ble_eq_true rfl, Nat.le_of_ble_eq_true rfl⟩ dX11_quiz_20 ?_
  refine zr_aload_n (pc := 23) hC 1 rfl rfl dX11_quiz_23 ?_
  refine zcg_76_0 (pc := 24) hC hinX11_quiz_X11 flX11_quiz_59 dX11_quiz_24 ?_
  obtain ⟨q3, hq3, h⟩ := zbd h
  refine zr_cVv (pc := 27) hC hEk [] [] 0 0 (fun l D => tX10_settle hEk hq3 l D) gX11_quiz_X10_settle rfl rfl rfl ⟨Nat.le_of_ble_eq_true rfl, Nat.le_of_ble_eq_true rfl⟩ hyX10_settle (zNC (by decide)) entC_0 rfl rfl rfl (Nat.le_of_ble_eq_true rfl) ⟨Nat.le_of_ble_eq_true rfl, Nat.le_of_ble_eq_true rfl⟩ dX11_quiz_27 ?_
  refine zr_iload_n (pc := 30) hC 0 rfl rfl dX11_quiz_30 ?_
  obtain rfl := Option.some.inj h
  exact zr_iret hC hR ⟨ad2, hag, rfl, rfl⟩ (Nat.le_of_ble_eq_true rfl) (Nat.le_of_ble_eq_true rfl) dX11_quiz_31
/-! X11_word -/
theorem hyX11_word : yX11_word.cls = RX11 ∧ yX11_word.cls ≠ "java/lang/invoke/MethodHandle" ∧ yX11_word.cls ≠ "java/lang/invoke/VarHandle" ∧ (parseMethodDescriptor yX11_word.desc).map (fun d => d.parameters.length) = some 2 := by decide +kernel
theorem flX11_word_59 : Cond.fieldLink RX11 59 "BeforeTheEnd" "tree" "LBeforeTheEnd$Tree;" ∈ wsX11_word := by decide +kernel
theorem hinX11_word_X11 : ∀ w ∈ wsX110, w ∈ wsX11_word := fun _ h => List.mem_cons_of_mem _ (List.mem_append_left _ (List.mem_append_right _ h))
theorem hinX11_word_X10 : ∀ w ∈ wsX100, w ∈ wsX11_word := fun _ h => List.mem_cons_of_mem _ (List.mem_append_right _ h)
def xX11_word (pT : zM) (pB : zM) (v1 : Int32) (v2 : Int32) : Option (Int32 × zM) :=
  (xX10_has pT v1).bind fun q1 =>
  if q1 = 0 then
  ((xX11_refuse pB (-1 : Int32)).bind fun q14 =>
  some (q14.1, q14.2))
  else
  if v2 = (0 : Int32) then
  ((xX10_parentOf pT v1).bind fun q4 =>
  some (q4, pB))
  else
  if v2 = (1 : Int32) then
  ((xX10_weightOf pT v1).bind fun q6 =>
  some (q6, pB))
  else
  if v2 = (2 : Int32) then
  ((xX10_answerOf pT v1).bind fun q8 =>
  some (q8, pB))
  else
  if v2 = (3 : Int32) then
  ((xX10_lengthOf pT v1).bind fun q10 =>
  some (q10, pB))
  else
  if v2 = (4 : Int32) then
  ((xX10_nextsOf pT v1).bind fun q12 =>
  some (q12, pB))
  else
  (xX11_refuse pB (-2 : Int32)).bind fun q13 =>
  some (q13.1, q13.2)
set_option maxHeartbeats 4000000 in
set_option maxRecDepth 100000 in
theorem tX11_word {κ : Nat → ClassId} {tg : Nat} {S : zEn} {ad : Nat → Nat} (hEk : zEk (zE tg S)) {pT : zM} {pR : zM} {pX : zM} {pF : zM} {pB : zM} {pP : zP} {v1 : Int32} {v2 : Int32} {res : (Int32 × zM)} (h : xX11_word pT pB v1 v2 = some res) (l : Launch) (D : va_G) : zCT (zE tg S) D vwCl (zty κ) l yX11_word wsX11_word ({ frames := 2, cells := 0, slots := 0, locals := 42 } : Room) 0 0 [.ref (ad 76), .int v1, .int v2] (zwC κ ad pT pR pX pF pB pP) (zPd (some (.int res.1)) (zwC κ ad pT pR pX pF res.2 pP)) := by
  refine zCT.of (cc := cX11_word) (maxL := 3) (ret := (some .int)) (by decide) rfl (Nat.le_of_ble_eq_true rfl) ?_
  intro X hC hR
  unfold xX11_word at h
  refine zV.sub (lv' := [(0, .ref (ad 76)), (1, .int v1), (2, .int v2)]) [0, 1, 2] rfl ?_
  refine zr_aload_n (pc := 0) hC 0 rfl rfl dX11_word_0 ?_
  refine zcg_76_0 (pc := 1) hC hinX11_word_X11 flX11_word_59 dX11_word_1 ?_
  refine zr_iload_n (pc := 4) hC 1 rfl rfl dX11_word_4 ?_
  obtain ⟨q1, hq1, h⟩ := zbd h
  refine zr_cVi (pc := 5) hC hEk [.int v1] [] 0 1 (fun l D => tX10_has hEk hq1 l D) gX11_word_X10_has rfl rfl rfl ⟨Nat.le_of_ble_eq_true rfl, Nat.le_of_ble_eq_true rfl⟩ hyX10_has (zNC (by decide)) entC_0 rfl rfl rfl (Nat.le_of_ble_eq_true rfl) ⟨Nat.le_of_ble_eq_true rfl, Nat.le_of_ble_eq_true rfl⟩ dX11_word_5 ?_
  refine zr_if_ne (pc := 8) (tgt := 17) hC dX11_word_8 (by decide) (fun c2 => ?_) (fun c2 => ?_)
  · replace h := zin h c2
    refine zr_iload_n (pc := 17) hC 2 rfl rfl dX11_word_17 ?_
    by_cases c3 : v2 = (0 : Int32)
    · replace h := zip h c3
      refine zr_tabIn (pc := 18) (off := 34) (tgt := 52) hC dX11_word_18 (by rw [c3]; decide) (by rw [c3]; decide) (by rw [c3]; decide) (by decide) ?_
      refine zr_aload_n (pc := 52) hC 0 rfl rfl dX11_word_52 ?_
      refine zcg_76_0 (pc := 53) hC hinX11_word_X11 flX11_word_59 dX11_word_53 ?_
      refine zr_iload_n (pc := 56) hC 1 rfl rfl dX11_word_56 ?_
      obtain ⟨q4, hq4, h⟩ := zbd h
      refine zr_cVi (pc := 57) hC hEk [.int v1] [] 0 1 (fun l D => tX10_parentOf hEk hq4 l D) gX11_word_X10_parentOf rfl rfl rfl ⟨Nat.le_of_ble_eq_true rfl, Nat.le_of_ble_eq_true rfl⟩ hyX10_parentOf (zNC (by decide)) entC_0 rfl rfl rfl (Nat.le_of_ble_eq_true rfl) ⟨Nat.le_of_ble_eq_true rfl, Nat.le_of_ble_eq_true rfl⟩ dX11_word_57 ?_
      obtain rfl := Option.some.inj h
      exact zr_iret hC hR ⟨rfl, rfl⟩ (Nat.le_refl _) (Nat.le_refl _) dX11_word_60
    · replace h := zin h c3
      by_cases c5 : v2 = (1 : Int32)
      · replace h := zip h c5
        refine zr_tabIn (pc := 18) (off := 43) (tgt := 61) hC dX11_word_18 (by rw [c5]; decide) (by rw [c5]; decide) (by rw [c5]; decide) (by decide) ?_
        refine zr_aload_n (pc := 61) hC 0 rfl rfl dX11_word_61 ?_
        refine zcg_76_0 (pc := 62) hC hinX11_word_X11 flX11_word_59 dX11_word_62 ?_
        refine zr_iload_n (pc := 65) hC 1 rfl rfl dX11_word_65 ?_
        obtain ⟨q6, hq6, h⟩ := zbd h
        refine zr_cVi (pc := 66) hC hEk [.int v1] [] 0 1 (fun l D => tX10_weightOf hEk hq6 l D) gX11_word_X10_weightOf rfl rfl rfl ⟨Nat.le_of_ble_eq_true rfl, Nat.le_of_ble_eq_true rfl⟩ hyX10_weightOf (zNC (by decide)) entC_0 rfl rfl rfl (Nat.le_of_ble_eq_true rfl) ⟨Nat.le_of_ble_eq_true rfl, Nat.le_of_ble_eq_true rfl⟩ dX11_word_66 ?_
        obtain rfl := Option.some.inj h
        exact zr_iret hC hR ⟨rfl, rfl⟩ (Nat.le_refl _) (Nat.le_refl _) dX11_word_69
      · replace h := zin h c5
        by_cases c7 : v2 = (2 : Int32)
        · replace h := zip h c7
          refine zr_tabIn (pc := 18) (off := 52) (tgt := 70) hC dX11_word_18 (by rw [c7]; decide) (by rw [c7]; decide) (by rw [c7]; decide) (by decide) ?_
          refine zr_aload_n (pc := 70) hC 0 rfl rfl dX11_word_70 ?_
          refine zcg_76_0 (pc := 71) hC hinX11_word_X11 flX11_word_59 dX11_word_71 ?_
          refine zr_iload_n (pc := 74) hC 1 rfl rfl dX11_word_74 ?_
          obtain ⟨q8, hq8, h⟩ := zbd h
          refine zr_cVi (pc := 75) hC hEk [.int v1] [] 0 1 (fun l D => tX10_answerOf hEk hq8 l D) gX11_word_X10_answerOf rfl rfl rfl ⟨Nat.le_of_ble_eq_true rfl, Nat.le_of_ble_eq_true rfl⟩ hyX10_answerOf (zNC (by decide)) entC_0 rfl rfl rfl (Nat.le_of_ble_eq_true rfl) ⟨Nat.le_of_ble_eq_true rfl, Nat.le_of_ble_eq_true rfl⟩ dX11_word_75 ?_
          obtain rfl := Option.some.inj h
          exact zr_iret hC hR ⟨rfl, rfl⟩ (Nat.le_refl _) (Nat.le_refl _) dX11_word_78
        · replace h := zin h c7
          by_cases c9 : v2 = (3 : Int32)
          · replace h := zip h c9
            refine zr_tabIn (pc := 18) (off := 61) (tgt := 79) hC dX11_word_18 (by rw [c9]; decide) (by rw [c9]; decide) (by rw [c9]; decide) (by decide) ?_
            refine zr_aload_n (pc := 79) hC 0 rfl rfl dX11_word_79 ?_
            refine zcg_76_0 (pc := 80) hC hinX11_word_X11 flX11_word_59 dX11_word_80 ?_
            refine zr_iload_n (pc := 83) hC 1 rfl rfl dX11_word_83 ?_
            obtain ⟨q10, hq10, h⟩ := zbd h
            refine zr_cVi (pc := 84) hC hEk [.int v1] [] 0 1 (fun l D => tX10_lengthOf hEk hq10 l D) gX11_word_X10_lengthOf rfl rfl rfl ⟨Nat.le_of_ble_eq_true rfl, Nat.le_of_ble_eq_true rfl⟩ hyX10_lengthOf (zNC (by decide)) entC_0 rfl rfl rfl (Nat.le_of_ble_eq_true rfl) ⟨Nat.le_of_ble_eq_true rfl, Nat.le_of_ble_eq_true rfl⟩ dX11_word_84 ?_
            obtain rfl := Option.some.inj h
            exact zr_iret hC hR ⟨rfl, rfl⟩ (Nat.le_refl _) (Nat.le_refl _) dX11_word_87
          · replace h := zin h c9
            by_cases c11 : v2 = (4 : Int32)
            · replace h := zip h c11
              refine zr_tabIn (pc := 18) (off := 70) (tgt := 88) hC dX11_word_18 (by rw [c11]; decide) (by rw [c11]; decide) (by rw [c11]; decide) (by decide) ?_
              refine zr_aload_n (pc := 88) hC 0 rfl rfl dX11_word_88 ?_
              refine zcg_76_0 (pc := 89) hC hinX11_word_X11 flX11_word_59 dX11_word_89 ?_
              refine zr_iload_n (pc := 92) hC 1 rfl rfl dX11_word_92 ?_
              obtain ⟨q12, hq12, h⟩ := zbd h
              refine zr_cVi (pc := 93) hC hEk [.int v1] [] 0 1 (fun l D => tX10_nextsOf hEk hq12 l D) gX11_word_X10_nextsOf rfl rfl rfl ⟨Nat.le_of_ble_eq_true rfl, Nat.le_of_ble_eq_true rfl⟩ hyX10_nextsOf (zNC (by decide)) entC_0 rfl rfl rfl (Nat.le_of_ble_eq_true rfl) ⟨Nat.le_of_ble_eq_true rfl, Nat.le_of_ble_eq_true rfl⟩ dX11_word_93 ?_
              obtain rfl := Option.some.inj h
              exact zr_iret hC hR ⟨rfl, rfl⟩ (Nat.le_refl _) (Nat.le_refl _) dX11_word_96
            · replace h := zin h c11
              refine zr_tabOut (pc := 18) (tgt := 97) hC dX11_word_18 (zsw_out_0_5 c3 c5 c7 c9 c11) (by decide) ?_
              refine zr_aload_n (pc := 97) hC 0 rfl rfl dX11_word_97 ?_
              refine zr_bipush (pc := 98) hC zkb_m2 dX11_word_98 ?_
              obtain ⟨q13, hq13, h⟩ := zbd h
              refine zr_cVi (pc := 100) hC hEk [.int (-2 : Int32)] [] 76 1 (fun l D => tX11_refuse hEk hq13 l D) gX11_word_X11_refuse rfl rfl rfl ⟨Nat.le_of_ble_eq_true rfl, Nat.le_of_ble_eq_true rfl⟩ hyX11_refuse (zNC (by decide)) entC_76 rfl rfl rfl (Nat.le_of_ble_eq_true rfl) ⟨Nat.le_of_ble_eq_true rfl, Nat.le_of_ble_eq_true rfl⟩ dX11_word_100 ?_
              obtain rfl := Option.some.inj h
              exact zr_iret hC hR ⟨rfl, rfl⟩ (Nat.le_refl _) (Nat.le_refl _) dX11_word_103
  · replace h := zip h c2
    refine zr_aload_n (pc := 11) hC 0 rfl rfl dX11_word_11 ?_
    refine zr_iconst (pc := 12) hC zki_m1 dX11_word_12 ?_
    obtain ⟨q14, hq14, h⟩ := zbd h
    refine zr_cVi (pc := 13) hC hEk [.int (-1 : Int32)] [] 76 1 (fun l D => tX11_refuse hEk hq14 l D) gX11_word_X11_refuse rfl rfl rfl ⟨Nat.le_of_ble_eq_true rfl, Nat.le_of_ble_eq_true rfl⟩ hyX11_refuse (zNC (by decide)) entC_76 rfl rfl rfl (Nat.le_of_ble_eq_true rfl) ⟨Nat.le_of_ble_eq_true rfl, Nat.le_of_ble_eq_true rfl⟩ dX11_word_13 ?_
    obtain rfl := Option.some.inj h
    exact zr_iret hC hR ⟨rfl, rfl⟩ (Nat.le_refl _) (Nat.le_refl _) dX11_word_16
/-! X2_kind_k0 -/
theorem hyX2_kind : yX2_kind.cls = RX2 ∧ yX2_kind.cls ≠ "java/lang/invoke/MethodHandle" ∧ yX2_kind.cls ≠ "java/lang/invoke/VarHandle" ∧ (parseMethodDescriptor yX2_kind.desc).map (fun d => d.parameters.length) = some 0 := by decide +kernel
def xX2_kind_k0 (pP : zP) (v0 : Nat) : Option Int32 :=
  some (0 : Int32)
set_option maxHeartbeats 4000000 in
set_option maxRecDepth 100000 in
theorem tX2_kind_k0 {κ : Nat → ClassId} {tg : Nat} {S : zEn} {ad : Nat → Nat} (hEk : zEk (zE tg S)) {pT : zM} {pR : zM} {pX : zM} {pF : zM} {pB : zM} {pP : zP} {v0 : Nat} (hk : pP.2.1 v0 = 0) (hv0 : v0 < pP.2.2.2) {res : Int32} (h : xX2_kind_k0 pP v0 = some res) (l : Launch) (D : va_G) : zCT (zE tg S) D vwCl (zty κ) l yX2_kind wsX2_kind ({ frames := 0, cells := 0, slots := 0, locals := 0 } : Room) 0 0 [.ref (ad (81 + v0))] (zwC κ ad pT pR pX pF pB pP) (zPd (some (.int res)) (zwC κ ad pT pR pX pF pB pP)) := by
  refine zCT.of (cc := cX2_kind) (maxL := 1) (ret := (some .int)) (by decide) rfl (Nat.le_of_ble_eq_true rfl) ?_
  intro X hC hR
  unfold xX2_kind_k0 at h
  refine zV.sub (lv' := [(0, .ref (ad (81 + v0)))]) [0] rfl ?_
  refine zr_iconst (pc := 0) hC zki_0 dX2_kind_0 ?_
  obtain rfl := Option.some.inj h
  exact zr_iret hC hR ⟨rfl, rfl⟩ (Nat.le_refl _) (Nat.le_refl _) dX2_kind_1
/-! X7_kind_k1 -/
theorem hyX7_kind : yX7_kind.cls = RX7 ∧ yX7_kind.cls ≠ "java/lang/invoke/MethodHandle" ∧ yX7_kind.cls ≠ "java/lang/invoke/VarHandle" ∧ (parseMethodDescriptor yX7_kind.desc).map (fun d => d.parameters.length) = some 0 := by decide +kernel
def xX7_kind_k1 (pP : zP) (v0 : Nat) : Option Int32 :=
  some (1 : Int32)
set_option maxHeartbeats 4000000 in
set_option maxRecDepth 100000 in
theorem tX7_kind_k1 {κ : Nat → ClassId} {tg : Nat} {S : zEn} {ad : Nat → Nat} (hEk : zEk (zE tg S)) {pT : zM} {pR : zM} {pX : zM} {pF : zM} {pB : zM} {pP : zP} {v0 : Nat} (hk : pP.2.1 v0 = 1) (hv0 : v0 < pP.2.2.2) {res : Int32} (h : xX7_kind_k1 pP v0 = some res) (l : Launch) (D : va_G) : zCT (zE tg S) D vwCl (zty κ) l yX7_kind wsX7_kind ({ frames := 0, cells := 0, slots := 0, locals := 0 } : Room) 0 0 [.ref (ad (81 + v0))] (zwC κ ad pT pR pX pF pB pP) (zPd (some (.int res)) (zwC κ ad pT pR pX pF pB pP)) := by
  refine zCT.of (cc := cX7_kind) (maxL := 1) (ret := (some .int)) (by decide) rfl (Nat.le_of_ble_eq_true rfl) ?_
  intro X hC hR
  unfold xX7_kind_k1 at h
  refine zV.sub (lv' := [(0, .ref (ad (81 + v0)))]) [0] rfl ?_
  refine zr_iconst (pc := 0) hC zki_1 dX7_kind_0 ?_
  obtain rfl := Option.some.inj h
  exact zr_iret hC hR ⟨rfl, rfl⟩ (Nat.le_refl _) (Nat.le_refl _) dX7_kind_1
/-! X1_kind_k2 -/
theorem hyX1_kind : yX1_kind.cls = RX1 ∧ yX1_kind.cls ≠ "java/lang/invoke/MethodHandle" ∧ yX1_kind.cls ≠ "java/lang/invoke/VarHandle" ∧ (parseMethodDescriptor yX1_kind.desc).map (fun d => d.parameters.length) = some 0 := by decide +kernel
def xX1_kind_k2 (pP : zP) (v0 : Nat) : Option Int32 :=
  some (2 : Int32)
set_option maxHeartbeats 4000000 in
set_option maxRecDepth 100000 in
theorem tX1_kind_k2 {κ : Nat → ClassId} {tg : Nat} {S : zEn} {ad : Nat → Nat} (hEk : zEk (zE tg S)) {pT : zM} {pR : zM} {pX : zM} {pF : zM} {pB : zM} {pP : zP} {v0 : Nat} (hk : pP.2.1 v0 = 2) (hv0 : v0 < pP.2.2.2) {res : Int32} (h : xX1_kind_k2 pP v0 = some res) (l : Launch) (D : va_G) : zCT (zE tg S) D vwCl (zty κ) l yX1_kind wsX1_kind ({ frames := 0, cells := 0, slots := 0, locals := 0 } : Room) 0 0 [.ref (ad (81 + v0))] (zwC κ ad pT pR pX pF pB pP) (zPd (some (.int res)) (zwC κ ad pT pR pX pF pB pP)) := by
  refine zCT.of (cc := cX1_kind) (maxL := 1) (ret := (some .int)) (by decide) rfl (Nat.le_of_ble_eq_true rfl) ?_
  intro X hC hR
  unfold xX1_kind_k2 at h
  refine zV.sub (lv' := [(0, .ref (ad (81 + v0)))]) [0] rfl ?_
  refine zr_iconst (pc := 0) hC zki_2 dX1_kind_0 ?_
  obtain rfl := Option.some.inj h
  exact zr_iret hC hR ⟨rfl, rfl⟩ (Nat.le_refl _) (Nat.le_refl _) dX1_kind_1
/-! X4_kind_k3 -/
theorem hyX4_kind : yX4_kind.cls = RX4 ∧ yX4_kind.cls ≠ "java/lang/invoke/MethodHandle" ∧ yX4_kind.cls ≠ "java/lang/invoke/VarHandle" ∧ (parseMethodDescriptor yX4_kind.desc).map (fun d => d.parameters.length) = some 0 := by decide +kernel
def xX4_kind_k3 (pP : zP) (v0 : Nat) : Option Int32 :=
  some (3 : Int32)
set_option maxHeartbeats 4000000 in
set_option maxRecDepth 100000 in
theorem tX4_kind_k3 {κ : Nat → ClassId} {tg : Nat} {S : zEn} {ad : Nat → Nat} (hEk : zEk (zE tg S)) {pT : zM} {pR : zM} {pX : zM} {pF : zM} {pB : zM} {pP : zP} {v0 : Nat} (hk : pP.2.1 v0 = 3) (hv0 : v0 < pP.2.2.2) {res : Int32} (h : xX4_kind_k3 pP v0 = some res) (l : Launch) (D : va_G) : zCT (zE tg S) D vwCl (zty κ) l yX4_kind wsX4_kind ({ frames := 0, cells := 0, slots := 0, locals := 0 } : Room) 0 0 [.ref (ad (81 + v0))] (zwC κ ad pT pR pX pF pB pP) (zPd (some (.int res)) (zwC κ ad pT pR pX pF pB pP)) := by
  refine zCT.of (cc := cX4_kind) (maxL := 1) (ret := (some .int)) (by decide) rfl (Nat.le_of_ble_eq_true rfl) ?_
  intro X hC hR
  unfold xX4_kind_k3 at h
  refine zV.sub (lv' := [(0, .ref (ad (81 + v0)))]) [0] rfl ?_
  refine zr_iconst (pc := 0) hC zki_3 dX4_kind_0 ?_
  obtain rfl := Option.some.inj h
  exact zr_iret hC hR ⟨rfl, rfl⟩ (Nat.le_refl _) (Nat.le_refl _) dX4_kind_1
/-! X9_kind_k4 -/
theorem hyX9_kind : yX9_kind.cls = RX9 ∧ yX9_kind.cls ≠ "java/lang/invoke/MethodHandle" ∧ yX9_kind.cls ≠ "java/lang/invoke/VarHandle" ∧ (parseMethodDescriptor yX9_kind.desc).map (fun d => d.parameters.length) = some 0 := by decide +kernel
def xX9_kind_k4 (pP : zP) (v0 : Nat) : Option Int32 :=
  some (4 : Int32)
set_option maxHeartbeats 4000000 in
set_option maxRecDepth 100000 in
theorem tX9_kind_k4 {κ : Nat → ClassId} {tg : Nat} {S : zEn} {ad : Nat → Nat} (hEk : zEk (zE tg S)) {pT : zM} {pR : zM} {pX : zM} {pF : zM} {pB : zM} {pP : zP} {v0 : Nat} (hk : pP.2.1 v0 = 4) (hv0 : v0 < pP.2.2.2) {res : Int32} (h : xX9_kind_k4 pP v0 = some res) (l : Launch) (D : va_G) : zCT (zE tg S) D vwCl (zty κ) l yX9_kind wsX9_kind ({ frames := 0, cells := 0, slots := 0, locals := 0 } : Room) 0 0 [.ref (ad (81 + v0))] (zwC κ ad pT pR pX pF pB pP) (zPd (some (.int res)) (zwC κ ad pT pR pX pF pB pP)) := by
  refine zCT.of (cc := cX9_kind) (maxL := 1) (ret := (some .int)) (by decide) rfl (Nat.le_of_ble_eq_true rfl) ?_
  intro X hC hR
  unfold xX9_kind_k4 at h
  refine zV.sub (lv' := [(0, .ref (ad (81 + v0)))]) [0] rfl ?_
  refine zr_iconst (pc := 0) hC zki_4 dX9_kind_0 ?_
  obtain rfl := Option.some.inj h
  exact zr_iret hC hR ⟨rfl, rfl⟩ (Nat.le_refl _) (Nat.le_refl _) dX9_kind_1
/-! X0_kind_k5 -/
theorem hyX0_kind : yX0_kind.cls = RX0 ∧ yX0_kind.cls ≠ "java/lang/invoke/MethodHandle" ∧ yX0_kind.cls ≠ "java/lang/invoke/VarHandle" ∧ (parseMethodDescriptor yX0_kind.desc).map (fun d => d.parameters.length) = some 0 := by decide +kernel
def xX0_kind_k5 (pP : zP) (v0 : Nat) : Option Int32 :=
  some (5 : Int32)
set_option maxHeartbeats 4000000 in
set_option maxRecDepth 100000 in
theorem tX0_kind_k5 {κ : Nat → ClassId} {tg : Nat} {S : zEn} {ad : Nat → Nat} (hEk : zEk (zE tg S)) {pT : zM} {pR : zM} {pX : zM} {pF : zM} {pB : zM} {pP : zP} {v0 : Nat} (hk : zk5 pP v0) (hv0 : v0 < pP.2.2.2) {res : Int32} (h : xX0_kind_k5 pP v0 = some res) (l : Launch) (D : va_G) : zCT (zE tg S) D vwCl (zty κ) l yX0_kind wsX0_kind ({ frames := 0, cells := 0, slots := 0, locals := 0 } : Room) 0 0 [.ref (ad (81 + v0))] (zwC κ ad pT pR pX pF pB pP) (zPd (some (.int res)) (zwC κ ad pT pR pX pF pB pP)) := by
  refine zCT.of (cc := cX0_kind) (maxL := 1) (ret := (some .int)) (by decide) rfl (Nat.le_of_ble_eq_true rfl) ?_
  intro X hC hR
  unfold xX0_kind_k5 at h
  refine zV.sub (lv' := [(0, .ref (ad (81 + v0)))]) [0] rfl ?_
  refine zr_iconst (pc := 0) hC zki_5 dX0_kind_0 ?_
  obtain rfl := Option.some.inj h
  exact zr_iret hC hR ⟨rfl, rfl⟩ (Nat.le_refl _) (Nat.le_refl _) dX0_kind_1
/-! V:kind -/
def xv_kind (pP : zP) (a : Nat)  : Option Int32 :=
  if pP.2.1 a = 0 then
  ((xX2_kind_k0 pP a ).bind fun q => some q)
  else
  if pP.2.1 a = 1 then
  ((xX7_kind_k1 pP a ).bind fun q => some q)
  else
  if pP.2.1 a = 2 then
  ((xX1_kind_k2 pP a ).bind fun q => some q)
  else
  if pP.2.1 a = 3 then
  ((xX4_kind_k3 pP a ).bind fun q => some q)
  else
  if pP.2.1 a = 4 then
  ((xX9_kind_k4 pP a ).bind fun q => some q)
  else
  (xX0_kind_k5 pP a ).bind fun q => some q
theorem hxv_kind : "BeforeTheEnd$Player" ≠ "java/lang/invoke/MethodHandle" ∧ "BeforeTheEnd$Player" ≠ "java/lang/invoke/VarHandle" ∧ (parseMethodDescriptor "()I").map (fun d => d.parameters.length) = some 0 := by decide +kernel
/-! X5_toldSet_k0 -/
theorem hyX5_toldSet : yX5_toldSet.cls = RX5 ∧ yX5_toldSet.cls ≠ "java/lang/invoke/MethodHandle" ∧ yX5_toldSet.cls ≠ "java/lang/invoke/VarHandle" ∧ (parseMethodDescriptor yX5_toldSet.desc).map (fun d => d.parameters.length) = some 0 := by decide +kernel
def xX5_toldSet_k0 (pP : zP) (v0 : Nat) : Option Int32 :=
  some (0 : Int32)
set_option maxHeartbeats 4000000 in
set_option maxRecDepth 100000 in
theorem tX5_toldSet_k0 {κ : Nat → ClassId} {tg : Nat} {S : zEn} {ad : Nat → Nat} (hEk : zEk (zE tg S)) {pT : zM} {pR : zM} {pX : zM} {pF : zM} {pB : zM} {pP : zP} {v0 : Nat} (hk : pP.2.1 v0 = 0) (hv0 : v0 < pP.2.2.2) {res : Int32} (h : xX5_toldSet_k0 pP v0 = some res) (l : Launch) (D : va_G) : zCT (zE tg S) D vwCl (zty κ) l yX5_toldSet wsX5_toldSet ({ frames := 0, cells := 0, slots := 0, locals := 0 } : Room) 0 0 [.ref (ad (81 + v0))] (zwC κ ad pT pR pX pF pB pP) (zPd (some (.int res)) (zwC κ ad pT pR pX pF pB pP)) := by
  refine zCT.of (cc := cX5_toldSet) (maxL := 1) (ret := (some .int)) (by decide) rfl (Nat.le_of_ble_eq_true rfl) ?_
  intro X hC hR
  unfold xX5_toldSet_k0 at h
  refine zV.sub (lv' := [(0, .ref (ad (81 + v0)))]) [0] rfl ?_
  refine zr_iconst (pc := 0) hC zki_0 dX5_toldSet_0 ?_
  obtain rfl := Option.some.inj h
  exact zr_iret hC hR ⟨rfl, rfl⟩ (Nat.le_refl _) (Nat.le_refl _) dX5_toldSet_1
/-! X5_toldSet_k1 -/
def xX5_toldSet_k1 (pP : zP) (v0 : Nat) : Option Int32 :=
  some (0 : Int32)
set_option maxHeartbeats 4000000 in
set_option maxRecDepth 100000 in
theorem tX5_toldSet_k1 {κ : Nat → ClassId} {tg : Nat} {S : zEn} {ad : Nat → Nat} (hEk : zEk (zE tg S)) {pT : zM} {pR : zM} {pX : zM} {pF : zM} {pB : zM} {pP : zP} {v0 : Nat} (hk : pP.2.1 v0 = 1) (hv0 : v0 < pP.2.2.2) {res : Int32} (h : xX5_toldSet_k1 pP v0 = some res) (l : Launch) (D : va_G) : zCT (zE tg S) D vwCl (zty κ) l yX5_toldSet wsX5_toldSet ({ frames := 0, cells := 0, slots := 0, locals := 0 } : Room) 0 0 [.ref (ad (81 + v0))] (zwC κ ad pT pR pX pF pB pP) (zPd (some (.int res)) (zwC κ ad pT pR pX pF pB pP)) := by
  refine zCT.of (cc := cX5_toldSet) (maxL := 1) (ret := (some .int)) (by decide) rfl (Nat.le_of_ble_eq_true rfl) ?_
  intro X hC hR
  unfold xX5_toldSet_k1 at h
  refine zV.sub (lv' := [(0, .ref (ad (81 + v0)))]) [0] rfl ?_
  refine zr_iconst (pc := 0) hC zki_0 dX5_toldSet_0 ?_
  obtain rfl := Option.some.inj h
  exact zr_iret hC hR ⟨rfl, rfl⟩ (Nat.le_refl _) (Nat.le_refl _) dX5_toldSet_1
/-! X5_toldSet_k2 -/
def xX5_toldSet_k2 (pP : zP) (v0 : Nat) : Option Int32 :=
  some (0 : Int32)
set_option maxHeartbeats 4000000 in
set_option maxRecDepth 100000 in
theorem tX5_toldSet_k2 {κ : Nat → ClassId} {tg : Nat} {S : zEn} {ad : Nat → Nat} (hEk : zEk (zE tg S)) {pT : zM} {pR : zM} {pX : zM} {pF : zM} {pB : zM} {pP : zP} {v0 : Nat} (hk : pP.2.1 v0 = 2) (hv0 : v0 < pP.2.2.2) {res : Int32} (h : xX5_toldSet_k2 pP v0 = some res) (l : Launch) (D : va_G) : zCT (zE tg S) D vwCl (zty κ) l yX5_toldSet wsX5_toldSet ({ frames := 0, cells := 0, slots := 0, locals := 0 } : Room) 0 0 [.ref (ad (81 + v0))] (zwC κ ad pT pR pX pF pB pP) (zPd (some (.int res)) (zwC κ ad pT pR pX pF pB pP)) := by
  refine zCT.of (cc := cX5_toldSet) (maxL := 1) (ret := (some .int)) (by decide) rfl (Nat.le_of_ble_eq_true rfl) ?_
  intro X hC hR
  unfold xX5_toldSet_k2 at h
  refine zV.sub (lv' := [(0, .ref (ad (81 + v0)))]) [0] rfl ?_
  refine zr_iconst (pc := 0) hC zki_0 dX5_toldSet_0 ?_
  obtain rfl := Option.some.inj h
  exact zr_iret hC hR ⟨rfl, rfl⟩ (Nat.le_refl _) (Nat.le_refl _) dX5_toldSet_1
/-! X5_toldSet_k3 -/
def xX5_toldSet_k3 (pP : zP) (v0 : Nat) : Option Int32 :=
  some (0 : Int32)
set_option maxHeartbeats 4000000 in
set_option maxRecDepth 100000 in
theorem tX5_toldSet_k3 {κ : Nat → ClassId} {tg : Nat} {S : zEn} {ad : Nat → Nat} (hEk : zEk (zE tg S)) {pT : zM} {pR : zM} {pX : zM} {pF : zM} {pB : zM} {pP : zP} {v0 : Nat} (hk : pP.2.1 v0 = 3) (hv0 : v0 < pP.2.2.2) {res : Int32} (h : xX5_toldSet_k3 pP v0 = some res) (l : Launch) (D : va_G) : zCT (zE tg S) D vwCl (zty κ) l yX5_toldSet wsX5_toldSet ({ frames := 0, cells := 0, slots := 0, locals := 0 } : Room) 0 0 [.ref (ad (81 + v0))] (zwC κ ad pT pR pX pF pB pP) (zPd (some (.int res)) (zwC κ ad pT pR pX pF pB pP)) := by
  refine zCT.of (cc := cX5_toldSet) (maxL := 1) (ret := (some .int)) (by decide) rfl (Nat.le_of_ble_eq_true rfl) ?_
  intro X hC hR
  unfold xX5_toldSet_k3 at h
  refine zV.sub (lv' := [(0, .ref (ad (81 + v0)))]) [0] rfl ?_
  refine zr_iconst (pc := 0) hC zki_0 dX5_toldSet_0 ?_
  obtain rfl := Option.some.inj h
  exact zr_iret hC hR ⟨rfl, rfl⟩ (Nat.le_refl _) (Nat.le_refl _) dX5_toldSet_1
/-! X9_toldSet_k4 -/
theorem hyX9_toldSet : yX9_toldSet.cls = RX9 ∧ yX9_toldSet.cls ≠ "java/lang/invoke/MethodHandle" ∧ yX9_toldSet.cls ≠ "java/lang/invoke/VarHandle" ∧ (parseMethodDescriptor yX9_toldSet.desc).map (fun d => d.parameters.length) = some 0 := by decide +kernel
theorem flX9_toldSet_k4_9 : Cond.fieldLink RX9 9 "BeforeTheEnd$Told" "set" "I" ∈ wsX9_toldSet := by decide +kernel
theorem hinX9_toldSet_k4_X0 : ∀ w ∈ wsX00, w ∈ wsX9_toldSet := fun _ h => List.mem_cons_of_mem _ (List.mem_append_left _ (List.mem_append_right _ h))
theorem hinX9_toldSet_k4_X9 : ∀ w ∈ wsX90, w ∈ wsX9_toldSet := fun _ h => List.mem_cons_of_mem _ (List.mem_append_right _ h)
def xX9_toldSet_k4 (pP : zP) (v0 : Nat) : Option Int32 :=
  some (pP.2.2.1 v0 3)
set_option maxHeartbeats 4000000 in
set_option maxRecDepth 100000 in
theorem tX9_toldSet_k4 {κ : Nat → ClassId} {tg : Nat} {S : zEn} {ad : Nat → Nat} (hEk : zEk (zE tg S)) {pT : zM} {pR : zM} {pX : zM} {pF : zM} {pB : zM} {pP : zP} {v0 : Nat} (hk : pP.2.1 v0 = 4) (hv0 : v0 < pP.2.2.2) {res : Int32} (h : xX9_toldSet_k4 pP v0 = some res) (l : Launch) (D : va_G) : zCT (zE tg S) D vwCl (zty κ) l yX9_toldSet wsX9_toldSet ({ frames := 0, cells := 0, slots := 0, locals := 0 } : Room) 0 0 [.ref (ad (81 + v0))] (zwC κ ad pT pR pX pF pB pP) (zPd (some (.int res)) (zwC κ ad pT pR pX pF pB pP)) := by
  refine zCT.of (cc := cX9_toldSet) (maxL := 1) (ret := (some .int)) (by decide) rfl (Nat.le_of_ble_eq_true rfl) ?_
  intro X hC hR
  unfold xX9_toldSet_k4 at h
  refine zV.sub (lv' := [(0, .ref (ad (81 + v0)))]) [0] rfl ?_
  refine zr_aload_n (pc := 0) hC 0 rfl rfl dX9_toldSet_0 ?_
  refine zr_get (pc := 1) (ref := "BeforeTheEnd$Told") (T := TX9) hC (81 + v0) hinX9_toldSet_k4_X9 (by simpa using hv0) (entC_p4 hk) rfl 3 (by decide) flX9_toldSet_k4_9 rfl rfl dX9_toldSet_1 ?_
  obtain rfl := Option.some.inj h
  exact zr_iret hC hR ⟨rfl, rfl⟩ (Nat.le_refl _) (Nat.le_refl _) dX9_toldSet_4
/-! X9_toldSet_k5 -/
theorem flX9_toldSet_k5_9 : Cond.fieldLink RX9 9 "BeforeTheEnd$Told" "set" "I" ∈ wsX9_toldSet := by decide +kernel
theorem hinX9_toldSet_k5_X0 : ∀ w ∈ wsX00, w ∈ wsX9_toldSet := fun _ h => List.mem_cons_of_mem _ (List.mem_append_left _ (List.mem_append_right _ h))
theorem hinX9_toldSet_k5_X9 : ∀ w ∈ wsX90, w ∈ wsX9_toldSet := fun _ h => List.mem_cons_of_mem _ (List.mem_append_right _ h)
def xX9_toldSet_k5 (pP : zP) (v0 : Nat) : Option Int32 :=
  some (pP.2.2.1 v0 3)
set_option maxHeartbeats 4000000 in
set_option maxRecDepth 100000 in
theorem tX9_toldSet_k5 {κ : Nat → ClassId} {tg : Nat} {S : zEn} {ad : Nat → Nat} (hEk : zEk (zE tg S)) {pT : zM} {pR : zM} {pX : zM} {pF : zM} {pB : zM} {pP : zP} {v0 : Nat} (hk : zk5 pP v0) (hv0 : v0 < pP.2.2.2) {res : Int32} (h : xX9_toldSet_k5 pP v0 = some res) (l : Launch) (D : va_G) : zCT (zE tg S) D vwCl (zty κ) l yX9_toldSet wsX9_toldSet ({ frames := 0, cells := 0, slots := 0, locals := 0 } : Room) 0 0 [.ref (ad (81 + v0))] (zwC κ ad pT pR pX pF pB pP) (zPd (some (.int res)) (zwC κ ad pT pR pX pF pB pP)) := by
  refine zCT.of (cc := cX9_toldSet) (maxL := 1) (ret := (some .int)) (by decide) rfl (Nat.le_of_ble_eq_true rfl) ?_
  intro X hC hR
  unfold xX9_toldSet_k5 at h
  refine zV.sub (lv' := [(0, .ref (ad (81 + v0)))]) [0] rfl ?_
  refine zr_aload_n (pc := 0) hC 0 rfl rfl dX9_toldSet_0 ?_
  refine zr_get (pc := 1) (ref := "BeforeTheEnd$Told") (T := TX0) hC (81 + v0) hinX9_toldSet_k5_X0 (by simpa using hv0) (entC_p5 hk) rfl 0 (by decide) flX9_toldSet_k5_9 rfl rfl dX9_toldSet_1 ?_
  obtain rfl := Option.some.inj h
  exact zr_iret hC hR ⟨rfl, rfl⟩ (Nat.le_refl _) (Nat.le_refl _) dX9_toldSet_4
/-! V:toldSet -/
def xv_toldSet (pP : zP) (a : Nat)  : Option Int32 :=
  if pP.2.1 a = 0 then
  ((xX5_toldSet_k0 pP a ).bind fun q => some q)
  else
  if pP.2.1 a = 1 then
  ((xX5_toldSet_k1 pP a ).bind fun q => some q)
  else
  if pP.2.1 a = 2 then
  ((xX5_toldSet_k2 pP a ).bind fun q => some q)
  else
  if pP.2.1 a = 3 then
  ((xX5_toldSet_k3 pP a ).bind fun q => some q)
  else
  if pP.2.1 a = 4 then
  ((xX9_toldSet_k4 pP a ).bind fun q => some q)
  else
  (xX9_toldSet_k5 pP a ).bind fun q => some q
theorem hxv_toldSet : "BeforeTheEnd$Player" ≠ "java/lang/invoke/MethodHandle" ∧ "BeforeTheEnd$Player" ≠ "java/lang/invoke/VarHandle" ∧ (parseMethodDescriptor "()I").map (fun d => d.parameters.length) = some 0 := by decide +kernel
/-! X11_player -/
set_option maxHeartbeats 4000000 in
theorem vrX11_player_119 {κ : Nat → ClassId} {tg : Nat} {S : zEn} {ad : Nat → Nat} {X : zX} {cells slots nL pc a : Nat} {lv : zLv} {rm : Room} {pT pR pX pF pB : zM} {pP : zP}  {q : Int32} (hC : zC X cX11_player RX11 wsX11_player vwCl (zty κ) (zE tg S) nL rm) (hEk : zEk (zE tg S)) (ha : ¬ pP.2.2.2 ≤ a) (hq : xv_kind pP a  = some q) {rest : List Value} (hcat : (rest.map fun v => v.category).sum ≤ 8) (hf : 1 ≤ rm.frames) (hl : 20 ≤ rm.locals) (hfit : cells + 0 ≤ rm.cells ∧ slots + 0 ≤ rm.slots) (hd : decode cX11_player pc = .ok (.invokevirtual 119, 3)) (kk : zV X cells slots (zwC κ ad pT pR pX pF pB pP) lv (.int q :: rest) (pc + 3)) : zV X cells slots (zwC κ ad pT pR pX pF pB pP) lv (.ref (ad (81 + a)) :: rest) pc := by
  have ha2 : a < pP.2.2.2 := by omega
  unfold xv_kind at hq
  by_cases k0 : pP.2.1 a = 0
  · replace hq := zip hq k0
    obtain ⟨q2, hq2, hq⟩ := zbd hq
    obtain rfl := Option.some.inj hq
    exact zr_cAi hC hEk [] rest (81 + a) 0 (fun l D => tX2_kind_k0 hEk k0 ha2 hq2 l D) gX11_player_X2_kind_u119X2 zE_kind rfl rfl rfl ⟨Nat.le_trans (Nat.le_of_ble_eq_true rfl) hf, Nat.le_trans (Nat.le_of_ble_eq_true rfl) hl⟩ hxv_kind (by omega) (entC_p0 k0) rfl rfl rfl hcat hfit hd kk
  replace hq := zin hq k0
  by_cases k1 : pP.2.1 a = 1
  · replace hq := zip hq k1
    obtain ⟨q2, hq2, hq⟩ := zbd hq
    obtain rfl := Option.some.inj hq
    exact zr_cAi hC hEk [] rest (81 + a) 0 (fun l D => tX7_kind_k1 hEk k1 ha2 hq2 l D) gX11_player_X7_kind_u119X7 zE_kind rfl rfl rfl ⟨Nat.le_trans (Nat.le_of_ble_eq_true rfl) hf, Nat.le_trans (Nat.le_of_ble_eq_true rfl) hl⟩ hxv_kind (by omega) (entC_p1 k1) rfl rfl rfl hcat hfit hd kk
  replace hq := zin hq k1
  by_cases k2 : pP.2.1 a = 2
  · replace hq := zip hq k2
    obtain ⟨q2, hq2, hq⟩ := zbd hq
    obtain rfl := Option.some.inj hq
    exact zr_cAi hC hEk [] rest (81 + a) 0 (fun l D => tX1_kind_k2 hEk k2 ha2 hq2 l D) gX11_player_X1_kind_u119X1 zE_kind rfl rfl rfl ⟨Nat.le_trans (Nat.le_of_ble_eq_true rfl) hf, Nat.le_trans (Nat.le_of_ble_eq_true rfl) hl⟩ hxv_kind (by omega) (entC_p2 k2) rfl rfl rfl hcat hfit hd kk
  replace hq := zin hq k2
  by_cases k3 : pP.2.1 a = 3
  · replace hq := zip hq k3
    obtain ⟨q2, hq2, hq⟩ := zbd hq
    obtain rfl := Option.some.inj hq
    exact zr_cAi hC hEk [] rest (81 + a) 0 (fun l D => tX4_kind_k3 hEk k3 ha2 hq2 l D) gX11_player_X4_kind_u119X4 zE_kind rfl rfl rfl ⟨Nat.le_trans (Nat.le_of_ble_eq_true rfl) hf, Nat.le_trans (Nat.le_of_ble_eq_true rfl) hl⟩ hxv_kind (by omega) (entC_p3 k3) rfl rfl rfl hcat hfit hd kk
  replace hq := zin hq k3
  by_cases k4 : pP.2.1 a = 4
  · replace hq := zip hq k4
    obtain ⟨q2, hq2, hq⟩ := zbd hq
    obtain rfl := Option.some.inj hq
    exact zr_cAi hC hEk [] rest (81 + a) 0 (fun l D => tX9_kind_k4 hEk k4 ha2 hq2 l D) gX11_player_X9_kind_u119X9 zE_kind rfl rfl rfl ⟨Nat.le_trans (Nat.le_of_ble_eq_true rfl) hf, Nat.le_trans (Nat.le_of_ble_eq_true rfl) hl⟩ hxv_kind (by omega) (entC_p4 k4) rfl rfl rfl hcat hfit hd kk
  replace hq := zin hq k4
  obtain ⟨q2, hq2, hq⟩ := zbd hq
  obtain rfl := Option.some.inj hq
  exact zr_cAi hC hEk [] rest (81 + a) 0 (fun l D => tX0_kind_k5 hEk ⟨k0, k1, k2, k3, k4⟩ ha2 hq2 l D) gX11_player_X0_kind_u119X0 zE_kind rfl rfl rfl ⟨Nat.le_trans (Nat.le_of_ble_eq_true rfl) hf, Nat.le_trans (Nat.le_of_ble_eq_true rfl) hl⟩ hxv_kind (by omega) (entC_p5 ⟨k0, k1, k2, k3, k4⟩) rfl rfl rfl hcat hfit hd kk
theorem h0X11_player_toldSet : Cond.code ⟨"BeforeTheEnd$Player", "toldSet", "()I"⟩ cX5_toldSet 1 (some .int) ∈ wsX11_player := by decide +kernel
set_option maxHeartbeats 4000000 in
theorem vrX11_player_133 {κ : Nat → ClassId} {tg : Nat} {S : zEn} {ad : Nat → Nat} {X : zX} {cells slots nL pc a : Nat} {lv : zLv} {rm : Room} {pT pR pX pF pB : zM} {pP : zP}  {q : Int32} (hC : zC X cX11_player RX11 wsX11_player vwCl (zty κ) (zE tg S) nL rm) (hEk : zEk (zE tg S)) (ha : ¬ pP.2.2.2 ≤ a) (hq : xv_toldSet pP a  = some q) {rest : List Value} (hcat : (rest.map fun v => v.category).sum ≤ 8) (hf : 1 ≤ rm.frames) (hl : 20 ≤ rm.locals) (hfit : cells + 0 ≤ rm.cells ∧ slots + 0 ≤ rm.slots) (hd : decode cX11_player pc = .ok (.invokevirtual 133, 3)) (kk : zV X cells slots (zwC κ ad pT pR pX pF pB pP) lv (.int q :: rest) (pc + 3)) : zV X cells slots (zwC κ ad pT pR pX pF pB pP) lv (.ref (ad (81 + a)) :: rest) pc := by
  have ha2 : a < pP.2.2.2 := by omega
  unfold xv_toldSet at hq
  by_cases k0 : pP.2.1 a = 0
  · replace hq := zip hq k0
    obtain ⟨q2, hq2, hq⟩ := zbd hq
    obtain rfl := Option.some.inj hq
    exact zr_cUi hC hEk [] rest (81 + a) 0 (fun l D => tX5_toldSet_k0 hEk k0 ha2 hq2 l D) gX11_player_X5_toldSet_u133X2 rfl rfl rfl rfl ⟨Nat.le_trans (Nat.le_of_ble_eq_true rfl) hf, Nat.le_trans (Nat.le_of_ble_eq_true rfl) hl⟩ hxv_toldSet (by omega) (entC_p0 k0) rfl rfl rfl hcat hfit hd kk
  replace hq := zin hq k0
  by_cases k1 : pP.2.1 a = 1
  · replace hq := zip hq k1
    obtain ⟨q2, hq2, hq⟩ := zbd hq
    obtain rfl := Option.some.inj hq
    exact zr_cUi hC hEk [] rest (81 + a) 0 (fun l D => tX5_toldSet_k1 hEk k1 ha2 hq2 l D) gX11_player_X5_toldSet_u133X7 rfl rfl rfl rfl ⟨Nat.le_trans (Nat.le_of_ble_eq_true rfl) hf, Nat.le_trans (Nat.le_of_ble_eq_true rfl) hl⟩ hxv_toldSet (by omega) (entC_p1 k1) rfl rfl rfl hcat hfit hd kk
  replace hq := zin hq k1
  by_cases k2 : pP.2.1 a = 2
  · replace hq := zip hq k2
    obtain ⟨q2, hq2, hq⟩ := zbd hq
    obtain rfl := Option.some.inj hq
    exact zr_cUi hC hEk [] rest (81 + a) 0 (fun l D => tX5_toldSet_k2 hEk k2 ha2 hq2 l D) gX11_player_X5_toldSet_u133X1 rfl rfl rfl rfl ⟨Nat.le_trans (Nat.le_of_ble_eq_true rfl) hf, Nat.le_trans (Nat.le_of_ble_eq_true rfl) hl⟩ hxv_toldSet (by omega) (entC_p2 k2) rfl rfl rfl hcat hfit hd kk
  replace hq := zin hq k2
  by_cases k3 : pP.2.1 a = 3
  · replace hq := zip hq k3
    obtain ⟨q2, hq2, hq⟩ := zbd hq
    obtain rfl := Option.some.inj hq
    exact zr_cUi hC hEk [] rest (81 + a) 0 (fun l D => tX5_toldSet_k3 hEk k3 ha2 hq2 l D) gX11_player_X5_toldSet_u133X4 rfl rfl rfl rfl ⟨Nat.le_trans (Nat.le_of_ble_eq_true rfl) hf, Nat.le_trans (Nat.le_of_ble_eq_true rfl) hl⟩ hxv_toldSet (by omega) (entC_p3 k3) rfl rfl rfl hcat hfit hd kk
  replace hq := zin hq k3
  by_cases k4 : pP.2.1 a = 4
  · replace hq := zip hq k4
    obtain ⟨q2, hq2, hq⟩ := zbd hq
    obtain rfl := Option.some.inj hq
    exact zr_cOi hC hEk [] rest (81 + a) 0 (fun l D => tX9_toldSet_k4 hEk k4 ha2 hq2 l D) gX11_player_X9_toldSet_u133X9 h0X11_player_toldSet rfl rfl rfl ⟨Nat.le_trans (Nat.le_of_ble_eq_true rfl) hf, Nat.le_trans (Nat.le_of_ble_eq_true rfl) hl⟩ hxv_toldSet (by omega) (entC_p4 k4) rfl rfl rfl hcat hfit hd kk
  replace hq := zin hq k4
  obtain ⟨q2, hq2, hq⟩ := zbd hq
  obtain rfl := Option.some.inj hq
  exact zr_cOi hC hEk [] rest (81 + a) 0 (fun l D => tX9_toldSet_k5 hEk ⟨k0, k1, k2, k3, k4⟩ ha2 hq2 l D) gX11_player_X9_toldSet_u133X0 h0X11_player_toldSet rfl rfl rfl ⟨Nat.le_trans (Nat.le_of_ble_eq_true rfl) hf, Nat.le_trans (Nat.le_of_ble_eq_true rfl) hl⟩ hxv_toldSet (by omega) (entC_p5 ⟨k0, k1, k2, k3, k4⟩) rfl rfl rfl hcat hfit hd kk
theorem hyX11_player : yX11_player.cls = RX11 ∧ yX11_player.cls ≠ "java/lang/invoke/MethodHandle" ∧ yX11_player.cls ≠ "java/lang/invoke/VarHandle" ∧ (parseMethodDescriptor yX11_player.desc).map (fun d => d.parameters.length) = some 2 := by decide +kernel
theorem flX11_player_124 : Cond.fieldLink RX11 124 "BeforeTheEnd$Player" "hand" "I" ∈ wsX11_player := by decide +kernel
theorem flX11_player_127 : Cond.fieldLink RX11 127 "BeforeTheEnd$Player" "sure" "I" ∈ wsX11_player := by decide +kernel
theorem flX11_player_130 : Cond.fieldLink RX11 130 "BeforeTheEnd$Player" "knows" "I" ∈ wsX11_player := by decide +kernel
theorem flX11_player_68 : Cond.fieldLink RX11 68 "BeforeTheEnd" "race" "LBeforeTheEnd$Race;" ∈ wsX11_player := by decide +kernel
theorem hinX11_player_X11 : ∀ w ∈ wsX110, w ∈ wsX11_player := fun _ h => List.mem_cons_of_mem _ (List.mem_append_left _ (List.mem_append_left _ (List.mem_append_left _ (List.mem_append_left _ (List.mem_append_left _ (List.mem_append_left _ (List.mem_append_left _ (List.mem_append_right _ h))))))))
theorem hinX11_player_X0 : ∀ w ∈ wsX00, w ∈ wsX11_player := fun _ h => List.mem_cons_of_mem _ (List.mem_append_left _ (List.mem_append_left _ (List.mem_append_left _ (List.mem_append_left _ (List.mem_append_left _ (List.mem_append_left _ (List.mem_append_right _ h)))))))
theorem hinX11_player_X1 : ∀ w ∈ wsX10, w ∈ wsX11_player := fun _ h => List.mem_cons_of_mem _ (List.mem_append_left _ (List.mem_append_left _ (List.mem_append_left _ (List.mem_append_left _ (List.mem_append_left _ (List.mem_append_right _ h))))))
theorem hinX11_player_X2 : ∀ w ∈ wsX20, w ∈ wsX11_player := fun _ h => List.mem_cons_of_mem _ (List.mem_append_left _ (List.mem_append_left _ (List.mem_append_left _ (List.mem_append_left _ (List.mem_append_right _ h)))))
theorem hinX11_player_X4 : ∀ w ∈ wsX40, w ∈ wsX11_player := fun _ h => List.mem_cons_of_mem _ (List.mem_append_left _ (List.mem_append_left _ (List.mem_append_left _ (List.mem_append_right _ h))))
theorem hinX11_player_X7 : ∀ w ∈ wsX70, w ∈ wsX11_player := fun _ h => List.mem_cons_of_mem _ (List.mem_append_left _ (List.mem_append_left _ (List.mem_append_right _ h)))
theorem hinX11_player_X9 : ∀ w ∈ wsX90, w ∈ wsX11_player := fun _ h => List.mem_cons_of_mem _ (List.mem_append_left _ (List.mem_append_right _ h))
theorem hinX11_player_X6 : ∀ w ∈ wsX60, w ∈ wsX11_player := fun _ h => List.mem_cons_of_mem _ (List.mem_append_right _ h)
def xX11_player (pR : zM) (pB : zM) (pP : zP) (v1 : Int32) (v2 : Int32) : Option (Int32 × zM) :=
  (xX6_playerAt pR pP v1).bind fun q1 =>
  zon q1
  ((xX11_refuse pB (-1 : Int32)).bind fun q5 =>
  some (q5.1, q5.2))
  (fun a2 => if pP.2.2.2 ≤ a2 then none else
  if v2 = (0 : Int32) then
  ((xv_kind pP a2).bind fun q7 =>
  some (q7, pB))
  else
  if v2 = (1 : Int32) then
  (some ((pP.2.2.1 a2 0), pB))
  else
  if v2 = (2 : Int32) then
  (some ((pP.2.2.1 a2 1), pB))
  else
  if v2 = (3 : Int32) then
  (some ((pP.2.2.1 a2 2), pB))
  else
  if v2 = (4 : Int32) then
  ((xv_toldSet pP a2).bind fun q12 =>
  some (q12, pB))
  else
  (xX11_refuse pB (-2 : Int32)).bind fun q13 =>
  some (q13.1, q13.2))
set_option maxHeartbeats 4000000 in
set_option maxRecDepth 100000 in
theorem tX11_player {κ : Nat → ClassId} {tg : Nat} {S : zEn} {ad : Nat → Nat} (hEk : zEk (zE tg S)) {pT : zM} {pR : zM} {pX : zM} {pF : zM} {pB : zM} {pP : zP} {v1 : Int32} {v2 : Int32} {res : (Int32 × zM)} (h : xX11_player pR pB pP v1 v2 = some res) (l : Launch) (D : va_G) : zCT (zE tg S) D vwCl (zty κ) l yX11_player wsX11_player ({ frames := 1, cells := 0, slots := 0, locals := 22 } : Room) 0 0 [.ref (ad 76), .int v1, .int v2] (zwC κ ad pT pR pX pF pB pP) (zPd (some (.int res.1)) (zwC κ ad pT pR pX pF res.2 pP)) := by
  refine zCT.of (cc := cX11_player) (maxL := 4) (ret := (some .int)) (by decide) rfl (Nat.le_of_ble_eq_true rfl) ?_
  intro X hC hR
  unfold xX11_player at h
  refine zV.sub (lv' := [(0, .ref (ad 76)), (1, .int v1), (2, .int v2)]) [0, 1, 2] rfl ?_
  refine zr_aload_n (pc := 0) hC 0 rfl rfl dX11_player_0 ?_
  refine zcg_76_1 (pc := 1) hC hinX11_player_X11 flX11_player_68 dX11_player_1 ?_
  refine zr_iload_n (pc := 4) hC 1 rfl rfl dX11_player_4 ?_
  obtain ⟨q1, hq1, h⟩ := zbd h
  refine zr_cVr (pc := 5) hC hEk [.int v1] [] 62 1 (fun l D => tX6_playerAt hEk hq1 l D) gX11_player_X6_playerAt rfl rfl rfl ⟨Nat.le_of_ble_eq_true rfl, Nat.le_of_ble_eq_true rfl⟩ hyX6_playerAt (zNC (by decide)) entC_62 rfl rfl rfl (Nat.le_of_ble_eq_true rfl) ⟨Nat.le_of_ble_eq_true rfl, Nat.le_of_ble_eq_true rfl⟩ dX11_player_5 ?_
  refine zr_astore_nO (pc := 8) (lv' := [(3, va_rf (q1.map (fun a => ad (81 + a)))), (0, .ref (ad 76)), (1, .int v1), (2, .int v2)]) hC rfl (by decide) (by cases q1 <;> rfl) dX11_player_8 ?_
  refine zr_aload_nO (pc := 9) hC 0 rfl rfl dX11_player_9 ?_
  refine zr_ifnonnullM (pc := 10) (tgt := 19) hC dX11_player_10 (by decide) (fun a2 e3 => ?_) (fun e3 => ?_)
  · replace h := zon_s e3 h
    have h9 := h
    subst e3
    replace h := h9
    clear h9
    obtain ⟨i4, h⟩ := zgd h
    show zV X 0 0 (zwC κ ad pT pR pX pF pB pP) [(3, .ref (ad (81 + a2))), (0, .ref (ad 76)), (1, .int v1), (2, .int v2)] [] 19
    refine zr_iload_n (pc := 19) hC 3 rfl rfl dX11_player_19 ?_
    by_cases c6 : v2 = (0 : Int32)
    · replace h := zip h c6
      refine zr_tabIn (pc := 20) (off := 36) (tgt := 56) hC dX11_player_20 (by rw [c6]; decide) (by rw [c6]; decide) (by rw [c6]; decide) (by decide) ?_
      refine zr_aload_n (pc := 56) hC 0 rfl rfl dX11_player_56 ?_
      obtain ⟨q7, hq7, h⟩ := zbd h
      refine vrX11_player_119 (pc := 57) hC hEk i4 hq7 (rest := []) (Nat.le_of_ble_eq_true rfl) (Nat.le_of_ble_eq_true rfl) (Nat.le_of_ble_eq_true rfl) ⟨Nat.le_of_ble_eq_true rfl, Nat.le_of_ble_eq_true rfl⟩ dX11_player_57 ?_
      obtain rfl := Option.some.inj h
      exact zr_iret hC hR ⟨rfl, rfl⟩ (Nat.le_refl _) (Nat.le_refl _) dX11_player_60
    · replace h := zin h c6
      by_cases c8 : v2 = (1 : Int32)
      · replace h := zip h c8
        refine zr_tabIn (pc := 20) (off := 41) (tgt := 61) hC dX11_player_20 (by rw [c8]; decide) (by rw [c8]; decide) (by rw [c8]; decide) (by decide) ?_
        refine zr_aload_n (pc := 61) hC 0 rfl rfl dX11_player_61 ?_
        refine zpg_0 (pc := 62) hC hinX11_player_X2 hinX11_player_X7 hinX11_player_X1 hinX11_player_X4 hinX11_player_X9 hinX11_player_X0 flX11_player_124 i4 dX11_player_62 ?_
        obtain rfl := Option.some.inj h
        exact zr_iret hC hR ⟨rfl, rfl⟩ (Nat.le_refl _) (Nat.le_refl _) dX11_player_65
      · replace h := zin h c8
        by_cases c9 : v2 = (2 : Int32)
        · replace h := zip h c9
          refine zr_tabIn (pc := 20) (off := 46) (tgt := 66) hC dX11_player_20 (by rw [c9]; decide) (by rw [c9]; decide) (by rw [c9]; decide) (by decide) ?_
          refine zr_aload_n (pc := 66) hC 0 rfl rfl dX11_player_66 ?_
          refine zpg_1 (pc := 67) hC hinX11_player_X2 hinX11_player_X7 hinX11_player_X1 hinX11_player_X4 hinX11_player_X9 hinX11_player_X0 flX11_player_127 i4 dX11_player_67 ?_
          obtain rfl := Option.some.inj h
          exact zr_iret hC hR ⟨rfl, rfl⟩ (Nat.le_refl _) (Nat.le_refl _) dX11_player_70
        · replace h := zin h c9
          by_cases c10 : v2 = (3 : Int32)
          · replace h := zip h c10
            refine zr_tabIn (pc := 20) (off := 51) (tgt := 71) hC dX11_player_20 (by rw [c10]; decide) (by rw [c10]; decide) (by rw [c10]; decide) (by decide) ?_
            refine zr_aload_n (pc := 71) hC 0 rfl rfl dX11_player_71 ?_
            refine zpg_2 (pc := 72) hC hinX11_player_X2 hinX11_player_X7 hinX11_player_X1 hinX11_player_X4 hinX11_player_X9 hinX11_player_X0 flX11_player_130 i4 dX11_player_72 ?_
            obtain rfl := Option.some.inj h
            exact zr_iret hC hR ⟨rfl, rfl⟩ (Nat.le_refl _) (Nat.le_refl _) dX11_player_75
          · replace h := zin h c10
            by_cases c11 : v2 = (4 : Int32)
            · replace h := zip h c11
              refine zr_tabIn (pc := 20) (off := 56) (tgt := 76) hC dX11_player_20 (by rw [c11]; decide) (by rw [c11]; decide) (by rw [c11]; decide) (by decide) ?_
              refine zr_aload_n (pc := 76) hC 0 rfl rfl dX11_player_76 ?_
              obtain ⟨q12, hq12, h⟩ := zbd h
              refine vrX11_player_133 (pc := 77) hC hEk i4 hq12 (rest := []) (Nat.le_of_ble_eq_true rfl) (Nat.le_of_ble_eq_true rfl) (Nat.le_of_ble_eq_true rfl) ⟨Nat.le_of_ble_eq_true rfl, Nat.le_of_ble_eq_true rfl⟩ dX11_player_77 ?_
              obtain rfl := Option.some.inj h
              exact zr_iret hC hR ⟨rfl, rfl⟩ (Nat.le_refl _) (Nat.le_refl _) dX11_player_80
            · replace h := zin h c11
              refine zr_tabOut (pc := 20) (tgt := 81) hC dX11_player_20 (zsw_out_0_5 c6 c8 c9 c10 c11) (by decide) ?_
              refine zr_aload_n (pc := 81) hC 1 rfl rfl dX11_player_81 ?_
              refine zr_bipush (pc := 82) hC zkb_m2 dX11_player_82 ?_
              obtain ⟨q13, hq13, h⟩ := zbd h
              refine zr_cVi (pc := 84) hC hEk [.int (-2 : Int32)] [] 76 1 (fun l D => tX11_refuse hEk hq13 l D) gX11_player_X11_refuse rfl rfl rfl ⟨Nat.le_of_ble_eq_true rfl, Nat.le_of_ble_eq_true rfl⟩ hyX11_refuse (zNC (by decide)) entC_76 rfl rfl rfl (Nat.le_of_ble_eq_true rfl) ⟨Nat.le_of_ble_eq_true rfl, Nat.le_of_ble_eq_true rfl⟩ dX11_player_84 ?_
              obtain rfl := Option.some.inj h
              exact zr_iret hC hR ⟨rfl, rfl⟩ (Nat.le_refl _) (Nat.le_refl _) dX11_player_87
  · replace h := zon_n e3 h
    have h9 := h
    subst e3
    replace h := h9
    clear h9
    show zV X 0 0 (zwC κ ad pT pR pX pF pB pP) [(3, va_rf ((none : Option Nat).map (fun a => ad (81 + a)))), (0, .ref (ad 76)), (1, .int v1), (2, .int v2)] [] 13
    refine zr_aload_n (pc := 13) hC 1 rfl rfl dX11_player_13 ?_
    refine zr_iconst (pc := 14) hC zki_m1 dX11_player_14 ?_
    obtain ⟨q5, hq5, h⟩ := zbd h
    refine zr_cVi (pc := 15) hC hEk [.int (-1 : Int32)] [] 76 1 (fun l D => tX11_refuse hEk hq5 l D) gX11_player_X11_refuse rfl rfl rfl ⟨Nat.le_of_ble_eq_true rfl, Nat.le_of_ble_eq_true rfl⟩ hyX11_refuse (zNC (by decide)) entC_76 rfl rfl rfl (Nat.le_of_ble_eq_true rfl) ⟨Nat.le_of_ble_eq_true rfl, Nat.le_of_ble_eq_true rfl⟩ dX11_player_15 ?_
    obtain rfl := Option.some.inj h
    exact zr_iret hC hR ⟨rfl, rfl⟩ (Nat.le_refl _) (Nat.le_refl _) dX11_player_18
