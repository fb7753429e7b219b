/-! the law from its entry -/
theorem zw_iX0 : Cond.instantiable RX0 4 ∈ lw_tbl := zpl_in (ps := [(3, 36)]) (by decide +kernel) _ (List.mem_singleton.mpr rfl)
theorem zw_iX1 : Cond.instantiable RX1 3 ∈ lw_tbl := zpl_in (ps := [(3, 3)]) (by decide +kernel) _ (List.mem_singleton.mpr rfl)
theorem zw_iX2 : Cond.instantiable RX2 3 ∈ lw_tbl := zpl_in (ps := [(2, 202)]) (by decide +kernel) _ (List.mem_singleton.mpr rfl)
theorem zw_iX3 : Cond.instantiable RX3 5 ∈ lw_tbl := zpl_in (ps := [(1, 74)]) (by decide +kernel) _ (List.mem_singleton.mpr rfl)
theorem zw_iX4 : Cond.instantiable RX4 3 ∈ lw_tbl := zpl_in (ps := [(3, 13)]) (by decide +kernel) _ (List.mem_singleton.mpr rfl)
theorem zw_iX6 : Cond.instantiable RX6 17 ∈ lw_tbl := zpl_in (ps := [(1, 156)]) (by decide +kernel) _ (List.mem_singleton.mpr rfl)
theorem zw_iX7 : Cond.instantiable RX7 3 ∈ lw_tbl := zpl_in (ps := [(2, 233)]) (by decide +kernel) _ (List.mem_singleton.mpr rfl)
theorem zw_iX8 : Cond.instantiable RX8 12 ∈ lw_tbl := zpl_in (ps := [(1, 30)]) (by decide +kernel) _ (List.mem_singleton.mpr rfl)
theorem zw_iX9 : Cond.instantiable RX9 4 ∈ lw_tbl := zpl_in (ps := [(3, 23)]) (by decide +kernel) _ (List.mem_singleton.mpr rfl)
theorem zw_iX10 : Cond.instantiable RX10 16 ∈ lw_tbl := zpl_in (ps := [(1, 98)]) (by decide +kernel) _ (List.mem_singleton.mpr rfl)
theorem zw_iX11 : Cond.instantiable RX11 13 ∈ lw_tbl := zpl_in (ps := [(1, 22)]) (by decide +kernel) _ (List.mem_singleton.mpr rfl)
theorem zw_iX12 : Cond.instantiable RX12 52 ∈ lw_tbl := zpl_in (ps := [(5, 65)]) (by decide +kernel) _ (List.mem_singleton.mpr rfl)
theorem zw_ai : Cond.arrayClass .int ∈ lw_tbl := zpl_in (ps := [(1, 72)]) (by decide +kernel) _ (List.mem_singleton.mpr rfl)
theorem zw_al : Cond.arrayClass .long ∈ lw_tbl := zpl_in (ps := [(1, 154)]) (by decide +kernel) _ (List.mem_singleton.mpr rfl)
theorem zw_ao : Cond.arrayOver (.object "BeforeTheEnd$Player") ∈ lw_tbl := zpl_in (ps := [(1, 162)]) (by decide +kernel) _ (List.mem_singleton.mpr rfl)
theorem zw_aa : Cond.arrayOver (.array .long) ∈ lw_tbl := zpl_in (ps := [(1, 104)]) (by decide +kernel) _ (List.mem_singleton.mpr rfl)
theorem zw_d1 : Cond.declares ⟨"BeforeTheEnd$Player", "kind", "()I"⟩ ∈ lw_tbl := zpl_in (ps := [(3, 117)]) (by decide +kernel) _ (List.mem_singleton.mpr rfl)
theorem zw_d2 : Cond.declares ⟨"BeforeTheEnd$Player", "wishes", "(LBeforeTheEnd$Race;IZ)I"⟩ ∈ lw_tbl := zpl_in (ps := [(4, 7)]) (by decide +kernel) _ (List.mem_singleton.mpr rfl)
theorem zw_n9 : Cond.methodLinkNest "BeforeTheEnd" 9 yX8_init "BeforeTheEnd" ∈ lw_tbl := zpl_in (ps := [(1, 31)]) (by decide +kernel) _ (List.mem_singleton.mpr rfl)
theorem zw_n18 : Cond.methodLinkNest "BeforeTheEnd" 18 yX3_init "BeforeTheEnd" ∈ lw_tbl := zpl_in (ps := [(1, 75)]) (by decide +kernel) _ (List.mem_singleton.mpr rfl)
theorem zw_n79 : Cond.methodLinkNest "BeforeTheEnd$Tree" 79 yX11_commonDivisor "BeforeTheEnd" ∈ lw_tbl := zpl_in (ps := [(3, 66)]) (by decide +kernel) _ (List.mem_singleton.mpr rfl)
theorem zw_n83 : Cond.methodLinkNest "BeforeTheEnd$Tree" 83 yX11_parted "BeforeTheEnd" ∈ lw_tbl := zpl_in (ps := [(3, 72)]) (by decide +kernel) _ (List.mem_singleton.mpr rfl)
theorem zw_f158 : Cond.fieldLinkNest "BeforeTheEnd$Race" 158 "BeforeTheEnd" "GREATEST_POINTS" "[I" "BeforeTheEnd" ∈ lw_tbl := zpl_in (ps := [(4, 173)]) (by decide +kernel) _ (List.mem_singleton.mpr rfl)
theorem zw_cX0 : Cond.castable RX0 "BeforeTheEnd$Player" ∈ lw_tbl := zpl_in (ps := [(7, 91)]) (by decide +kernel) _ (List.mem_singleton.mpr rfl)
theorem zw_cX1 : Cond.castable RX1 "BeforeTheEnd$Player" ∈ lw_tbl := zpl_in (ps := [(7, 88)]) (by decide +kernel) _ (List.mem_singleton.mpr rfl)
theorem zw_cX2 : Cond.castable RX2 "BeforeTheEnd$Player" ∈ lw_tbl := zpl_in (ps := [(7, 86)]) (by decide +kernel) _ (List.mem_singleton.mpr rfl)
theorem zw_cX4 : Cond.castable RX4 "BeforeTheEnd$Player" ∈ lw_tbl := zpl_in (ps := [(7, 89)]) (by decide +kernel) _ (List.mem_singleton.mpr rfl)
theorem zw_cX7 : Cond.castable RX7 "BeforeTheEnd$Player" ∈ lw_tbl := zpl_in (ps := [(7, 87)]) (by decide +kernel) _ (List.mem_singleton.mpr rfl)
theorem zw_cX9 : Cond.castable RX9 "BeforeTheEnd$Player" ∈ lw_tbl := zpl_in (ps := [(7, 90)]) (by decide +kernel) _ (List.mem_singleton.mpr rfl)
theorem zw_gp : Cond.laysStatic "BeforeTheEnd" "GREATEST_POINTS" "[I" ∈ lw_tbl := zpl_in (ps := [(1, 96)]) (by decide +kernel) _ (List.mem_singleton.mpr rfl)
theorem zw_gi : Cond.initialized "BeforeTheEnd" ∈ lw_tbl := zpl_in (ps := [(1, 1)]) (by decide +kernel) _ (List.mem_singleton.mpr rfl)
theorem zw_cs : Cond.laysStatic "java/lang/String" "COMPACT_STRINGS" "Z" ∈ lw_tbl := zpl_in (ps := [(2, 93)]) (by decide +kernel) _ (List.mem_singleton.mpr rfl)
theorem zw_ci : Cond.initialized "java/lang/String" ∈ lw_tbl := zpl_in (ps := [(1, 7)]) (by decide +kernel) _ (List.mem_singleton.mpr rfl)
theorem zw_sr : Cond.stringRef "BeforeTheEnd$Text" 105 "esblta" ∈ lw_tbl := zpl_in (ps := [(2, 79)]) (by decide +kernel) _ (List.mem_singleton.mpr rfl)
theorem zw_clX11 : Cond.classLink RL 7 RX11 ∈ lw_tbl := zpl_in (ps := [(1, 21)]) (by decide +kernel) _ (List.mem_singleton.mpr rfl)
theorem zw_inX11 : Cond.initialized RX11 ∈ lw_tbl := zpl_in (ps := [(1, 1)]) (by decide +kernel) _ (List.mem_singleton.mpr rfl)
theorem zw_mlX11 : Cond.methodLink RL 9 yX11_init ∈ lw_tbl := zpl_in (ps := [(1, 23)]) (by decide +kernel) _ (List.mem_singleton.mpr rfl)
theorem zw_imX11 : Cond.instanceMethod yX11_init ∈ lw_tbl := zpl_in (ps := [(1, 24)]) (by decide +kernel) _ (List.mem_singleton.mpr rfl)
theorem zw_mkX11 : Cond.initialized yX11_init.cls ∈ lw_tbl ∧ Cond.methodLink RL 9 yX11_init ∈ lw_tbl ∧ Cond.instanceMethod yX11_init ∈ lw_tbl := ⟨zw_inX11, zw_mlX11, zw_imX11⟩
theorem hyCLX11 : yX11_init.cls ≠ "java/lang/invoke/MethodHandle" ∧ yX11_init.cls ≠ "java/lang/invoke/VarHandle" ∧ (parseMethodDescriptor yX11_init.desc).map (fun d => d.parameters.length) = some 0 := by decide +kernel
theorem zw_clX12 : Cond.classLink RL 10 RX12 ∈ lw_tbl := zpl_in (ps := [(5, 64)]) (by decide +kernel) _ (List.mem_singleton.mpr rfl)
theorem zw_inX12 : Cond.initialized RX12 ∈ lw_tbl := zpl_in (ps := [(1, 6)]) (by decide +kernel) _ (List.mem_singleton.mpr rfl)
theorem zw_mlX12 : Cond.methodLink RL 12 yX12_init ∈ lw_tbl := zpl_in (ps := [(5, 66)]) (by decide +kernel) _ (List.mem_singleton.mpr rfl)
theorem zw_imX12 : Cond.instanceMethod yX12_init ∈ lw_tbl := zpl_in (ps := [(5, 67)]) (by decide +kernel) _ (List.mem_singleton.mpr rfl)
theorem zw_mkX12 : Cond.initialized yX12_init.cls ∈ lw_tbl ∧ Cond.methodLink RL 12 yX12_init ∈ lw_tbl ∧ Cond.instanceMethod yX12_init ∈ lw_tbl := ⟨zw_inX12, zw_mlX12, zw_imX12⟩
theorem hyCLX12 : yX12_init.cls ≠ "java/lang/invoke/MethodHandle" ∧ yX12_init.cls ≠ "java/lang/invoke/VarHandle" ∧ (parseMethodDescriptor yX12_init.desc).map (fun d => d.parameters.length) = some 0 := by decide +kernel
set_option maxHeartbeats 4000000 in
set_option maxRecDepth 100000 in
/-- the law from its entry, if the pure step goes on for ever with an invariant -/
theorem law_start {p : Program} {e : Env} {s : State} {m : MethodId} {below : List Frame} {meth : Method} {c : Code} (l : Launch) {b L : Nat} {xs : Nat → Int32} (hL : L ≤ 2048) (C0 : lw_At p s m meth c b L xs) (I : zSt → Prop) (h0 : I (zT0, zR0, zX0, zF0, zB0, zP0, zM0)) (hI : ∀ (S : zSt) (a0 a1 a2 a3 : Int32), I S → ∃ S9 : zSt, xL_step S.1 S.2.1 S.2.2.1 S.2.2.2.1 S.2.2.2.2.1 S.2.2.2.2.2.1 S.2.2.2.2.2.2 a0 a1 a2 a3 = some S9 ∧ I S9) : W p l e room_1 s m #[Value.ref b] below meth c s.heap [] 0 0 (lw_Z below #[Value.ref b] s) (entryFrame m ([Value.ref b] : List Value).toArray 4) := by
  obtain ⟨hx, hb, hr, hml, hown, hts, hX, hbl, hlocks, hgv⟩ := id C0
  have hs := flat_of_before _ hgv
  have hA : ∀ a : Nat, a < s.heap.size → ¬ (fun q : Nat => s.heap.size ≤ q) a := fun a h => Nat.not_le.mpr h
  obtain ⟨c0, i0, k0⟩ := u_known (C := RX0) (T := TX0) (N := 4) (n := 4) hts inTX0 (hts _ zw_iX0)
  obtain ⟨c1, i1, k1⟩ := u_known (C := RX1) (T := TX1) (N := 3) (n := 3) hts inTX1 (hts _ zw_iX1)
  obtain ⟨c2, i2, k2⟩ := u_known (C := RX2) (T := TX2) (N := 3) (n := 3) hts inTX2 (hts _ zw_iX2)
  obtain ⟨c3, i3, k3⟩ := u_known (C := RX3) (T := TX3) (N := 5) (n := 5) hts inTX3 (hts _ zw_iX3)
  obtain ⟨c4, i4, k4⟩ := u_known (C := RX4) (T := TX4) (N := 3) (n := 3) hts inTX4 (hts _ zw_iX4)
  obtain ⟨c5, i5, k5⟩ := u_known (C := RX6) (T := TX6) (N := 17) (n := 17) hts inTX6 (hts _ zw_iX6)
  obtain ⟨c6, i6, k6⟩ := u_known (C := RX7) (T := TX7) (N := 3) (n := 3) hts inTX7 (hts _ zw_iX7)
  obtain ⟨c7, i7, k7⟩ := u_known (C := RX8) (T := TX8) (N := 12) (n := 12) hts inTX8 (hts _ zw_iX8)
  obtain ⟨c8, i8, k8⟩ := u_known (C := RX9) (T := TX9) (N := 4) (n := 4) hts inTX9 (hts _ zw_iX9)
  obtain ⟨c9, i9, k9⟩ := u_known (C := RX10) (T := TX10) (N := 16) (n := 16) hts inTX10 (hts _ zw_iX10)
  obtain ⟨c10, i10, k10⟩ := u_known (C := RX11) (T := TX11) (N := 13) (n := 13) hts inTX11 (hts _ zw_iX11)
  obtain ⟨c11, i11, k11⟩ := u_known (C := RX12) (T := TX12) (N := 52) (n := 52) hts inTX12 (hts _ zw_iX12)
  obtain ⟨D, hKc⟩ : ∃ D : va_G, ∀ (k : Nat) (q : vw_C), vwCl[k]? = some q → u_Kn s q.1 q.2.1 q.2.2 (D.1 k) (D.2 k) := by
    refine ⟨(fun k => ([c0, c1, c2, c3, c4, c5, c6, c7, c8, c9, c10, c11] : List ClassId).getD k 0, fun k => ([i0, i1, i2, i3, i4, i5, i6, i7, i8, i9, i10, i11] : List (Nat → Nat)).getD k (fun _ => 0)), ?_⟩
    intro k q hq
    match k, hq with
    | 0, hq => cases hq; exact k0
    | 1, hq => cases hq; exact k1
    | 2, hq => cases hq; exact k2
    | 3, hq => cases hq; exact k3
    | 4, hq => cases hq; exact k4
    | 5, hq => cases hq; exact k5
    | 6, hq => cases hq; exact k6
    | 7, hq => cases hq; exact k7
    | 8, hq => cases hq; exact k8
    | 9, hq => cases hq; exact k9
    | 10, hq => cases hq; exact k10
    | 11, hq => cases hq; exact k11
    | k + 12, hq => simp [vwCl] at hq
  obtain ⟨a0, kA0, p0, f0, g0, e0⟩ := Cond.arrayClass_spec (hts _ zw_ai)
  obtain ⟨a1, kA1, p1, f1, g1, e1⟩ := Cond.arrayClass_spec (hts _ zw_al)
  obtain ⟨p2, a2, kA2, f2, -, g2, e2, n2⟩ := Cond.arrayOver_spec (hts _ zw_ao)
  obtain ⟨p3, a3, kA3, f3, g3, e3, n3⟩ := Cond.arrayOver_specA (hts _ zw_aa)
  obtain ⟨κ, hK⟩ : ∃ κ : Nat → ClassId, va_K D vwCl (zty κ) s := by
    refine ⟨fun k => ([a0, a1, a2, a3] : List ClassId).getD k 0, hKc, ?_⟩
    intro k q hk
    match k, hk with
    | 0, hk => cases hk; exact ⟨fun n z => ⟨fun k h => (by cases h), kA0, g0, p0, e0⟩, f0⟩
    | 1, hk => cases hk; exact ⟨fun n z => ⟨fun k h => (by cases h), kA1, g1, p1, e1⟩, f1⟩
    | 2, hk => cases hk; exact ⟨fun n z => ⟨fun k h => (by cases h), kA2, g2, p2, e2⟩, kA2, p2, g2, e2, f2, n2⟩
    | 3, hk => cases hk; exact ⟨fun n z => ⟨fun k h => (by cases h), kA3, g3, p3, e3⟩, n3⟩
    | k + 4, hk => simp [zty] at hk
  have hg0 := hs (Cond.eq (.elem (Term.static "BeforeTheEnd" "GREATEST_POINTS" "[I") (.int 0)) (.int 20)) (by decide +kernel)
  have hg1 := hs (Cond.eq (.elem (Term.static "BeforeTheEnd" "GREATEST_POINTS" "[I") (.int 1)) (.int 20)) (by decide +kernel)
  have hg2 := hs (Cond.eq (.elem (Term.static "BeforeTheEnd" "GREATEST_POINTS" "[I") (.int 2)) (.int 5)) (by decide +kernel)
  have hg3 := hs (Cond.eq (.elem (Term.static "BeforeTheEnd" "GREATEST_POINTS" "[I") (.int 3)) (.int 1)) (by decide +kernel)
  obtain ⟨tg, htg, hT⟩ := va_Tof (A := fun q : Nat => s.heap.size ≤ q) (tm := (Term.static "BeforeTheEnd" "GREATEST_POINTS" "[I")) (ty := .int) (N := 4) (f := fun j => .int (zGPn j)) (by decide) (hs (Cond.arrayOf (Term.static "BeforeTheEnd" "GREATEST_POINTS" "[I") .int) (by decide +kernel)) (va_eqt (hs (Cond.eq (.length (Term.static "BeforeTheEnd" "GREATEST_POINTS" "[I")) (.int 4)) (by decide +kernel))) (fun j hj => by
    rcases (show j = 0 ∨ j = 1 ∨ j = 2 ∨ j = 3 by omega) with rfl | rfl | rfl | rfl
    · exact va_eqt hg0
    · exact va_eqt hg1
    · exact va_eqt hg2
    · exact va_eqt hg3) hA
  have hc0 := hs (Cond.eq (.elem (.field (Term.string "BeforeTheEnd$Text" 105) "java/lang/String" "value" "[B") (.int 0)) (.int 101)) (by decide +kernel)
  have hc1 := hs (Cond.eq (.elem (.field (Term.string "BeforeTheEnd$Text" 105) "java/lang/String" "value" "[B") (.int 1)) (.int 115)) (by decide +kernel)
  have hc2 := hs (Cond.eq (.elem (.field (Term.string "BeforeTheEnd$Text" 105) "java/lang/String" "value" "[B") (.int 2)) (.int 98)) (by decide +kernel)
  have hc3 := hs (Cond.eq (.elem (.field (Term.string "BeforeTheEnd$Text" 105) "java/lang/String" "value" "[B") (.int 3)) (.int 108)) (by decide +kernel)
  have hc4 := hs (Cond.eq (.elem (.field (Term.string "BeforeTheEnd$Text" 105) "java/lang/String" "value" "[B") (.int 4)) (.int 116)) (by decide +kernel)
  have hc5 := hs (Cond.eq (.elem (.field (Term.string "BeforeTheEnd$Text" 105) "java/lang/String" "value" "[B") (.int 5)) (.int 97)) (by decide +kernel)
  obtain ⟨adK, adV, hvS, hvK⟩ := vk_Sof (A := fun q : Nat => s.heap.size ≤ q) (N := 1) (tm := fun _ => (Term.string "BeforeTheEnd$Text" 105)) (len := [6]) (byt := [[101, 115, 98, 108, 116, 97]]) (fun i hi => by rcases (show i = 0 by omega) with rfl; decide) (fun i hi => hs (Cond.exactly (Term.string "BeforeTheEnd$Text" 105) "java/lang/String") (by decide +kernel)) (fun i hi => hs (Cond.eq (.field (Term.string "BeforeTheEnd$Text" 105) "java/lang/String" "coder" "B") (.int 0)) (by decide +kernel)) (fun i hi => hs (Cond.arrayOf (.field (Term.string "BeforeTheEnd$Text" 105) "java/lang/String" "value" "[B") .byte) (by decide +kernel)) (fun i hi => by
    rcases (show i = 0 by omega) with rfl
    exact hs (Cond.eq (.length (.field (Term.string "BeforeTheEnd$Text" 105) "java/lang/String" "value" "[B")) (.int 6)) (by decide +kernel)) (fun i hi j hj => by
    rcases (show i = 0 by omega) with rfl
    have hj : j < 6 := hj
    rcases (show j = 0 ∨ j = 1 ∨ j = 2 ∨ j = 3 ∨ j = 4 ∨ j = 5 by omega) with rfl | rfl | rfl | rfl | rfl | rfl
    · exact hc0
    · exact hc1
    · exact hc2
    · exact hc3
    · exact hc4
    · exact hc5) (fun i j hi hj hij => absurd hij (by omega)) hA
  have hE : zE tg (zS adK adV) (fun q : Nat => s.heap.size ≤ q) s := ⟨va_Nw.of rfl (hts _ zw_d1), va_Nw.of rfl (hts _ zw_d2), va_Nw.of rfl (hts _ zw_n9), va_Nw.of rfl (hts _ zw_n18), va_Nw.of rfl (hts _ zw_n79), va_Nw.of rfl (hts _ zw_n83), va_Nw.of rfl (hts _ zw_f158), va_Zof (hts _ zw_gp) (hts _ zw_gi) htg hA, hT, ⟨List.forall_mem_cons.mpr ⟨va_Nw.of rfl (hts _ zw_cX0), List.forall_mem_cons.mpr ⟨va_Nw.of rfl (hts _ zw_cX1), List.forall_mem_cons.mpr ⟨va_Nw.of rfl (hts _ zw_cX2), List.forall_mem_cons.mpr ⟨va_Nw.of rfl (hts _ zw_cX4), List.forall_mem_cons.mpr ⟨va_Nw.of rfl (hts _ zw_cX7), List.forall_mem_cons.mpr ⟨va_Nw.of rfl (hts _ zw_cX9), fun _ h => absurd h List.not_mem_nil⟩⟩⟩⟩⟩⟩, va_AO.of (hts _ zw_ao), hts _ zw_aa⟩, hvS, vk_R.of (hts _ zw_sr) (hvK 0 (by decide)), va_Zof (hts _ zw_cs) (hts _ zw_ci) (va_eqi (hs (Cond.eq (.static "java/lang/String" "COMPACT_STRINGS" "Z") (.int 1)) (by decide +kernel))) hA⟩
  have hEk : zEk (zE tg (zS adK adV)) := zE_k zS_k
  obtain ⟨X, hXd⟩ : ∃ X : zX, X = (p, l, e, room_1, s, m, #[Value.ref b], below, meth, c, D, vwCl, (fun q : Nat => s.heap.size ≤ q), 4, lw_Z below #[Value.ref b] s) := ⟨_, rfl⟩
  have hC : zC X code RL lw_tbl vwCl (zty κ) (zE tg (zS adK adV)) 4 room_1 := by subst hXd; exact ⟨hx, hb, hml, hown, hts, rfl, hK, fun _ h => h, hE, rfl, rfl⟩
  have hB : zB X b L xs := by subst hXd; exact ⟨hX, hbl, Nat.not_le.mpr hbl⟩
  have hLw : zLw X b := by subst hXd; exact ⟨rfl, hr, hlocks, rfl, rfl, fun _ h => h⟩
  have hV : zV X 0 0 [] [(0, .ref b)] [] 0 := by
    refine zr_new (pc := 0) (ci := 10) (T := TX11) (fs := [.null, .null, .null, .null, .null, .int 0, .null, .int 0, .int 0, .int 0, .int 0, .null, .null]) hC inTX11 tyX11 tyX11_ok ⟨zw_clX11, zw_iX11, zw_inX11⟩ rfl (fun j hj => by rcases (show j = 0 ∨ j = 1 ∨ j = 2 ∨ j = 3 ∨ j = 4 ∨ j = 5 ∨ j = 6 ∨ j = 7 ∨ j = 8 ∨ j = 9 ∨ j = 10 ∨ j = 11 ∨ j = 12 by omega) with rfl | rfl | rfl | rfl | rfl | rfl | rfl | rfl | rfl | rfl | rfl | rfl | rfl <;> rfl) (Nat.le_of_ble_eq_true rfl) (Nat.le_of_ble_eq_true rfl) dL_law_0 (fun q => ?_)
    refine zr_dup (pc := 3) hC rfl dL_law_3 ?_
    refine zr_callIp (pc := 4) (wr := []) (wc := [(q, .inr (10, [.null, .null, .null, .null, .null, .int 0, .null, .int 0, .int 0, .int 0, .int 0, .null, .null]))]) hC hEk [] [.ref q] q 0 (fun l D => tX11_init hEk (h0 := q) l D) gL_X11_init rfl rfl rfl zw_mkX11 rfl hyCLX11 ⟨(Nat.le_of_ble_eq_true rfl), (Nat.le_of_ble_eq_true rfl)⟩ rfl rfl (Nat.le_of_ble_eq_true rfl) ⟨(Nat.le_of_ble_eq_true rfl), (Nat.le_of_ble_eq_true rfl)⟩ dL_law_4 (fun rv w1 hpo => ?_)
    obtain ⟨ad, rfl, rfl, rfl⟩ := hpo
    show zV X 81 1017 (zwC κ ad zT0 zR0 zX0 zF0 zB0 zP0) [(0, .ref b)] [.ref (ad 76)] 7
    refine zr_astore_n (pc := 7) (lv' := [(1, .ref (ad 76)), (0, .ref b)]) hC rfl (by decide) rfl dL_law_7 ?_
    refine zr_new (pc := 8) (ci := 11) (T := TX12) (fs := [.null, .null, .null, .null, .null, .null, .null, .null, .null, .null, .null, .null, .int 0, .int 0, .null, .null, .null, .null, .null, .null, .null, .int 0, .int 0, .int 0, .null, .null, .null, .null, .null, .long 0, .null, .int 0, .null, .null, .int 0, .int 0, .int 0, .int 0, .int 0, .long 0, .int 0, .null, .null, .null, .int 0, .int 0, .null, .int 0, .null, .int 0, .int 0, .int 0]) hC inTX12 tyX12 tyX12_ok ⟨zw_clX12, zw_iX12, zw_inX12⟩ rfl (fun j hj => by rcases (show j = 0 ∨ j = 1 ∨ j = 2 ∨ j = 3 ∨ j = 4 ∨ j = 5 ∨ j = 6 ∨ j = 7 ∨ j = 8 ∨ j = 9 ∨ j = 10 ∨ j = 11 ∨ j = 12 ∨ j = 13 ∨ j = 14 ∨ j = 15 ∨ j = 16 ∨ j = 17 ∨ j = 18 ∨ j = 19 ∨ j = 20 ∨ j = 21 ∨ j = 22 ∨ j = 23 ∨ j = 24 ∨ j = 25 ∨ j = 26 ∨ j = 27 ∨ j = 28 ∨ j = 29 ∨ j = 30 ∨ j = 31 ∨ j = 32 ∨ j = 33 ∨ j = 34 ∨ j = 35 ∨ j = 36 ∨ j = 37 ∨ j = 38 ∨ j = 39 ∨ j = 40 ∨ j = 41 ∨ j = 42 ∨ j = 43 ∨ j = 44 ∨ j = 45 ∨ j = 46 ∨ j = 47 ∨ j = 48 ∨ j = 49 ∨ j = 50 ∨ j = 51 by omega) with rfl | rfl | rfl | rfl | rfl | rfl | rfl | rfl | rfl | rfl | rfl | rfl | rfl | rfl | rfl | rfl | rfl | rfl | rfl | rfl | rfl | rfl | rfl | rfl | rfl | rfl | rfl | rfl | rfl | rfl | rfl | rfl | rfl | rfl | rfl | rfl | rfl | rfl | rfl | rfl | rfl | rfl | rfl | rfl | rfl | rfl | rfl | rfl | rfl | rfl | rfl | rfl <;> rfl) (Nat.le_of_ble_eq_true rfl) (Nat.le_of_ble_eq_true rfl) dL_law_8 (fun q => ?_)
    refine zr_dup (pc := 11) hC rfl dL_law_11 ?_
    refine zr_callIp (pc := 12) (cells := 82) (slots := 1069) (wr := zwC κ ad zT0 zR0 zX0 zF0 zB0 zP0) (wc := [(q, .inr (11, [.null, .null, .null, .null, .null, .null, .null, .null, .null, .null, .null, .null, .int 0, .int 0, .null, .null, .null, .null, .null, .null, .null, .int 0, .int 0, .int 0, .null, .null, .null, .null, .null, .long 0, .null, .int 0, .null, .null, .int 0, .int 0, .int 0, .int 0, .int 0, .long 0, .int 0, .null, .null, .null, .int 0, .int 0, .null, .int 0, .null, .int 0, .int 0, .int 0]))]) hC hEk [] [.ref q] q 0 (fun l D => tX12_init hEk (h0 := q) l D) gL_X12_init rfl rfl rfl zw_mkX12 rfl hyCLX12 ⟨(Nat.le_of_ble_eq_true rfl), (Nat.le_of_ble_eq_true rfl)⟩ rfl rfl (Nat.le_of_ble_eq_true rfl) ⟨(Nat.le_of_ble_eq_true rfl), (Nat.le_of_ble_eq_true rfl)⟩ dL_law_12 (fun rv w1 hpo => ?_)
    obtain ⟨am, rfl, rfl, rfl⟩ := hpo
    show zV X 114 2051 (zwC κ ad zT0 zR0 zX0 zF0 zB0 zP0 ++ zwM κ am zM0) [(1, .ref (ad 76)), (0, .ref b)] [.ref (am 0)] 15
    refine zr_astore_n (pc := 15) (lv' := [(2, .ref (am 0)), (1, .ref (ad 76)), (0, .ref b)]) hC rfl (by decide) rfl dL_law_15 ?_
    refine zr_iconst (pc := 16) hC zki_0 dL_law_16 ?_
    refine zr_istore_n (pc := 17) (lv' := [(3, .int 0), (2, .ref (am 0)), (1, .ref (ad 76)), (0, .ref b)]) hC rfl (by decide) rfl dL_law_17 ?_
    refine zr_swap ?_
    refine zV.sub (lv' := [(0, .ref b), (1, .ref (ad 76)), (2, .ref (am 0)), (3, .int 0)]) [3, 2, 1, 0] rfl ?_
    exact tL_loop hC hEk hB hLw hL I hI 513 0 rfl (zT0, zR0, zX0, zF0, zB0, zP0, zM0) ad am 114 2051 h0 (by decide) (by decide)
  subst hXd
  rw [lg_entry_eq]
  exact hV s.heap [] _ (fun k q h => by simp at h) ⟨fun i j p q h => by simp at h, fun k q h => by simp at h⟩ va_S.rf (lv_entry [.ref b] (n := 4) (Nat.le_of_ble_eq_true rfl))
