/-! X5_init_k0 -/
theorem hyIX5_init : yX5_init.cls ≠ "java/lang/invoke/MethodHandle" ∧ yX5_init.cls ≠ "java/lang/invoke/VarHandle" ∧ (parseMethodDescriptor yX5_init.desc).map (fun d => d.parameters.length) = some 3 := by decide +kernel
theorem flX5_init_k0_15 : Cond.fieldLink RX5 15 "BeforeTheEnd$Player" "sure" "I" ∈ wsX5_init := by decide +kernel
theorem flX5_init_k0_18 : Cond.fieldLink RX5 18 "BeforeTheEnd$Player" "knows" "I" ∈ wsX5_init := by decide +kernel
theorem flX5_init_k0_9 : Cond.fieldLink RX5 9 "BeforeTheEnd$Player" "hand" "I" ∈ wsX5_init := by decide +kernel
theorem lowX5_init_k0 : Cond.methodLink RX5 3 objectInit ∈ wsX5_init ∧ Cond.instanceMethod objectInit ∈ wsX5_init ∧ Cond.code objectInit ⟨#[0xb1]⟩ 1 none ∈ wsX5_init := by decide +kernel
theorem hinX5_init_k0_X0 : ∀ w ∈ wsX00, w ∈ wsX5_init := fun _ h => List.mem_cons_of_mem _ (List.mem_append_left _ (List.mem_append_left _ (List.mem_append_left _ (List.mem_append_left _ (List.mem_append_left _ (List.mem_append_right _ h))))))
theorem hinX5_init_k0_X1 : ∀ w ∈ wsX10, w ∈ wsX5_init := fun _ h => List.mem_cons_of_mem _ (List.mem_append_left _ (List.mem_append_left _ (List.mem_append_left _ (List.mem_append_left _ (List.mem_append_right _ h)))))
theorem hinX5_init_k0_X2 : ∀ w ∈ wsX20, w ∈ wsX5_init := fun _ h => List.mem_cons_of_mem _ (List.mem_append_left _ (List.mem_append_left _ (List.mem_append_left _ (List.mem_append_right _ h))))
theorem hinX5_init_k0_X4 : ∀ w ∈ wsX40, w ∈ wsX5_init := fun _ h => List.mem_cons_of_mem _ (List.mem_append_left _ (List.mem_append_left _ (List.mem_append_right _ h)))
theorem hinX5_init_k0_X7 : ∀ w ∈ wsX70, w ∈ wsX5_init := fun _ h => List.mem_cons_of_mem _ (List.mem_append_left _ (List.mem_append_right _ h))
theorem hinX5_init_k0_X9 : ∀ w ∈ wsX90, w ∈ wsX5_init := fun _ h => List.mem_cons_of_mem _ (List.mem_append_right _ h)
def xX5_init_k0 (pP : zP) (v0 : Nat) (v1 : Int32) (v2 : Int32) (v3 : Int32) : Option zP :=
  zlet (zpf pP v0 0 v1) fun M1 =>
  zlet (zpf M1 v0 1 v2) fun M3 =>
  zlet (zpf M3 v0 2 v3) fun M5 =>
  some M5
set_option maxHeartbeats 4000000 in
set_option maxRecDepth 100000 in
theorem tX5_init_k0 {κ : Nat → ClassId} {tg : Nat} {S : zEn} {ad : Nat → Nat} (hEk : zEk (zE tg S)) {pT : zM} {pR : zM} {pX : zM} {pF : zM} {pB : zM} {pP : zP} {v0 : Nat} {v1 : Int32} {v2 : Int32} {v3 : Int32} (hk : pP.2.1 v0 = 0) (hv0 : v0 < pP.2.2.2) {res : zP} (h : xX5_init_k0 pP v0 v1 v2 v3 = some res) (l : Launch) (D : va_G) : zCT (zE tg S) D vwCl (zty κ) l yX5_init wsX5_init ({ frames := 1, cells := 0, slots := 0, locals := 21 } : Room) 0 0 [.ref (ad (81 + v0)), .int v1, .int v2, .int v3] (zwC κ ad pT pR pX pF pB pP) (zPd none (zwC κ ad pT pR pX pF pB res)) := by
  refine zCT.ofI (bytes := cX5_init) (maxL := 4) (ret := none) rfl (by decide) rfl (Nat.le_of_ble_eq_true rfl) ?_
  intro X hC hR hI
  unfold xX5_init_k0 at h
  refine zV.sub (lv' := [(0, .ref (ad (81 + v0))), (1, .int v1), (2, .int v2), (3, .int v3)]) [0, 1, 2, 3] rfl ?_
  refine zr_aload_n (pc := 0) hC 0 rfl rfl dX5_init_0 ?_
  refine zr_objInit (pc := 1) hC lowX5_init_k0 (Nat.le_of_ble_eq_true rfl) (Nat.le_of_ble_eq_true rfl) dX5_init_1 ?_
  refine zr_aload_n (pc := 4) hC 0 rfl rfl dX5_init_4 ?_
  refine zr_iload_n (pc := 5) hC 1 rfl rfl dX5_init_5 ?_
  obtain ⟨M1, e2, h⟩ := zle h
  refine zppF_0_0 (pc := 6) hC hI hinX5_init_k0_X2 flX5_init_k0_9 hk hv0 e2 dX5_init_6 (fun hk hv0 => ?_)
  refine zr_aload_n (pc := 9) hC 0 rfl rfl dX5_init_9 ?_
  refine zr_iload_n (pc := 10) hC 2 rfl rfl dX5_init_10 ?_
  obtain ⟨M3, e4, h⟩ := zle h
  refine zppF_0_1 (pc := 11) hC hI hinX5_init_k0_X2 flX5_init_k0_15 hk hv0 e4 dX5_init_11 (fun hk hv0 => ?_)
  refine zr_aload_n (pc := 14) hC 0 rfl rfl dX5_init_14 ?_
  refine zr_iload_n (pc := 15) hC 3 rfl rfl dX5_init_15 ?_
  obtain ⟨M5, e6, h⟩ := zle h
  refine zppF_0_2 (pc := 16) hC hI hinX5_init_k0_X2 flX5_init_k0_18 hk hv0 e6 dX5_init_16 (fun hk hv0 => ?_)
  obtain rfl := Option.some.inj h
  exact zr_vret hC hR ⟨rfl, rfl⟩ (Nat.le_refl _) (Nat.le_refl _) dX5_init_19
theorem kX5_init_k0 {pP : zP} {v0 : Nat} {v1 v2 v3 : Int32} {q : zP} (h : xX5_init_k0 pP v0 v1 v2 v3 = some q) : q.2.1 = pP.2.1 ∧ q.2.2.2 = pP.2.2.2 := by
  unfold xX5_init_k0 at h
  obtain ⟨M1, e1, h⟩ := zle h
  obtain ⟨M2, e2, h⟩ := zle h
  obtain ⟨M3, e3, h⟩ := zle h
  obtain rfl := Option.some.inj h
  subst e1 e2 e3
  exact ⟨rfl, rfl⟩
/-! X2_init_k0 -/
theorem hyIX2_init : yX2_init.cls ≠ "java/lang/invoke/MethodHandle" ∧ yX2_init.cls ≠ "java/lang/invoke/VarHandle" ∧ (parseMethodDescriptor yX2_init.desc).map (fun d => d.parameters.length) = some 3 := by decide +kernel
theorem wiX2_init_k0_X5_init : Cond.initialized yX5_init.cls ∈ wsX2_init ∧ Cond.methodLink RX2 3 yX5_init ∈ wsX2_init ∧ Cond.instanceMethod yX5_init ∈ wsX2_init := by decide +kernel
theorem hinX2_init_k0_X0 : ∀ w ∈ wsX00, w ∈ wsX2_init := fun _ h => List.mem_cons_of_mem _ (List.mem_append_left _ (List.mem_append_left _ (List.mem_append_left _ (List.mem_append_left _ (List.mem_append_left _ (List.mem_append_right _ h))))))
theorem hinX2_init_k0_X1 : ∀ w ∈ wsX10, w ∈ wsX2_init := fun _ h => List.mem_cons_of_mem _ (List.mem_append_left _ (List.mem_append_left _ (List.mem_append_left _ (List.mem_append_left _ (List.mem_append_right _ h)))))
theorem hinX2_init_k0_X2 : ∀ w ∈ wsX20, w ∈ wsX2_init := fun _ h => List.mem_cons_of_mem _ (List.mem_append_left _ (List.mem_append_left _ (List.mem_append_left _ (List.mem_append_right _ h))))
theorem hinX2_init_k0_X4 : ∀ w ∈ wsX40, w ∈ wsX2_init := fun _ h => List.mem_cons_of_mem _ (List.mem_append_left _ (List.mem_append_left _ (List.mem_append_right _ h)))
theorem hinX2_init_k0_X7 : ∀ w ∈ wsX70, w ∈ wsX2_init := fun _ h => List.mem_cons_of_mem _ (List.mem_append_left _ (List.mem_append_right _ h))
theorem hinX2_init_k0_X9 : ∀ w ∈ wsX90, w ∈ wsX2_init := fun _ h => List.mem_cons_of_mem _ (List.mem_append_right _ h)
def xX2_init_k0 (pP : zP) (v0 : Nat) (v1 : Int32) (v2 : Int32) (v3 : Int32) : Option zP :=
  (xX5_init_k0 pP v0 v1 v2 v3).bind fun q1 =>
  some q1
set_option maxHeartbeats 4000000 in
set_option maxRecDepth 100000 in
theorem tX2_init_k0 {κ : Nat → ClassId} {tg : Nat} {S : zEn} {ad : Nat → Nat} (hEk : zEk (zE tg S)) {pT : zM} {pR : zM} {pX : zM} {pF : zM} {pB : zM} {pP : zP} {v0 : Nat} {v1 : Int32} {v2 : Int32} {v3 : Int32} (hk : pP.2.1 v0 = 0) (hv0 : v0 < pP.2.2.2) {res : zP} (h : xX2_init_k0 pP v0 v1 v2 v3 = some res) (l : Launch) (D : va_G) : zCT (zE tg S) D vwCl (zty κ) l yX2_init wsX2_init ({ frames := 2, cells := 0, slots := 0, locals := 44 } : Room) 0 0 [.ref (ad (81 + v0)), .int v1, .int v2, .int v3] (zwC κ ad pT pR pX pF pB pP) (zPd none (zwC κ ad pT pR pX pF pB res)) := by
  refine zCT.ofI (bytes := cX2_init) (maxL := 4) (ret := none) rfl (by decide) rfl (Nat.le_of_ble_eq_true rfl) ?_
  intro X hC hR hI
  unfold xX2_init_k0 at h
  refine zV.sub (lv' := [(0, .ref (ad (81 + v0))), (1, .int v1), (2, .int v2), (3, .int v3)]) [0, 1, 2, 3] rfl ?_
  refine zr_aload_n (pc := 0) hC 0 rfl rfl dX2_init_0 ?_
  refine zr_iload_n (pc := 1) hC 1 rfl rfl dX2_init_1 ?_
  refine zr_iload_n (pc := 2) hC 2 rfl rfl dX2_init_2 ?_
  refine zr_iload_n (pc := 3) hC 3 rfl rfl dX2_init_3 ?_
  obtain ⟨q1, hq1, h⟩ := zbd h
  refine zr_cI (pc := 4) hC hEk [.int v1, .int v2, .int v3] [] (81 + v0) 3 (fun l D => tX5_init_k0 hEk hk hv0 hq1 l D) gX2_init_X5_init rfl rfl rfl wiX2_init_k0_X5_init rfl hyIX5_init ⟨Nat.le_of_ble_eq_true rfl, Nat.le_of_ble_eq_true rfl⟩ rfl rfl (Nat.le_of_ble_eq_true rfl) ⟨Nat.le_of_ble_eq_true rfl, Nat.le_of_ble_eq_true rfl⟩ dX2_init_4 ?_
  have hk : q1.2.1 v0 = 0 := by have h8 := (kX5_init_k0 hq1).1; first | (rw [h8]; exact hk) | (unfold zk5 at hk ⊢; rw [h8]; exact hk)
  have hv0 : v0 < q1.2.2.2 := by rw [(kX5_init_k0 hq1).2]; exact hv0
  obtain rfl := Option.some.inj h
  exact zr_vret hC hR ⟨rfl, rfl⟩ (Nat.le_refl _) (Nat.le_refl _) dX2_init_7
theorem kX2_init_k0 {pP : zP} {v0 : Nat} {v1 v2 v3 : Int32} {q : zP} (h : xX2_init_k0 pP v0 v1 v2 v3 = some q) : q.2.1 = pP.2.1 ∧ q.2.2.2 = pP.2.2.2 := by
  unfold xX2_init_k0 at h
  obtain ⟨q1, h1, h⟩ := zbd h
  obtain rfl := Option.some.inj h
  have h8 := kX5_init_k0 h1
  exact ⟨h8.1, h8.2⟩
/-! X5_init_k1 -/
theorem flX5_init_k1_15 : Cond.fieldLink RX5 15 "BeforeTheEnd$Player" "sure" "I" ∈ wsX5_init := by decide +kernel
theorem flX5_init_k1_18 : Cond.fieldLink RX5 18 "BeforeTheEnd$Player" "knows" "I" ∈ wsX5_init := by decide +kernel
theorem flX5_init_k1_9 : Cond.fieldLink RX5 9 "BeforeTheEnd$Player" "hand" "I" ∈ wsX5_init := by decide +kernel
theorem lowX5_init_k1 : Cond.methodLink RX5 3 objectInit ∈ wsX5_init ∧ Cond.instanceMethod objectInit ∈ wsX5_init ∧ Cond.code objectInit ⟨#[0xb1]⟩ 1 none ∈ wsX5_init := by decide +kernel
theorem hinX5_init_k1_X0 : ∀ w ∈ wsX00, w ∈ wsX5_init := fun _ h => List.mem_cons_of_mem _ (List.mem_append_left _ (List.mem_append_left _ (List.mem_append_left _ (List.mem_append_left _ (List.mem_append_left _ (List.mem_append_right _ h))))))
theorem hinX5_init_k1_X1 : ∀ w ∈ wsX10, w ∈ wsX5_init := fun _ h => List.mem_cons_of_mem _ (List.mem_append_left _ (List.mem_append_left _ (List.mem_append_left _ (List.mem_append_left _ (List.mem_append_right _ h)))))
theorem hinX5_init_k1_X2 : ∀ w ∈ wsX20, w ∈ wsX5_init := fun _ h => List.mem_cons_of_mem _ (List.mem_append_left _ (List.mem_append_left _ (List.mem_append_left _ (List.mem_append_right _ h))))
theorem hinX5_init_k1_X4 : ∀ w ∈ wsX40, w ∈ wsX5_init := fun _ h => List.mem_cons_of_mem _ (List.mem_append_left _ (List.mem_append_left _ (List.mem_append_right _ h)))
theorem hinX5_init_k1_X7 : ∀ w ∈ wsX70, w ∈ wsX5_init := fun _ h => List.mem_cons_of_mem _ (List.mem_append_left _ (List.mem_append_right _ h))
theorem hinX5_init_k1_X9 : ∀ w ∈ wsX90, w ∈ wsX5_init := fun _ h => List.mem_cons_of_mem _ (List.mem_append_right _ h)
def xX5_init_k1 (pP : zP) (v0 : Nat) (v1 : Int32) (v2 : Int32) (v3 : Int32) : Option zP :=
  zlet (zpf pP v0 0 v1) fun M1 =>
  zlet (zpf M1 v0 1 v2) fun M3 =>
  zlet (zpf M3 v0 2 v3) fun M5 =>
  some M5
set_option maxHeartbeats 4000000 in
set_option maxRecDepth 100000 in
theorem tX5_init_k1 {κ : Nat → ClassId} {tg : Nat} {S : zEn} {ad : Nat → Nat} (hEk : zEk (zE tg S)) {pT : zM} {pR : zM} {pX : zM} {pF : zM} {pB : zM} {pP : zP} {v0 : Nat} {v1 : Int32} {v2 : Int32} {v3 : Int32} (hk : pP.2.1 v0 = 1) (hv0 : v0 < pP.2.2.2) {res : zP} (h : xX5_init_k1 pP v0 v1 v2 v3 = some res) (l : Launch) (D : va_G) : zCT (zE tg S) D vwCl (zty κ) l yX5_init wsX5_init ({ frames := 1, cells := 0, slots := 0, locals := 21 } : Room) 0 0 [.ref (ad (81 + v0)), .int v1, .int v2, .int v3] (zwC κ ad pT pR pX pF pB pP) (zPd none (zwC κ ad pT pR pX pF pB res)) := by
  refine zCT.ofI (bytes := cX5_init) (maxL := 4) (ret := none) rfl (by decide) rfl (Nat.le_of_ble_eq_true rfl) ?_
  intro X hC hR hI
  unfold xX5_init_k1 at h
  refine zV.sub (lv' := [(0, .ref (ad (81 + v0))), (1, .int v1), (2, .int v2), (3, .int v3)]) [0, 1, 2, 3] rfl ?_
  refine zr_aload_n (pc := 0) hC 0 rfl rfl dX5_init_0 ?_
  refine zr_objInit (pc := 1) hC lowX5_init_k1 (Nat.le_of_ble_eq_true rfl) (Nat.le_of_ble_eq_true rfl) dX5_init_1 ?_
  refine zr_aload_n (pc := 4) hC 0 rfl rfl dX5_init_4 ?_
  refine zr_iload_n (pc := 5) hC 1 rfl rfl dX5_init_5 ?_
  obtain ⟨M1, e2, h⟩ := zle h
  refine zppF_1_0 (pc := 6) hC hI hinX5_init_k1_X7 flX5_init_k1_9 hk hv0 e2 dX5_init_6 (fun hk hv0 => ?_)
  refine zr_aload_n (pc := 9) hC 0 rfl rfl dX5_init_9 ?_
  refine zr_iload_n (pc := 10) hC 2 rfl rfl dX5_init_10 ?_
  obtain ⟨M3, e4, h⟩ := zle h
  refine zppF_1_1 (pc := 11) hC hI hinX5_init_k1_X7 flX5_init_k1_15 hk hv0 e4 dX5_init_11 (fun hk hv0 => ?_)
  refine zr_aload_n (pc := 14) hC 0 rfl rfl dX5_init_14 ?_
  refine zr_iload_n (pc := 15) hC 3 rfl rfl dX5_init_15 ?_
  obtain ⟨M5, e6, h⟩ := zle h
  refine zppF_1_2 (pc := 16) hC hI hinX5_init_k1_X7 flX5_init_k1_18 hk hv0 e6 dX5_init_16 (fun hk hv0 => ?_)
  obtain rfl := Option.some.inj h
  exact zr_vret hC hR ⟨rfl, rfl⟩ (Nat.le_refl _) (Nat.le_refl _) dX5_init_19
theorem kX5_init_k1 {pP : zP} {v0 : Nat} {v1 v2 v3 : Int32} {q : zP} (h : xX5_init_k1 pP v0 v1 v2 v3 = some q) : q.2.1 = pP.2.1 ∧ q.2.2.2 = pP.2.2.2 := by
  unfold xX5_init_k1 at h
  obtain ⟨M1, e1, h⟩ := zle h
  obtain ⟨M2, e2, h⟩ := zle h
  obtain ⟨M3, e3, h⟩ := zle h
  obtain rfl := Option.some.inj h
  subst e1 e2 e3
  exact ⟨rfl, rfl⟩
/-! X7_init_k1 -/
theorem hyIX7_init : yX7_init.cls ≠ "java/lang/invoke/MethodHandle" ∧ yX7_init.cls ≠ "java/lang/invoke/VarHandle" ∧ (parseMethodDescriptor yX7_init.desc).map (fun d => d.parameters.length) = some 3 := by decide +kernel
theorem wiX7_init_k1_X5_init : Cond.initialized yX5_init.cls ∈ wsX7_init ∧ Cond.methodLink RX7 3 yX5_init ∈ wsX7_init ∧ Cond.instanceMethod yX5_init ∈ wsX7_init := by decide +kernel
theorem hinX7_init_k1_X0 : ∀ w ∈ wsX00, w ∈ wsX7_init := fun _ h => List.mem_cons_of_mem _ (List.mem_append_left _ (List.mem_append_left _ (List.mem_append_left _ (List.mem_append_left _ (List.mem_append_left _ (List.mem_append_right _ h))))))
theorem hinX7_init_k1_X1 : ∀ w ∈ wsX10, w ∈ wsX7_init := fun _ h => List.mem_cons_of_mem _ (List.mem_append_left _ (List.mem_append_left _ (List.mem_append_left _ (List.mem_append_left _ (List.mem_append_right _ h)))))
theorem hinX7_init_k1_X2 : ∀ w ∈ wsX20, w ∈ wsX7_init := fun _ h => List.mem_cons_of_mem _ (List.mem_append_left _ (List.mem_append_left _ (List.mem_append_left _ (List.mem_append_right _ h))))
theorem hinX7_init_k1_X4 : ∀ w ∈ wsX40, w ∈ wsX7_init := fun _ h => List.mem_cons_of_mem _ (List.mem_append_left _ (List.mem_append_left _ (List.mem_append_right _ h)))
theorem hinX7_init_k1_X7 : ∀ w ∈ wsX70, w ∈ wsX7_init := fun _ h => List.mem_cons_of_mem _ (List.mem_append_left _ (List.mem_append_right _ h))
theorem hinX7_init_k1_X9 : ∀ w ∈ wsX90, w ∈ wsX7_init := fun _ h => List.mem_cons_of_mem _ (List.mem_append_right _ h)
def xX7_init_k1 (pP : zP) (v0 : Nat) (v1 : Int32) (v2 : Int32) (v3 : Int32) : Option zP :=
  (xX5_init_k1 pP v0 v1 v2 v3).bind fun q1 =>
  some q1
set_option maxHeartbeats 4000000 in
set_option maxRecDepth 100000 in
theorem tX7_init_k1 {κ : Nat → ClassId} {tg : Nat} {S : zEn} {ad : Nat → Nat} (hEk : zEk (zE tg S)) {pT : zM} {pR : zM} {pX : zM} {pF : zM} {pB : zM} {pP : zP} {v0 : Nat} {v1 : Int32} {v2 : Int32} {v3 : Int32} (hk : pP.2.1 v0 = 1) (hv0 : v0 < pP.2.2.2) {res : zP} (h : xX7_init_k1 pP v0 v1 v2 v3 = some res) (l : Launch) (D : va_G) : zCT (zE tg S) D vwCl (zty κ) l yX7_init wsX7_init ({ frames := 2, cells := 0, slots := 0, locals := 44 } : Room) 0 0 [.ref (ad (81 + v0)), .int v1, .int v2, .int v3] (zwC κ ad pT pR pX pF pB pP) (zPd none (zwC κ ad pT pR pX pF pB res)) := by
  refine zCT.ofI (bytes := cX7_init) (maxL := 4) (ret := none) rfl (by decide) rfl (Nat.le_of_ble_eq_true rfl) ?_
  intro X hC hR hI
  unfold xX7_init_k1 at h
  refine zV.sub (lv' := [(0, .ref (ad (81 + v0))), (1, .int v1), (2, .int v2), (3, .int v3)]) [0, 1, 2, 3] rfl ?_
  refine zr_aload_n (pc := 0) hC 0 rfl rfl dX7_init_0 ?_
  refine zr_iload_n (pc := 1) hC 1 rfl rfl dX7_init_1 ?_
  refine zr_iload_n (pc := 2) hC 2 rfl rfl dX7_init_2 ?_
  refine zr_iload_n (pc := 3) hC 3 rfl rfl dX7_init_3 ?_
  obtain ⟨q1, hq1, h⟩ := zbd h
  refine zr_cI (pc := 4) hC hEk [.int v1, .int v2, .int v3] [] (81 + v0) 3 (fun l D => tX5_init_k1 hEk hk hv0 hq1 l D) gX7_init_X5_init rfl rfl rfl wiX7_init_k1_X5_init rfl hyIX5_init ⟨Nat.le_of_ble_eq_true rfl, Nat.le_of_ble_eq_true rfl⟩ rfl rfl (Nat.le_of_ble_eq_true rfl) ⟨Nat.le_of_ble_eq_true rfl, Nat.le_of_ble_eq_true rfl⟩ dX7_init_4 ?_
  have hk : q1.2.1 v0 = 1 := by have h8 := (kX5_init_k1 hq1).1; first | (rw [h8]; exact hk) | (unfold zk5 at hk ⊢; rw [h8]; exact hk)
  have hv0 : v0 < q1.2.2.2 := by rw [(kX5_init_k1 hq1).2]; exact hv0
  obtain rfl := Option.some.inj h
  exact zr_vret hC hR ⟨rfl, rfl⟩ (Nat.le_refl _) (Nat.le_refl _) dX7_init_7
theorem kX7_init_k1 {pP : zP} {v0 : Nat} {v1 v2 v3 : Int32} {q : zP} (h : xX7_init_k1 pP v0 v1 v2 v3 = some q) : q.2.1 = pP.2.1 ∧ q.2.2.2 = pP.2.2.2 := by
  unfold xX7_init_k1 at h
  obtain ⟨q1, h1, h⟩ := zbd h
  obtain rfl := Option.some.inj h
  have h8 := kX5_init_k1 h1
  exact ⟨h8.1, h8.2⟩
/-! X5_init_k2 -/
theorem flX5_init_k2_15 : Cond.fieldLink RX5 15 "BeforeTheEnd$Player" "sure" "I" ∈ wsX5_init := by decide +kernel
theorem flX5_init_k2_18 : Cond.fieldLink RX5 18 "BeforeTheEnd$Player" "knows" "I" ∈ wsX5_init := by decide +kernel
theorem flX5_init_k2_9 : Cond.fieldLink RX5 9 "BeforeTheEnd$Player" "hand" "I" ∈ wsX5_init := by decide +kernel
theorem lowX5_init_k2 : Cond.methodLink RX5 3 objectInit ∈ wsX5_init ∧ Cond.instanceMethod objectInit ∈ wsX5_init ∧ Cond.code objectInit ⟨#[0xb1]⟩ 1 none ∈ wsX5_init := by decide +kernel
theorem hinX5_init_k2_X0 : ∀ w ∈ wsX00, w ∈ wsX5_init := fun _ h => List.mem_cons_of_mem _ (List.mem_append_left _ (List.mem_append_left _ (List.mem_append_left _ (List.mem_append_left _ (List.mem_append_left _ (List.mem_append_right _ h))))))
theorem hinX5_init_k2_X1 : ∀ w ∈ wsX10, w ∈ wsX5_init := fun _ h => List.mem_cons_of_mem _ (List.mem_append_left _ (List.mem_append_left _ (List.mem_append_left _ (List.mem_append_left _ (List.mem_append_right _ h)))))
theorem hinX5_init_k2_X2 : ∀ w ∈ wsX20, w ∈ wsX5_init := fun _ h => List.mem_cons_of_mem _ (List.mem_append_left _ (List.mem_append_left _ (List.mem_append_left _ (List.mem_append_right _ h))))
theorem hinX5_init_k2_X4 : ∀ w ∈ wsX40, w ∈ wsX5_init := fun _ h => List.mem_cons_of_mem _ (List.mem_append_left _ (List.mem_append_left _ (List.mem_append_right _ h)))
theorem hinX5_init_k2_X7 : ∀ w ∈ wsX70, w ∈ wsX5_init := fun _ h => List.mem_cons_of_mem _ (List.mem_append_left _ (List.mem_append_right _ h))
theorem hinX5_init_k2_X9 : ∀ w ∈ wsX90, w ∈ wsX5_init := fun _ h => List.mem_cons_of_mem _ (List.mem_append_right _ h)
def xX5_init_k2 (pP : zP) (v0 : Nat) (v1 : Int32) (v2 : Int32) (v3 : Int32) : Option zP :=
  zlet (zpf pP v0 0 v1) fun M1 =>
  zlet (zpf M1 v0 1 v2) fun M3 =>
  zlet (zpf M3 v0 2 v3) fun M5 =>
  some M5
set_option maxHeartbeats 4000000 in
set_option maxRecDepth 100000 in
theorem tX5_init_k2 {κ : Nat → ClassId} {tg : Nat} {S : zEn} {ad : Nat → Nat} (hEk : zEk (zE tg S)) {pT : zM} {pR : zM} {pX : zM} {pF : zM} {pB : zM} {pP : zP} {v0 : Nat} {v1 : Int32} {v2 : Int32} {v3 : Int32} (hk : pP.2.1 v0 = 2) (hv0 : v0 < pP.2.2.2) {res : zP} (h : xX5_init_k2 pP v0 v1 v2 v3 = some res) (l : Launch) (D : va_G) : zCT (zE tg S) D vwCl (zty κ) l yX5_init wsX5_init ({ frames := 1, cells := 0, slots := 0, locals := 21 } : Room) 0 0 [.ref (ad (81 + v0)), .int v1, .int v2, .int v3] (zwC κ ad pT pR pX pF pB pP) (zPd none (zwC κ ad pT pR pX pF pB res)) := by
  refine zCT.ofI (bytes := cX5_init) (maxL := 4) (ret := none) rfl (by decide) rfl (Nat.le_of_ble_eq_true rfl) ?_
  intro X hC hR hI
  unfold xX5_init_k2 at h
  refine zV.sub (lv' := [(0, .ref (ad (81 + v0))), (1, .int v1), (2, .int v2), (3, .int v3)]) [0, 1, 2, 3] rfl ?_
  refine zr_aload_n (pc := 0) hC 0 rfl rfl dX5_init_0 ?_
  refine zr_objInit (pc := 1) hC lowX5_init_k2 (Nat.le_of_ble_eq_true rfl) (Nat.le_of_ble_eq_true rfl) dX5_init_1 ?_
  refine zr_aload_n (pc := 4) hC 0 rfl rfl dX5_init_4 ?_
  refine zr_iload_n (pc := 5) hC 1 rfl rfl dX5_init_5 ?_
  obtain ⟨M1, e2, h⟩ := zle h
  refine zppF_2_0 (pc := 6) hC hI hinX5_init_k2_X1 flX5_init_k2_9 hk hv0 e2 dX5_init_6 (fun hk hv0 => ?_)
  refine zr_aload_n (pc := 9) hC 0 rfl rfl dX5_init_9 ?_
  refine zr_iload_n (pc := 10) hC 2 rfl rfl dX5_init_10 ?_
  obtain ⟨M3, e4, h⟩ := zle h
  refine zppF_2_1 (pc := 11) hC hI hinX5_init_k2_X1 flX5_init_k2_15 hk hv0 e4 dX5_init_11 (fun hk hv0 => ?_)
  refine zr_aload_n (pc := 14) hC 0 rfl rfl dX5_init_14 ?_
  refine zr_iload_n (pc := 15) hC 3 rfl rfl dX5_init_15 ?_
  obtain ⟨M5, e6, h⟩ := zle h
  refine zppF_2_2 (pc := 16) hC hI hinX5_init_k2_X1 flX5_init_k2_18 hk hv0 e6 dX5_init_16 (fun hk hv0 => ?_)
  obtain rfl := Option.some.inj h
  exact zr_vret hC hR ⟨rfl, rfl⟩ (Nat.le_refl _) (Nat.le_refl _) dX5_init_19
theorem kX5_init_k2 {pP : zP} {v0 : Nat} {v1 v2 v3 : Int32} {q : zP} (h : xX5_init_k2 pP v0 v1 v2 v3 = some q) : q.2.1 = pP.2.1 ∧ q.2.2.2 = pP.2.2.2 := by
  unfold xX5_init_k2 at h
  obtain ⟨M1, e1, h⟩ := zle h
  obtain ⟨M2, e2, h⟩ := zle h
  obtain ⟨M3, e3, h⟩ := zle h
  obtain rfl := Option.some.inj h
  subst e1 e2 e3
  exact ⟨rfl, rfl⟩
/-! X7_init_k2 -/
theorem wiX7_init_k2_X5_init : Cond.initialized yX5_init.cls ∈ wsX7_init ∧ Cond.methodLink RX7 3 yX5_init ∈ wsX7_init ∧ Cond.instanceMethod yX5_init ∈ wsX7_init := by decide +kernel
theorem hinX7_init_k2_X0 : ∀ w ∈ wsX00, w ∈ wsX7_init := fun _ h => List.mem_cons_of_mem _ (List.mem_append_left _ (List.mem_append_left _ (List.mem_append_left _ (List.mem_append_left _ (List.mem_append_left _ (List.mem_append_right _ h))))))
theorem hinX7_init_k2_X1 : ∀ w ∈ wsX10, w ∈ wsX7_init := fun _ h => List.mem_cons_of_mem _ (List.mem_append_left _ (List.mem_append_left _ (List.mem_append_left _ (List.mem_append_left _ (List.mem_append_right _ h)))))
theorem hinX7_init_k2_X2 : ∀ w ∈ wsX20, w ∈ wsX7_init := fun _ h => List.mem_cons_of_mem _ (List.mem_append_left _ (List.mem_append_left _ (List.mem_append_left _ (List.mem_append_right _ h))))
theorem hinX7_init_k2_X4 : ∀ w ∈ wsX40, w ∈ wsX7_init := fun _ h => List.mem_cons_of_mem _ (List.mem_append_left _ (List.mem_append_left _ (List.mem_append_right _ h)))
theorem hinX7_init_k2_X7 : ∀ w ∈ wsX70, w ∈ wsX7_init := fun _ h => List.mem_cons_of_mem _ (List.mem_append_left _ (List.mem_append_right _ h))
theorem hinX7_init_k2_X9 : ∀ w ∈ wsX90, w ∈ wsX7_init := fun _ h => List.mem_cons_of_mem _ (List.mem_append_right _ h)
def xX7_init_k2 (pP : zP) (v0 : Nat) (v1 : Int32) (v2 : Int32) (v3 : Int32) : Option zP :=
  (xX5_init_k2 pP v0 v1 v2 v3).bind fun q1 =>
  some q1
set_option maxHeartbeats 4000000 in
set_option maxRecDepth 100000 in
theorem tX7_init_k2 {κ : Nat → ClassId} {tg : Nat} {S : zEn} {ad : Nat → Nat} (hEk : zEk (zE tg S)) {pT : zM} {pR : zM} {pX : zM} {pF : zM} {pB : zM} {pP : zP} {v0 : Nat} {v1 : Int32} {v2 : Int32} {v3 : Int32} (hk : pP.2.1 v0 = 2) (hv0 : v0 < pP.2.2.2) {res : zP} (h : xX7_init_k2 pP v0 v1 v2 v3 = some res) (l : Launch) (D : va_G) : zCT (zE tg S) D vwCl (zty κ) l yX7_init wsX7_init ({ frames := 2, cells := 0, slots := 0, locals := 44 } : Room) 0 0 [.ref (ad (81 + v0)), .int v1, .int v2, .int v3] (zwC κ ad pT pR pX pF pB pP) (zPd none (zwC κ ad pT pR pX pF pB res)) := by
  refine zCT.ofI (bytes := cX7_init) (maxL := 4) (ret := none) rfl (by decide) rfl (Nat.le_of_ble_eq_true rfl) ?_
  intro X hC hR hI
  unfold xX7_init_k2 at h
  refine zV.sub (lv' := [(0, .ref (ad (81 + v0))), (1, .int v1), (2, .int v2), (3, .int v3)]) [0, 1, 2, 3] rfl ?_
  refine zr_aload_n (pc := 0) hC 0 rfl rfl dX7_init_0 ?_
  refine zr_iload_n (pc := 1) hC 1 rfl rfl dX7_init_1 ?_
  refine zr_iload_n (pc := 2) hC 2 rfl rfl dX7_init_2 ?_
  refine zr_iload_n (pc := 3) hC 3 rfl rfl dX7_init_3 ?_
  obtain ⟨q1, hq1, h⟩ := zbd h
  refine zr_cI (pc := 4) hC hEk [.int v1, .int v2, .int v3] [] (81 + v0) 3 (fun l D => tX5_init_k2 hEk hk hv0 hq1 l D) gX7_init_X5_init rfl rfl rfl wiX7_init_k2_X5_init rfl hyIX5_init ⟨Nat.le_of_ble_eq_true rfl, Nat.le_of_ble_eq_true rfl⟩ rfl rfl (Nat.le_of_ble_eq_true rfl) ⟨Nat.le_of_ble_eq_true rfl, Nat.le_of_ble_eq_true rfl⟩ dX7_init_4 ?_
  have hk : q1.2.1 v0 = 2 := by have h8 := (kX5_init_k2 hq1).1; first | (rw [h8]; exact hk) | (unfold zk5 at hk ⊢; rw [h8]; exact hk)
  have hv0 : v0 < q1.2.2.2 := by rw [(kX5_init_k2 hq1).2]; exact hv0
  obtain rfl := Option.some.inj h
  exact zr_vret hC hR ⟨rfl, rfl⟩ (Nat.le_refl _) (Nat.le_refl _) dX7_init_7
theorem kX7_init_k2 {pP : zP} {v0 : Nat} {v1 v2 v3 : Int32} {q : zP} (h : xX7_init_k2 pP v0 v1 v2 v3 = some q) : q.2.1 = pP.2.1 ∧ q.2.2.2 = pP.2.2.2 := by
  unfold xX7_init_k2 at h
  obtain ⟨q1, h1, h⟩ := zbd h
  obtain rfl := Option.some.inj h
  have h8 := kX5_init_k2 h1
  exact ⟨h8.1, h8.2⟩
/-! X1_init_k2 -/
theorem hyIX1_init : yX1_init.cls ≠ "java/lang/invoke/MethodHandle" ∧ yX1_init.cls ≠ "java/lang/invoke/VarHandle" ∧ (parseMethodDescriptor yX1_init.desc).map (fun d => d.parameters.length) = some 3 := by decide +kernel
theorem wiX1_init_k2_X7_init : Cond.initialized yX7_init.cls ∈ wsX1_init ∧ Cond.methodLink RX1 3 yX7_init ∈ wsX1_init ∧ Cond.instanceMethod yX7_init ∈ wsX1_init := by decide +kernel
theorem hinX1_init_k2_X0 : ∀ w ∈ wsX00, w ∈ wsX1_init := fun _ h => List.mem_cons_of_mem _ (List.mem_append_left _ (List.mem_append_left _ (List.mem_append_left _ (List.mem_append_left _ (List.mem_append_left _ (List.mem_append_right _ h))))))
theorem hinX1_init_k2_X1 : ∀ w ∈ wsX10, w ∈ wsX1_init := fun _ h => List.mem_cons_of_mem _ (List.mem_append_left _ (List.mem_append_left _ (List.mem_append_left _ (List.mem_append_left _ (List.mem_append_right _ h)))))
theorem hinX1_init_k2_X2 : ∀ w ∈ wsX20, w ∈ wsX1_init := fun _ h => List.mem_cons_of_mem _ (List.mem_append_left _ (List.mem_append_left _ (List.mem_append_left _ (List.mem_append_right _ h))))
theorem hinX1_init_k2_X4 : ∀ w ∈ wsX40, w ∈ wsX1_init := fun _ h => List.mem_cons_of_mem _ (List.mem_append_left _ (List.mem_append_left _ (List.mem_append_right _ h)))
theorem hinX1_init_k2_X7 : ∀ w ∈ wsX70, w ∈ wsX1_init := fun _ h => List.mem_cons_of_mem _ (List.mem_append_left _ (List.mem_append_right _ h))
theorem hinX1_init_k2_X9 : ∀ w ∈ wsX90, w ∈ wsX1_init := fun _ h => List.mem_cons_of_mem _ (List.mem_append_right _ h)
def xX1_init_k2 (pP : zP) (v0 : Nat) (v1 : Int32) (v2 : Int32) (v3 : Int32) : Option zP :=
  (xX7_init_k2 pP v0 v1 v2 v3).bind fun q1 =>
  some q1
set_option maxHeartbeats 4000000 in
set_option maxRecDepth 100000 in
theorem tX1_init_k2 {κ : Nat → ClassId} {tg : Nat} {S : zEn} {ad : Nat → Nat} (hEk : zEk (zE tg S)) {pT : zM} {pR : zM} {pX : zM} {pF : zM} {pB : zM} {pP : zP} {v0 : Nat} {v1 : Int32} {v2 : Int32} {v3 : Int32} (hk : pP.2.1 v0 = 2) (hv0 : v0 < pP.2.2.2) {res : zP} (h : xX1_init_k2 pP v0 v1 v2 v3 = some res) (l : Launch) (D : va_G) : zCT (zE tg S) D vwCl (zty κ) l yX1_init wsX1_init ({ frames := 3, cells := 0, slots := 0, locals := 67 } : Room) 0 0 [.ref (ad (81 + v0)), .int v1, .int v2, .int v3] (zwC κ ad pT pR pX pF pB pP) (zPd none (zwC κ ad pT pR pX pF pB res)) := by
  refine zCT.ofI (bytes := cX1_init) (maxL := 4) (ret := none) rfl (by decide) rfl (Nat.le_of_ble_eq_true rfl) ?_
  intro X hC hR hI
  unfold xX1_init_k2 at h
  refine zV.sub (lv' := [(0, .ref (ad (81 + v0))), (1, .int v1), (2, .int v2), (3, .int v3)]) [0, 1, 2, 3] rfl ?_
  refine zr_aload_n (pc := 0) hC 0 rfl rfl dX1_init_0 ?_
  refine zr_iload_n (pc := 1) hC 1 rfl rfl dX1_init_1 ?_
  refine zr_iload_n (pc := 2) hC 2 rfl rfl dX1_init_2 ?_
  refine zr_iload_n (pc := 3) hC 3 rfl rfl dX1_init_3 ?_
  obtain ⟨q1, hq1, h⟩ := zbd h
  refine zr_cI (pc := 4) hC hEk [.int v1, .int v2, .int v3] [] (81 + v0) 3 (fun l D => tX7_init_k2 hEk hk hv0 hq1 l D) gX1_init_X7_init rfl rfl rfl wiX1_init_k2_X7_init rfl hyIX7_init ⟨Nat.le_of_ble_eq_true rfl, Nat.le_of_ble_eq_true rfl⟩ rfl rfl (Nat.le_of_ble_eq_true rfl) ⟨Nat.le_of_ble_eq_true rfl, Nat.le_of_ble_eq_true rfl⟩ dX1_init_4 ?_
  have hk : q1.2.1 v0 = 2 := by have h8 := (kX7_init_k2 hq1).1; first | (rw [h8]; exact hk) | (unfold zk5 at hk ⊢; rw [h8]; exact hk)
  have hv0 : v0 < q1.2.2.2 := by rw [(kX7_init_k2 hq1).2]; exact hv0
  obtain rfl := Option.some.inj h
  exact zr_vret hC hR ⟨rfl, rfl⟩ (Nat.le_refl _) (Nat.le_refl _) dX1_init_7
theorem kX1_init_k2 {pP : zP} {v0 : Nat} {v1 v2 v3 : Int32} {q : zP} (h : xX1_init_k2 pP v0 v1 v2 v3 = some q) : q.2.1 = pP.2.1 ∧ q.2.2.2 = pP.2.2.2 := by
  unfold xX1_init_k2 at h
  obtain ⟨q1, h1, h⟩ := zbd h
  obtain rfl := Option.some.inj h
  have h8 := kX7_init_k2 h1
  exact ⟨h8.1, h8.2⟩
/-! X5_init_k3 -/
theorem flX5_init_k3_15 : Cond.fieldLink RX5 15 "BeforeTheEnd$Player" "sure" "I" ∈ wsX5_init := by decide +kernel
theorem flX5_init_k3_18 : Cond.fieldLink RX5 18 "BeforeTheEnd$Player" "knows" "I" ∈ wsX5_init := by decide +kernel
theorem flX5_init_k3_9 : Cond.fieldLink RX5 9 "BeforeTheEnd$Player" "hand" "I" ∈ wsX5_init := by decide +kernel
theorem lowX5_init_k3 : Cond.methodLink RX5 3 objectInit ∈ wsX5_init ∧ Cond.instanceMethod objectInit ∈ wsX5_init ∧ Cond.code objectInit ⟨#[0xb1]⟩ 1 none ∈ wsX5_init := by decide +kernel
theorem hinX5_init_k3_X0 : ∀ w ∈ wsX00, w ∈ wsX5_init := fun _ h => List.mem_cons_of_mem _ (List.mem_append_left _ (List.mem_append_left _ (List.mem_append_left _ (List.mem_append_left _ (List.mem_append_left _ (List.mem_append_right _ h))))))
theorem hinX5_init_k3_X1 : ∀ w ∈ wsX10, w ∈ wsX5_init := fun _ h => List.mem_cons_of_mem _ (List.mem_append_left _ (List.mem_append_left _ (List.mem_append_left _ (List.mem_append_left _ (List.mem_append_right _ h)))))
theorem hinX5_init_k3_X2 : ∀ w ∈ wsX20, w ∈ wsX5_init := fun _ h => List.mem_cons_of_mem _ (List.mem_append_left _ (List.mem_append_left _ (List.mem_append_left _ (List.mem_append_right _ h))))
theorem hinX5_init_k3_X4 : ∀ w ∈ wsX40, w ∈ wsX5_init := fun _ h => List.mem_cons_of_mem _ (List.mem_append_left _ (List.mem_append_left _ (List.mem_append_right _ h)))
theorem hinX5_init_k3_X7 : ∀ w ∈ wsX70, w ∈ wsX5_init := fun _ h => List.mem_cons_of_mem _ (List.mem_append_left _ (List.mem_append_right _ h))
theorem hinX5_init_k3_X9 : ∀ w ∈ wsX90, w ∈ wsX5_init := fun _ h => List.mem_cons_of_mem _ (List.mem_append_right _ h)
def xX5_init_k3 (pP : zP) (v0 : Nat) (v1 : Int32) (v2 : Int32) (v3 : Int32) : Option zP :=
  zlet (zpf pP v0 0 v1) fun M1 =>
  zlet (zpf M1 v0 1 v2) fun M3 =>
  zlet (zpf M3 v0 2 v3) fun M5 =>
  some M5
set_option maxHeartbeats 4000000 in
set_option maxRecDepth 100000 in
theorem tX5_init_k3 {κ : Nat → ClassId} {tg : Nat} {S : zEn} {ad : Nat → Nat} (hEk : zEk (zE tg S)) {pT : zM} {pR : zM} {pX : zM} {pF : zM} {pB : zM} {pP : zP} {v0 : Nat} {v1 : Int32} {v2 : Int32} {v3 : Int32} (hk : pP.2.1 v0 = 3) (hv0 : v0 < pP.2.2.2) {res : zP} (h : xX5_init_k3 pP v0 v1 v2 v3 = some res) (l : Launch) (D : va_G) : zCT (zE tg S) D vwCl (zty κ) l yX5_init wsX5_init ({ frames := 1, cells := 0, slots := 0, locals := 21 } : Room) 0 0 [.ref (ad (81 + v0)), .int v1, .int v2, .int v3] (zwC κ ad pT pR pX pF pB pP) (zPd none (zwC κ ad pT pR pX pF pB res)) := by
  refine zCT.ofI (bytes := cX5_init) (maxL := 4) (ret := none) rfl (by decide) rfl (Nat.le_of_ble_eq_true rfl) ?_
  intro X hC hR hI
  unfold xX5_init_k3 at h
  refine zV.sub (lv' := [(0, .ref (ad (81 + v0))), (1, .int v1), (2, .int v2), (3, .int v3)]) [0, 1, 2, 3] rfl ?_
  refine zr_aload_n (pc := 0) hC 0 rfl rfl dX5_init_0 ?_
  refine zr_objInit (pc := 1) hC lowX5_init_k3 (Nat.le_of_ble_eq_true rfl) (Nat.le_of_ble_eq_true rfl) dX5_init_1 ?_
  refine zr_aload_n (pc := 4) hC 0 rfl rfl dX5_init_4 ?_
  refine zr_iload_n (pc := 5) hC 1 rfl rfl dX5_init_5 ?_
  obtain ⟨M1, e2, h⟩ := zle h
  refine zppF_3_0 (pc := 6) hC hI hinX5_init_k3_X4 flX5_init_k3_9 hk hv0 e2 dX5_init_6 (fun hk hv0 => ?_)
  refine zr_aload_n (pc := 9) hC 0 rfl rfl dX5_init_9 ?_
  refine zr_iload_n (pc := 10) hC 2 rfl rfl dX5_init_10 ?_
  obtain ⟨M3, e4, h⟩ := zle h
  refine zppF_3_1 (pc := 11) hC hI hinX5_init_k3_X4 flX5_init_k3_15 hk hv0 e4 dX5_init_11 (fun hk hv0 => ?_)
  refine zr_aload_n (pc := 14) hC 0 rfl rfl dX5_init_14 ?_
  refine zr_iload_n (pc := 15) hC 3 rfl rfl dX5_init_15 ?_
  obtain ⟨M5, e6, h⟩ := zle h
  refine zppF_3_2 (pc := 16) hC hI hinX5_init_k3_X4 flX5_init_k3_18 hk hv0 e6 dX5_init_16 (fun hk hv0 => ?_)
  obtain rfl := Option.some.inj h
  exact zr_vret hC hR ⟨rfl, rfl⟩ (Nat.le_refl _) (Nat.le_refl _) dX5_init_19
theorem kX5_init_k3 {pP : zP} {v0 : Nat} {v1 v2 v3 : Int32} {q : zP} (h : xX5_init_k3 pP v0 v1 v2 v3 = some q) : q.2.1 = pP.2.1 ∧ q.2.2.2 = pP.2.2.2 := by
  unfold xX5_init_k3 at h
  obtain ⟨M1, e1, h⟩ := zle h
  obtain ⟨M2, e2, h⟩ := zle h
  obtain ⟨M3, e3, h⟩ := zle h
  obtain rfl := Option.some.inj h
  subst e1 e2 e3
  exact ⟨rfl, rfl⟩
/-! X7_init_k3 -/
theorem wiX7_init_k3_X5_init : Cond.initialized yX5_init.cls ∈ wsX7_init ∧ Cond.methodLink RX7 3 yX5_init ∈ wsX7_init ∧ Cond.instanceMethod yX5_init ∈ wsX7_init := by decide +kernel
theorem hinX7_init_k3_X0 : ∀ w ∈ wsX00, w ∈ wsX7_init := fun _ h => List.mem_cons_of_mem _ (List.mem_append_left _ (List.mem_append_left _ (List.mem_append_left _ (List.mem_append_left _ (List.mem_append_left _ (List.mem_append_right _ h))))))
theorem hinX7_init_k3_X1 : ∀ w ∈ wsX10, w ∈ wsX7_init := fun _ h => List.mem_cons_of_mem _ (List.mem_append_left _ (List.mem_append_left _ (List.mem_append_left _ (List.mem_append_left _ (List.mem_append_right _ h)))))
theorem hinX7_init_k3_X2 : ∀ w ∈ wsX20, w ∈ wsX7_init := fun _ h => List.mem_cons_of_mem _ (List.mem_append_left _ (List.mem_append_left _ (List.mem_append_left _ (List.mem_append_right _ h))))
theorem hinX7_init_k3_X4 : ∀ w ∈ wsX40, w ∈ wsX7_init := fun _ h => List.mem_cons_of_mem _ (List.mem_append_left _ (List.mem_append_left _ (List.mem_append_right _ h)))
theorem hinX7_init_k3_X7 : ∀ w ∈ wsX70, w ∈ wsX7_init := fun _ h => List.mem_cons_of_mem _ (List.mem_append_left _ (List.mem_append_right _ h))
theorem hinX7_init_k3_X9 : ∀ w ∈ wsX90, w ∈ wsX7_init := fun _ h => List.mem_cons_of_mem _ (List.mem_append_right _ h)
def xX7_init_k3 (pP : zP) (v0 : Nat) (v1 : Int32) (v2 : Int32) (v3 : Int32) : Option zP :=
  (xX5_init_k3 pP v0 v1 v2 v3).bind fun q1 =>
  some q1
set_option maxHeartbeats 4000000 in
set_option maxRecDepth 100000 in
theorem tX7_init_k3 {κ : Nat → ClassId} {tg : Nat} {S : zEn} {ad : Nat → Nat} (hEk : zEk (zE tg S)) {pT : zM} {pR : zM} {pX : zM} {pF : zM} {pB : zM} {pP : zP} {v0 : Nat} {v1 : Int32} {v2 : Int32} {v3 : Int32} (hk : pP.2.1 v0 = 3) (hv0 : v0 < pP.2.2.2) {res : zP} (h : xX7_init_k3 pP v0 v1 v2 v3 = some res) (l : Launch) (D : va_G) : zCT (zE tg S) D vwCl (zty κ) l yX7_init wsX7_init ({ frames := 2, cells := 0, slots := 0, locals := 44 } : Room) 0 0 [.ref (ad (81 + v0)), .int v1, .int v2, .int v3] (zwC κ ad pT pR pX pF pB pP) (zPd none (zwC κ ad pT pR pX pF pB res)) := by
  refine zCT.ofI (bytes := cX7_init) (maxL := 4) (ret := none) rfl (by decide) rfl (Nat.le_of_ble_eq_true rfl) ?_
  intro X hC hR hI
  unfold xX7_init_k3 at h
  refine zV.sub (lv' := [(0, .ref (ad (81 + v0))), (1, .int v1), (2, .int v2), (3, .int v3)]) [0, 1, 2, 3] rfl ?_
  refine zr_aload_n (pc := 0) hC 0 rfl rfl dX7_init_0 ?_
  refine zr_iload_n (pc := 1) hC 1 rfl rfl dX7_init_1 ?_
  refine zr_iload_n (pc := 2) hC 2 rfl rfl dX7_init_2 ?_
  refine zr_iload_n (pc := 3) hC 3 rfl rfl dX7_init_3 ?_
  obtain ⟨q1, hq1, h⟩ := zbd h
  refine zr_cI (pc := 4) hC hEk [.int v1, .int v2, .int v3] [] (81 + v0) 3 (fun l D => tX5_init_k3 hEk hk hv0 hq1 l D) gX7_init_X5_init rfl rfl rfl wiX7_init_k3_X5_init rfl hyIX5_init ⟨Nat.le_of_ble_eq_true rfl, Nat.le_of_ble_eq_true rfl⟩ rfl rfl (Nat.le_of_ble_eq_true rfl) ⟨Nat.le_of_ble_eq_true rfl, Nat.le_of_ble_eq_true rfl⟩ dX7_init_4 ?_
  have hk : q1.2.1 v0 = 3 := by have h8 := (kX5_init_k3 hq1).1; first | (rw [h8]; exact hk) | (unfold zk5 at hk ⊢; rw [h8]; exact hk)
  have hv0 : v0 < q1.2.2.2 := by rw [(kX5_init_k3 hq1).2]; exact hv0
  obtain rfl := Option.some.inj h
  exact zr_vret hC hR ⟨rfl, rfl⟩ (Nat.le_refl _) (Nat.le_refl _) dX7_init_7
theorem kX7_init_k3 {pP : zP} {v0 : Nat} {v1 v2 v3 : Int32} {q : zP} (h : xX7_init_k3 pP v0 v1 v2 v3 = some q) : q.2.1 = pP.2.1 ∧ q.2.2.2 = pP.2.2.2 := by
  unfold xX7_init_k3 at h
  obtain ⟨q1, h1, h⟩ := zbd h
  obtain rfl := Option.some.inj h
  have h8 := kX5_init_k3 h1
  exact ⟨h8.1, h8.2⟩
/-! X4_init_k3 -/
theorem hyIX4_init : yX4_init.cls ≠ "java/lang/invoke/MethodHandle" ∧ yX4_init.cls ≠ "java/lang/invoke/VarHandle" ∧ (parseMethodDescriptor yX4_init.desc).map (fun d => d.parameters.length) = some 3 := by decide +kernel
theorem wiX4_init_k3_X7_init : Cond.initialized yX7_init.cls ∈ wsX4_init ∧ Cond.methodLink RX4 3 yX7_init ∈ wsX4_init ∧ Cond.instanceMethod yX7_init ∈ wsX4_init := by decide +kernel
theorem hinX4_init_k3_X0 : ∀ w ∈ wsX00, w ∈ wsX4_init := fun _ h => List.mem_cons_of_mem _ (List.mem_append_left _ (List.mem_append_left _ (List.mem_append_left _ (List.mem_append_left _ (List.mem_append_left _ (List.mem_append_right _ h))))))
theorem hinX4_init_k3_X1 : ∀ w ∈ wsX10, w ∈ wsX4_init := fun _ h => List.mem_cons_of_mem _ (List.mem_append_left _ (List.mem_append_left _ (List.mem_append_left _ (List.mem_append_left _ (List.mem_append_right _ h)))))
theorem hinX4_init_k3_X2 : ∀ w ∈ wsX20, w ∈ wsX4_init := fun _ h => List.mem_cons_of_mem _ (List.mem_append_left _ (List.mem_append_left _ (List.mem_append_left _ (List.mem_append_right _ h))))
theorem hinX4_init_k3_X4 : ∀ w ∈ wsX40, w ∈ wsX4_init := fun _ h => List.mem_cons_of_mem _ (List.mem_append_left _ (List.mem_append_left _ (List.mem_append_right _ h)))
theorem hinX4_init_k3_X7 : ∀ w ∈ wsX70, w ∈ wsX4_init := fun _ h => List.mem_cons_of_mem _ (List.mem_append_left _ (List.mem_append_right _ h))
theorem hinX4_init_k3_X9 : ∀ w ∈ wsX90, w ∈ wsX4_init := fun _ h => List.mem_cons_of_mem _ (List.mem_append_right _ h)
def xX4_init_k3 (pP : zP) (v0 : Nat) (v1 : Int32) (v2 : Int32) (v3 : Int32) : Option zP :=
  (xX7_init_k3 pP v0 v1 v2 v3).bind fun q1 =>
  some q1
set_option maxHeartbeats 4000000 in
set_option maxRecDepth 100000 in
theorem tX4_init_k3 {κ : Nat → ClassId} {tg : Nat} {S : zEn} {ad : Nat → Nat} (hEk : zEk (zE tg S)) {pT : zM} {pR : zM} {pX : zM} {pF : zM} {pB : zM} {pP : zP} {v0 : Nat} {v1 : Int32} {v2 : Int32} {v3 : Int32} (hk : pP.2.1 v0 = 3) (hv0 : v0 < pP.2.2.2) {res : zP} (h : xX4_init_k3 pP v0 v1 v2 v3 = some res) (l : Launch) (D : va_G) : zCT (zE tg S) D vwCl (zty κ) l yX4_init wsX4_init ({ frames := 3, cells := 0, slots := 0, locals := 67 } : Room) 0 0 [.ref (ad (81 + v0)), .int v1, .int v2, .int v3] (zwC κ ad pT pR pX pF pB pP) (zPd none (zwC κ ad pT pR pX pF pB res)) := by
  refine zCT.ofI (bytes := cX4_init) (maxL := 4) (ret := none) rfl (by decide) rfl (Nat.le_of_ble_eq_true rfl) ?_
  intro X hC hR hI
  unfold xX4_init_k3 at h
  refine zV.sub (lv' := [(0, .ref (ad (81 + v0))), (1, .int v1), (2, .int v2), (3, .int v3)]) [0, 1, 2, 3] rfl ?_
  refine zr_aload_n (pc := 0) hC 0 rfl rfl dX4_init_0 ?_
  refine zr_iload_n (pc := 1) hC 1 rfl rfl dX4_init_1 ?_
  refine zr_iload_n (pc := 2) hC 2 rfl rfl dX4_init_2 ?_
  refine zr_iload_n (pc := 3) hC 3 rfl rfl dX4_init_3 ?_
  obtain ⟨q1, hq1, h⟩ := zbd h
  refine zr_cI (pc := 4) hC hEk [.int v1, .int v2, .int v3] [] (81 + v0) 3 (fun l D => tX7_init_k3 hEk hk hv0 hq1 l D) gX4_init_X7_init rfl rfl rfl wiX4_init_k3_X7_init rfl hyIX7_init ⟨Nat.le_of_ble_eq_true rfl, Nat.le_of_ble_eq_true rfl⟩ rfl rfl (Nat.le_of_ble_eq_true rfl) ⟨Nat.le_of_ble_eq_true rfl, Nat.le_of_ble_eq_true rfl⟩ dX4_init_4 ?_
  have hk : q1.2.1 v0 = 3 := by have h8 := (kX7_init_k3 hq1).1; first | (rw [h8]; exact hk) | (unfold zk5 at hk ⊢; rw [h8]; exact hk)
  have hv0 : v0 < q1.2.2.2 := by rw [(kX7_init_k3 hq1).2]; exact hv0
  obtain rfl := Option.some.inj h
  exact zr_vret hC hR ⟨rfl, rfl⟩ (Nat.le_refl _) (Nat.le_refl _) dX4_init_7
theorem kX4_init_k3 {pP : zP} {v0 : Nat} {v1 v2 v3 : Int32} {q : zP} (h : xX4_init_k3 pP v0 v1 v2 v3 = some q) : q.2.1 = pP.2.1 ∧ q.2.2.2 = pP.2.2.2 := by
  unfold xX4_init_k3 at h
  obtain ⟨q1, h1, h⟩ := zbd h
  obtain rfl := Option.some.inj h
  have h8 := kX7_init_k3 h1
  exact ⟨h8.1, h8.2⟩
/-! X5_init_k4 -/
theorem flX5_init_k4_15 : Cond.fieldLink RX5 15 "BeforeTheEnd$Player" "sure" "I" ∈ wsX5_init := by decide +kernel
theorem flX5_init_k4_18 : Cond.fieldLink RX5 18 "BeforeTheEnd$Player" "knows" "I" ∈ wsX5_init := by decide +kernel
theorem flX5_init_k4_9 : Cond.fieldLink RX5 9 "BeforeTheEnd$Player" "hand" "I" ∈ wsX5_init := by decide +kernel
theorem lowX5_init_k4 : Cond.methodLink RX5 3 objectInit ∈ wsX5_init ∧ Cond.instanceMethod objectInit ∈ wsX5_init ∧ Cond.code objectInit ⟨#[0xb1]⟩ 1 none ∈ wsX5_init := by decide +kernel
theorem hinX5_init_k4_X0 : ∀ w ∈ wsX00, w ∈ wsX5_init := fun _ h => List.mem_cons_of_mem _ (List.mem_append_left _ (List.mem_append_left _ (List.mem_append_left _ (List.mem_append_left _ (List.mem_append_left _ (List.mem_append_right _ h))))))
theorem hinX5_init_k4_X1 : ∀ w ∈ wsX10, w ∈ wsX5_init := fun _ h => List.mem_cons_of_mem _ (List.mem_append_left _ (List.mem_append_left _ (List.mem_append_left _ (List.mem_append_left _ (List.mem_append_right _ h)))))
theorem hinX5_init_k4_X2 : ∀ w ∈ wsX20, w ∈ wsX5_init := fun _ h => List.mem_cons_of_mem _ (List.mem_append_left _ (List.mem_append_left _ (List.mem_append_left _ (List.mem_append_right _ h))))
theorem hinX5_init_k4_X4 : ∀ w ∈ wsX40, w ∈ wsX5_init := fun _ h => List.mem_cons_of_mem _ (List.mem_append_left _ (List.mem_append_left _ (List.mem_append_right _ h)))
theorem hinX5_init_k4_X7 : ∀ w ∈ wsX70, w ∈ wsX5_init := fun _ h => List.mem_cons_of_mem _ (List.mem_append_left _ (List.mem_append_right _ h))
theorem hinX5_init_k4_X9 : ∀ w ∈ wsX90, w ∈ wsX5_init := fun _ h => List.mem_cons_of_mem _ (List.mem_append_right _ h)
def xX5_init_k4 (pP : zP) (v0 : Nat) (v1 : Int32) (v2 : Int32) (v3 : Int32) : Option zP :=
  zlet (zpf pP v0 0 v1) fun M1 =>
  zlet (zpf M1 v0 1 v2) fun M3 =>
  zlet (zpf M3 v0 2 v3) fun M5 =>
  some M5
set_option maxHeartbeats 4000000 in
set_option maxRecDepth 100000 in
theorem tX5_init_k4 {κ : Nat → ClassId} {tg : Nat} {S : zEn} {ad : Nat → Nat} (hEk : zEk (zE tg S)) {pT : zM} {pR : zM} {pX : zM} {pF : zM} {pB : zM} {pP : zP} {v0 : Nat} {v1 : Int32} {v2 : Int32} {v3 : Int32} (hk : pP.2.1 v0 = 4) (hv0 : v0 < pP.2.2.2) {res : zP} (h : xX5_init_k4 pP v0 v1 v2 v3 = some res) (l : Launch) (D : va_G) : zCT (zE tg S) D vwCl (zty κ) l yX5_init wsX5_init ({ frames := 1, cells := 0, slots := 0, locals := 21 } : Room) 0 0 [.ref (ad (81 + v0)), .int v1, .int v2, .int v3] (zwC κ ad pT pR pX pF pB pP) (zPd none (zwC κ ad pT pR pX pF pB res)) := by
  refine zCT.ofI (bytes := cX5_init) (maxL := 4) (ret := none) rfl (by decide) rfl (Nat.le_of_ble_eq_true rfl) ?_
  intro X hC hR hI
  unfold xX5_init_k4 at h
  refine zV.sub (lv' := [(0, .ref (ad (81 + v0))), (1, .int v1), (2, .int v2), (3, .int v3)]) [0, 1, 2, 3] rfl ?_
  refine zr_aload_n (pc := 0) hC 0 rfl rfl dX5_init_0 ?_
  refine zr_objInit (pc := 1) hC lowX5_init_k4 (Nat.le_of_ble_eq_true rfl) (Nat.le_of_ble_eq_true rfl) dX5_init_1 ?_
  refine zr_aload_n (pc := 4) hC 0 rfl rfl dX5_init_4 ?_
  refine zr_iload_n (pc := 5) hC 1 rfl rfl dX5_init_5 ?_
  obtain ⟨M1, e2, h⟩ := zle h
  refine zppF_4_0 (pc := 6) hC hI hinX5_init_k4_X9 flX5_init_k4_9 hk hv0 e2 dX5_init_6 (fun hk hv0 => ?_)
  refine zr_aload_n (pc := 9) hC 0 rfl rfl dX5_init_9 ?_
  refine zr_iload_n (pc := 10) hC 2 rfl rfl dX5_init_10 ?_
  obtain ⟨M3, e4, h⟩ := zle h
  refine zppF_4_1 (pc := 11) hC hI hinX5_init_k4_X9 flX5_init_k4_15 hk hv0 e4 dX5_init_11 (fun hk hv0 => ?_)
  refine zr_aload_n (pc := 14) hC 0 rfl rfl dX5_init_14 ?_
  refine zr_iload_n (pc := 15) hC 3 rfl rfl dX5_init_15 ?_
  obtain ⟨M5, e6, h⟩ := zle h
  refine zppF_4_2 (pc := 16) hC hI hinX5_init_k4_X9 flX5_init_k4_18 hk hv0 e6 dX5_init_16 (fun hk hv0 => ?_)
  obtain rfl := Option.some.inj h
  exact zr_vret hC hR ⟨rfl, rfl⟩ (Nat.le_refl _) (Nat.le_refl _) dX5_init_19
theorem kX5_init_k4 {pP : zP} {v0 : Nat} {v1 v2 v3 : Int32} {q : zP} (h : xX5_init_k4 pP v0 v1 v2 v3 = some q) : q.2.1 = pP.2.1 ∧ q.2.2.2 = pP.2.2.2 := by
  unfold xX5_init_k4 at h
  obtain ⟨M1, e1, h⟩ := zle h
  obtain ⟨M2, e2, h⟩ := zle h
  obtain ⟨M3, e3, h⟩ := zle h
  obtain rfl := Option.some.inj h
  subst e1 e2 e3
  exact ⟨rfl, rfl⟩
/-! X9_init_k4 -/
theorem hyIX9_init : yX9_init.cls ≠ "java/lang/invoke/MethodHandle" ∧ yX9_init.cls ≠ "java/lang/invoke/VarHandle" ∧ (parseMethodDescriptor yX9_init.desc).map (fun d => d.parameters.length) = some 3 := by decide +kernel
theorem flX9_init_k4_9 : Cond.fieldLink RX9 9 "BeforeTheEnd$Told" "set" "I" ∈ wsX9_init := by decide +kernel
theorem wiX9_init_k4_X5_init : Cond.initialized yX5_init.cls ∈ wsX9_init ∧ Cond.methodLink RX9 3 yX5_init ∈ wsX9_init ∧ Cond.instanceMethod yX5_init ∈ wsX9_init := by decide +kernel
theorem hinX9_init_k4_X0 : ∀ w ∈ wsX00, w ∈ wsX9_init := fun _ h => List.mem_cons_of_mem _ (List.mem_append_left _ (List.mem_append_left _ (List.mem_append_left _ (List.mem_append_left _ (List.mem_append_left _ (List.mem_append_right _ h))))))
theorem hinX9_init_k4_X9 : ∀ w ∈ wsX90, w ∈ wsX9_init := fun _ h => List.mem_cons_of_mem _ (List.mem_append_left _ (List.mem_append_left _ (List.mem_append_left _ (List.mem_append_left _ (List.mem_append_right _ h)))))
theorem hinX9_init_k4_X1 : ∀ w ∈ wsX10, w ∈ wsX9_init := fun _ h => List.mem_cons_of_mem _ (List.mem_append_left _ (List.mem_append_left _ (List.mem_append_left _ (List.mem_append_right _ h))))
theorem hinX9_init_k4_X2 : ∀ w ∈ wsX20, w ∈ wsX9_init := fun _ h => List.mem_cons_of_mem _ (List.mem_append_left _ (List.mem_append_left _ (List.mem_append_right _ h)))
theorem hinX9_init_k4_X4 : ∀ w ∈ wsX40, w ∈ wsX9_init := fun _ h => List.mem_cons_of_mem _ (List.mem_append_left _ (List.mem_append_right _ h))
theorem hinX9_init_k4_X7 : ∀ w ∈ wsX70, w ∈ wsX9_init := fun _ h => List.mem_cons_of_mem _ (List.mem_append_right _ h)
def xX9_init_k4 (pP : zP) (v0 : Nat) (v1 : Int32) (v2 : Int32) (v3 : Int32) : Option zP :=
  (xX5_init_k4 pP v0 v1 v2 v3).bind fun q1 =>
  zlet (zpf q1 v0 3 (0 : Int32)) fun M2 =>
  some M2
set_option maxHeartbeats 4000000 in
set_option maxRecDepth 100000 in
theorem tX9_init_k4 {κ : Nat → ClassId} {tg : Nat} {S : zEn} {ad : Nat → Nat} (hEk : zEk (zE tg S)) {pT : zM} {pR : zM} {pX : zM} {pF : zM} {pB : zM} {pP : zP} {v0 : Nat} {v1 : Int32} {v2 : Int32} {v3 : Int32} (hk : pP.2.1 v0 = 4) (hv0 : v0 < pP.2.2.2) {res : zP} (h : xX9_init_k4 pP v0 v1 v2 v3 = some res) (l : Launch) (D : va_G) : zCT (zE tg S) D vwCl (zty κ) l yX9_init wsX9_init ({ frames := 2, cells := 0, slots := 0, locals := 44 } : Room) 0 0 [.ref (ad (81 + v0)), .int v1, .int v2, .int v3] (zwC κ ad pT pR pX pF pB pP) (zPd none (zwC κ ad pT pR pX pF pB res)) := by
  refine zCT.ofI (bytes := cX9_init) (maxL := 4) (ret := none) rfl (by decide) rfl (Nat.le_of_ble_eq_true rfl) ?_
  intro X hC hR hI
  unfold xX9_init_k4 at h
  refine zV.sub (lv' := [(0, .ref (ad (81 + v0))), (1, .int v1), (2, .int v2), (3, .int v3)]) [0, 1, 2, 3] rfl ?_
  refine zr_aload_n (pc := 0) hC 0 rfl rfl dX9_init_0 ?_
  refine zr_iload_n (pc := 1) hC 1 rfl rfl dX9_init_1 ?_
  refine zr_iload_n (pc := 2) hC 2 rfl rfl dX9_init_2 ?_
  refine zr_iload_n (pc := 3) hC 3 rfl rfl dX9_init_3 ?_
  obtain ⟨q1, hq1, h⟩ := zbd h
  refine zr_cI (pc := 4) hC hEk [.int v1, .int v2, .int v3] [] (81 + v0) 3 (fun l D => tX5_init_k4 hEk hk hv0 hq1 l D) gX9_init_X5_init rfl rfl rfl wiX9_init_k4_X5_init rfl hyIX5_init ⟨Nat.le_of_ble_eq_true rfl, Nat.le_of_ble_eq_true rfl⟩ rfl rfl (Nat.le_of_ble_eq_true rfl) ⟨Nat.le_of_ble_eq_true rfl, Nat.le_of_ble_eq_true rfl⟩ dX9_init_4 ?_
  have hk : q1.2.1 v0 = 4 := by have h8 := (kX5_init_k4 hq1).1; first | (rw [h8]; exact hk) | (unfold zk5 at hk ⊢; rw [h8]; exact hk)
  have hv0 : v0 < q1.2.2.2 := by rw [(kX5_init_k4 hq1).2]; exact hv0
  refine zr_aload_n (pc := 7) hC 0 rfl rfl dX9_init_7 ?_
  refine zr_iconst (pc := 8) hC zki_0 dX9_init_8 ?_
  obtain ⟨M2, e3, h⟩ := zle h
  refine zpp_4 (pc := 9) hC hinX9_init_k4_X9 flX9_init_k4_9 hk hv0 e3 dX9_init_9 ?_
  obtain rfl := Option.some.inj h
  exact zr_vret hC hR ⟨rfl, rfl⟩ (Nat.le_refl _) (Nat.le_refl _) dX9_init_12
theorem kX9_init_k4 {pP : zP} {v0 : Nat} {v1 v2 v3 : Int32} {q : zP} (h : xX9_init_k4 pP v0 v1 v2 v3 = some q) : q.2.1 = pP.2.1 ∧ q.2.2.2 = pP.2.2.2 := by
  unfold xX9_init_k4 at h
  obtain ⟨q1, h1, h⟩ := zbd h
  obtain ⟨M3, e3, h⟩ := zle h
  subst e3
  obtain rfl := Option.some.inj h
  have h8 := kX5_init_k4 h1
  exact ⟨h8.1, h8.2⟩
/-! X5_init_k5 -/
theorem flX5_init_k5_15 : Cond.fieldLink RX5 15 "BeforeTheEnd$Player" "sure" "I" ∈ wsX5_init := by decide +kernel
theorem flX5_init_k5_18 : Cond.fieldLink RX5 18 "BeforeTheEnd$Player" "knows" "I" ∈ wsX5_init := by decide +kernel
theorem flX5_init_k5_9 : Cond.fieldLink RX5 9 "BeforeTheEnd$Player" "hand" "I" ∈ wsX5_init := by decide +kernel
theorem lowX5_init_k5 : Cond.methodLink RX5 3 objectInit ∈ wsX5_init ∧ Cond.instanceMethod objectInit ∈ wsX5_init ∧ Cond.code objectInit ⟨#[0xb1]⟩ 1 none ∈ wsX5_init := by decide +kernel
theorem hinX5_init_k5_X0 : ∀ w ∈ wsX00, w ∈ wsX5_init := fun _ h => List.mem_cons_of_mem _ (List.mem_append_left _ (List.mem_append_left _ (List.mem_append_left _ (List.mem_append_left _ (List.mem_append_left _ (List.mem_append_right _ h))))))
theorem hinX5_init_k5_X1 : ∀ w ∈ wsX10, w ∈ wsX5_init := fun _ h => List.mem_cons_of_mem _ (List.mem_append_left _ (List.mem_append_left _ (List.mem_append_left _ (List.mem_append_left _ (List.mem_append_right _ h)))))
theorem hinX5_init_k5_X2 : ∀ w ∈ wsX20, w ∈ wsX5_init := fun _ h => List.mem_cons_of_mem _ (List.mem_append_left _ (List.mem_append_left _ (List.mem_append_left _ (List.mem_append_right _ h))))
theorem hinX5_init_k5_X4 : ∀ w ∈ wsX40, w ∈ wsX5_init := fun _ h => List.mem_cons_of_mem _ (List.mem_append_left _ (List.mem_append_left _ (List.mem_append_right _ h)))
theorem hinX5_init_k5_X7 : ∀ w ∈ wsX70, w ∈ wsX5_init := fun _ h => List.mem_cons_of_mem _ (List.mem_append_left _ (List.mem_append_right _ h))
theorem hinX5_init_k5_X9 : ∀ w ∈ wsX90, w ∈ wsX5_init := fun _ h => List.mem_cons_of_mem _ (List.mem_append_right _ h)
def xX5_init_k5 (pP : zP) (v0 : Nat) (v1 : Int32) (v2 : Int32) (v3 : Int32) : Option zP :=
  zlet (zpf pP v0 0 v1) fun M1 =>
  zlet (zpf M1 v0 1 v2) fun M3 =>
  zlet (zpf M3 v0 2 v3) fun M5 =>
  some M5
set_option maxHeartbeats 4000000 in
set_option maxRecDepth 100000 in
theorem tX5_init_k5 {κ : Nat → ClassId} {tg : Nat} {S : zEn} {ad : Nat → Nat} (hEk : zEk (zE tg S)) {pT : zM} {pR : zM} {pX : zM} {pF : zM} {pB : zM} {pP : zP} {v0 : Nat} {v1 : Int32} {v2 : Int32} {v3 : Int32} (hk : zk5 pP v0) (hv0 : v0 < pP.2.2.2) {res : zP} (h : xX5_init_k5 pP v0 v1 v2 v3 = some res) (l : Launch) (D : va_G) : zCT (zE tg S) D vwCl (zty κ) l yX5_init wsX5_init ({ frames := 1, cells := 0, slots := 0, locals := 21 } : Room) 0 0 [.ref (ad (81 + v0)), .int v1, .int v2, .int v3] (zwC κ ad pT pR pX pF pB pP) (zPd none (zwC κ ad pT pR pX pF pB res)) := by
  refine zCT.ofI (bytes := cX5_init) (maxL := 4) (ret := none) rfl (by decide) rfl (Nat.le_of_ble_eq_true rfl) ?_
  intro X hC hR hI
  unfold xX5_init_k5 at h
  refine zV.sub (lv' := [(0, .ref (ad (81 + v0))), (1, .int v1), (2, .int v2), (3, .int v3)]) [0, 1, 2, 3] rfl ?_
  refine zr_aload_n (pc := 0) hC 0 rfl rfl dX5_init_0 ?_
  refine zr_objInit (pc := 1) hC lowX5_init_k5 (Nat.le_of_ble_eq_true rfl) (Nat.le_of_ble_eq_true rfl) dX5_init_1 ?_
  refine zr_aload_n (pc := 4) hC 0 rfl rfl dX5_init_4 ?_
  refine zr_iload_n (pc := 5) hC 1 rfl rfl dX5_init_5 ?_
  obtain ⟨M1, e2, h⟩ := zle h
  refine zppF_5_0 (pc := 6) hC hI hinX5_init_k5_X0 flX5_init_k5_9 hk hv0 e2 dX5_init_6 (fun hk hv0 => ?_)
  refine zr_aload_n (pc := 9) hC 0 rfl rfl dX5_init_9 ?_
  refine zr_iload_n (pc := 10) hC 2 rfl rfl dX5_init_10 ?_
  obtain ⟨M3, e4, h⟩ := zle h
  refine zppF_5_1 (pc := 11) hC hI hinX5_init_k5_X0 flX5_init_k5_15 hk hv0 e4 dX5_init_11 (fun hk hv0 => ?_)
  refine zr_aload_n (pc := 14) hC 0 rfl rfl dX5_init_14 ?_
  refine zr_iload_n (pc := 15) hC 3 rfl rfl dX5_init_15 ?_
  obtain ⟨M5, e6, h⟩ := zle h
  refine zppF_5_2 (pc := 16) hC hI hinX5_init_k5_X0 flX5_init_k5_18 hk hv0 e6 dX5_init_16 (fun hk hv0 => ?_)
  obtain rfl := Option.some.inj h
  exact zr_vret hC hR ⟨rfl, rfl⟩ (Nat.le_refl _) (Nat.le_refl _) dX5_init_19
theorem kX5_init_k5 {pP : zP} {v0 : Nat} {v1 v2 v3 : Int32} {q : zP} (h : xX5_init_k5 pP v0 v1 v2 v3 = some q) : q.2.1 = pP.2.1 ∧ q.2.2.2 = pP.2.2.2 := by
  unfold xX5_init_k5 at h
  obtain ⟨M1, e1, h⟩ := zle h
  obtain ⟨M2, e2, h⟩ := zle h
  obtain ⟨M3, e3, h⟩ := zle h
  obtain rfl := Option.some.inj h
  subst e1 e2 e3
  exact ⟨rfl, rfl⟩
/-! X9_init_k5 -/
theorem flX9_init_k5_9 : Cond.fieldLink RX9 9 "BeforeTheEnd$Told" "set" "I" ∈ wsX9_init := by decide +kernel
theorem wiX9_init_k5_X5_init : Cond.initialized yX5_init.cls ∈ wsX9_init ∧ Cond.methodLink RX9 3 yX5_init ∈ wsX9_init ∧ Cond.instanceMethod yX5_init ∈ wsX9_init := by decide +kernel
theorem hinX9_init_k5_X0 : ∀ w ∈ wsX00, w ∈ wsX9_init := fun _ h => List.mem_cons_of_mem _ (List.mem_append_left _ (List.mem_append_left _ (List.mem_append_left _ (List.mem_append_left _ (List.mem_append_left _ (List.mem_append_right _ h))))))
theorem hinX9_init_k5_X9 : ∀ w ∈ wsX90, w ∈ wsX9_init := fun _ h => List.mem_cons_of_mem _ (List.mem_append_left _ (List.mem_append_left _ (List.mem_append_left _ (List.mem_append_left _ (List.mem_append_right _ h)))))
theorem hinX9_init_k5_X1 : ∀ w ∈ wsX10, w ∈ wsX9_init := fun _ h => List.mem_cons_of_mem _ (List.mem_append_left _ (List.mem_append_left _ (List.mem_append_left _ (List.mem_append_right _ h))))
theorem hinX9_init_k5_X2 : ∀ w ∈ wsX20, w ∈ wsX9_init := fun _ h => List.mem_cons_of_mem _ (List.mem_append_left _ (List.mem_append_left _ (List.mem_append_right _ h)))
theorem hinX9_init_k5_X4 : ∀ w ∈ wsX40, w ∈ wsX9_init := fun _ h => List.mem_cons_of_mem _ (List.mem_append_left _ (List.mem_append_right _ h))
theorem hinX9_init_k5_X7 : ∀ w ∈ wsX70, w ∈ wsX9_init := fun _ h => List.mem_cons_of_mem _ (List.mem_append_right _ h)
def xX9_init_k5 (pP : zP) (v0 : Nat) (v1 : Int32) (v2 : Int32) (v3 : Int32) : Option zP :=
  (xX5_init_k5 pP v0 v1 v2 v3).bind fun q1 =>
  zlet (zpf q1 v0 3 (0 : Int32)) fun M2 =>
  some M2
set_option maxHeartbeats 4000000 in
set_option maxRecDepth 100000 in
theorem tX9_init_k5 {κ : Nat → ClassId} {tg : Nat} {S : zEn} {ad : Nat → Nat} (hEk : zEk (zE tg S)) {pT : zM} {pR : zM} {pX : zM} {pF : zM} {pB : zM} {pP : zP} {v0 : Nat} {v1 : Int32} {v2 : Int32} {v3 : Int32} (hk : zk5 pP v0) (hv0 : v0 < pP.2.2.2) {res : zP} (h : xX9_init_k5 pP v0 v1 v2 v3 = some res) (l : Launch) (D : va_G) : zCT (zE tg S) D vwCl (zty κ) l yX9_init wsX9_init ({ frames := 2, cells := 0, slots := 0, locals := 44 } : Room) 0 0 [.ref (ad (81 + v0)), .int v1, .int v2, .int v3] (zwC κ ad pT pR pX pF pB pP) (zPd none (zwC κ ad pT pR pX pF pB res)) := by
  refine zCT.ofI (bytes := cX9_init) (maxL := 4) (ret := none) rfl (by decide) rfl (Nat.le_of_ble_eq_true rfl) ?_
  intro X hC hR hI
  unfold xX9_init_k5 at h
  refine zV.sub (lv' := [(0, .ref (ad (81 + v0))), (1, .int v1), (2, .int v2), (3, .int v3)]) [0, 1, 2, 3] rfl ?_
  refine zr_aload_n (pc := 0) hC 0 rfl rfl dX9_init_0 ?_
  refine zr_iload_n (pc := 1) hC 1 rfl rfl dX9_init_1 ?_
  refine zr_iload_n (pc := 2) hC 2 rfl rfl dX9_init_2 ?_
  refine zr_iload_n (pc := 3) hC 3 rfl rfl dX9_init_3 ?_
  obtain ⟨q1, hq1, h⟩ := zbd h
  refine zr_cI (pc := 4) hC hEk [.int v1, .int v2, .int v3] [] (81 + v0) 3 (fun l D => tX5_init_k5 hEk hk hv0 hq1 l D) gX9_init_X5_init rfl rfl rfl wiX9_init_k5_X5_init rfl hyIX5_init ⟨Nat.le_of_ble_eq_true rfl, Nat.le_of_ble_eq_true rfl⟩ rfl rfl (Nat.le_of_ble_eq_true rfl) ⟨Nat.le_of_ble_eq_true rfl, Nat.le_of_ble_eq_true rfl⟩ dX9_init_4 ?_
  have hk : zk5 q1 v0 := by have h8 := (kX5_init_k5 hq1).1; first | (rw [h8]; exact hk) | (unfold zk5 at hk ⊢; rw [h8]; exact hk)
  have hv0 : v0 < q1.2.2.2 := by rw [(kX5_init_k5 hq1).2]; exact hv0
  refine zr_aload_n (pc := 7) hC 0 rfl rfl dX9_init_7 ?_
  refine zr_iconst (pc := 8) hC zki_0 dX9_init_8 ?_
  obtain ⟨M2, e3, h⟩ := zle h
  refine zpp_5 (pc := 9) hC hinX9_init_k5_X0 flX9_init_k5_9 hk hv0 e3 dX9_init_9 ?_
  obtain rfl := Option.some.inj h
  exact zr_vret hC hR ⟨rfl, rfl⟩ (Nat.le_refl _) (Nat.le_refl _) dX9_init_12
theorem kX9_init_k5 {pP : zP} {v0 : Nat} {v1 v2 v3 : Int32} {q : zP} (h : xX9_init_k5 pP v0 v1 v2 v3 = some q) : q.2.1 = pP.2.1 ∧ q.2.2.2 = pP.2.2.2 := by
  unfold xX9_init_k5 at h
  obtain ⟨q1, h1, h⟩ := zbd h
  obtain ⟨M3, e3, h⟩ := zle h
  subst e3
  obtain rfl := Option.some.inj h
  have h8 := kX5_init_k5 h1
  exact ⟨h8.1, h8.2⟩
/-! X0_init_k5 -/
theorem hyIX0_init : yX0_init.cls ≠ "java/lang/invoke/MethodHandle" ∧ yX0_init.cls ≠ "java/lang/invoke/VarHandle" ∧ (parseMethodDescriptor yX0_init.desc).map (fun d => d.parameters.length) = some 3 := by decide +kernel
theorem wiX0_init_k5_X9_init : Cond.initialized yX9_init.cls ∈ wsX0_init ∧ Cond.methodLink RX0 3 yX9_init ∈ wsX0_init ∧ Cond.instanceMethod yX9_init ∈ wsX0_init := by decide +kernel
theorem hinX0_init_k5_X0 : ∀ w ∈ wsX00, w ∈ wsX0_init := fun _ h => List.mem_cons_of_mem _ (List.mem_append_left _ (List.mem_append_left _ (List.mem_append_left _ (List.mem_append_left _ (List.mem_append_left _ (List.mem_append_right _ h))))))
theorem hinX0_init_k5_X9 : ∀ w ∈ wsX90, w ∈ wsX0_init := fun _ h => List.mem_cons_of_mem _ (List.mem_append_left _ (List.mem_append_left _ (List.mem_append_left _ (List.mem_append_left _ (List.mem_append_right _ h)))))
theorem hinX0_init_k5_X1 : ∀ w ∈ wsX10, w ∈ wsX0_init := fun _ h => List.mem_cons_of_mem _ (List.mem_append_left _ (List.mem_append_left _ (List.mem_append_left _ (List.mem_append_right _ h))))
theorem hinX0_init_k5_X2 : ∀ w ∈ wsX20, w ∈ wsX0_init := fun _ h => List.mem_cons_of_mem _ (List.mem_append_left _ (List.mem_append_left _ (List.mem_append_right _ h)))
theorem hinX0_init_k5_X4 : ∀ w ∈ wsX40, w ∈ wsX0_init := fun _ h => List.mem_cons_of_mem _ (List.mem_append_left _ (List.mem_append_right _ h))
theorem hinX0_init_k5_X7 : ∀ w ∈ wsX70, w ∈ wsX0_init := fun _ h => List.mem_cons_of_mem _ (List.mem_append_right _ h)
def xX0_init_k5 (pP : zP) (v0 : Nat) (v1 : Int32) (v2 : Int32) (v3 : Int32) : Option zP :=
  (xX9_init_k5 pP v0 v1 v2 v3).bind fun q1 =>
  some q1
set_option maxHeartbeats 4000000 in
set_option maxRecDepth 100000 in
theorem tX0_init_k5 {κ : Nat → ClassId} {tg : Nat} {S : zEn} {ad : Nat → Nat} (hEk : zEk (zE tg S)) {pT : zM} {pR : zM} {pX : zM} {pF : zM} {pB : zM} {pP : zP} {v0 : Nat} {v1 : Int32} {v2 : Int32} {v3 : Int32} (hk : zk5 pP v0) (hv0 : v0 < pP.2.2.2) {res : zP} (h : xX0_init_k5 pP v0 v1 v2 v3 = some res) (l : Launch) (D : va_G) : zCT (zE tg S) D vwCl (zty κ) l yX0_init wsX0_init ({ frames := 3, cells := 0, slots := 0, locals := 67 } : Room) 0 0 [.ref (ad (81 + v0)), .int v1, .int v2, .int v3] (zwC κ ad pT pR pX pF pB pP) (zPd none (zwC κ ad pT pR pX pF pB res)) := by
  refine zCT.ofI (bytes := cX0_init) (maxL := 4) (ret := none) rfl (by decide) rfl (Nat.le_of_ble_eq_true rfl) ?_
  intro X hC hR hI
  unfold xX0_init_k5 at h
  refine zV.sub (lv' := [(0, .ref (ad (81 + v0))), (1, .int v1), (2, .int v2), (3, .int v3)]) [0, 1, 2, 3] rfl ?_
  refine zr_aload_n (pc := 0) hC 0 rfl rfl dX0_init_0 ?_
  refine zr_iload_n (pc := 1) hC 1 rfl rfl dX0_init_1 ?_
  refine zr_iload_n (pc := 2) hC 2 rfl rfl dX0_init_2 ?_
  refine zr_iload_n (pc := 3) hC 3 rfl rfl dX0_init_3 ?_
  obtain ⟨q1, hq1, h⟩ := zbd h
  refine zr_cI (pc := 4) hC hEk [.int v1, .int v2, .int v3] [] (81 + v0) 3 (fun l D => tX9_init_k5 hEk hk hv0 hq1 l D) gX0_init_X9_init rfl rfl rfl wiX0_init_k5_X9_init rfl hyIX9_init ⟨Nat.le_of_ble_eq_true rfl, Nat.le_of_ble_eq_true rfl⟩ rfl rfl (Nat.le_of_ble_eq_true rfl) ⟨Nat.le_of_ble_eq_true rfl, Nat.le_of_ble_eq_true rfl⟩ dX0_init_4 ?_
  have hk : zk5 q1 v0 := by have h8 := (kX9_init_k5 hq1).1; first | (rw [h8]; exact hk) | (unfold zk5 at hk ⊢; rw [h8]; exact hk)
  have hv0 : v0 < q1.2.2.2 := by rw [(kX9_init_k5 hq1).2]; exact hv0
  obtain rfl := Option.some.inj h
  exact zr_vret hC hR ⟨rfl, rfl⟩ (Nat.le_refl _) (Nat.le_refl _) dX0_init_7
theorem kX0_init_k5 {pP : zP} {v0 : Nat} {v1 v2 v3 : Int32} {q : zP} (h : xX0_init_k5 pP v0 v1 v2 v3 = some q) : q.2.1 = pP.2.1 ∧ q.2.2.2 = pP.2.2.2 := by
  unfold xX0_init_k5 at h
  obtain ⟨q1, h1, h⟩ := zbd h
  obtain rfl := Option.some.inj h
  have h8 := kX9_init_k5 h1
  exact ⟨h8.1, h8.2⟩
/-! X5_ofKind -/
/-- a player more: of this kind, with nothing in its fields -/
def zpn (P : zP) (k : Nat) : zP := (P.1, fun a => if a = P.2.2.2 then k else P.2.1 a, fun a => if a = P.2.2.2 then fun _ => 0 else P.2.2.1 a, P.2.2.2 + 1)
def zpa (P : zP) (i a : Nat) : zP := (fun j => if j = i then some a else P.1 j, P.2)
def zPwf (P : zP) : Prop := ∀ i a, P.1 i = some a → a < P.2.2.2
/-- only where each place names a player that there is -/
noncomputable def zwfg {α β : Type} (P : zP) (o : Option α) (f : α → Option β) : Option β := @ite _ (zPwf P) (Classical.propDecidable _) (o.bind f) none
theorem zwfs {α β : Type} {P : zP} {o : Option α} {f : α → Option β} {r : β} (h : zwfg P o f = some r) : zPwf P ∧ ∃ q, o = some q ∧ f q = some r := by
  unfold zwfg at h
  by_cases hc : zPwf P
  · rw [if_pos hc] at h
    exact ⟨hc, zbd h⟩
  · rw [if_neg hc] at h
    cases h
theorem entT_ad {κ : Nat → ClassId} {ad ad' : Nat → Nat} {M : zM} {j : Nat} (h : ∀ j, j < 81 → ad j = ad' j) : entT κ ad M j = entT κ ad' M j := by
  have e12 : (fun i => if i < 24 then some (ad (14 + i)) else none) = (fun i => if i < 24 then some (ad' (14 + i)) else none) := by
    funext i
    by_cases hi : i < 24
    · rw [if_pos hi, if_pos hi, h _ (by omega)]
    · rw [if_neg hi, if_neg hi]
  have e13 : (fun i => if i < 24 then some (ad (38 + i)) else none) = (fun i => if i < 24 then some (ad' (38 + i)) else none) := by
    funext i
    by_cases hi : i < 24
    · rw [if_pos hi, if_pos hi, h _ (by omega)]
    · rw [if_neg hi, if_neg hi]
  unfold entT
  simp only [zCob_X10, e12, e13, h 1 (by decide), h 2 (by decide), h 3 (by decide), h 4 (by decide), h 5 (by decide), h 6 (by decide), h 7 (by decide), h 8 (by decide), h 9 (by decide), h 10 (by decide), h 11 (by decide), h 12 (by decide), h 13 (by decide)]
theorem entR_ad {κ : Nat → ClassId} {ad ad' : Nat → Nat} {M : zM} {j : Nat} (h : ∀ j, j < 81 → ad j = ad' j) : entR κ ad M j = entR κ ad' M j := by
  unfold entR
  simp only [zCob_X6, h 0 (by decide), h 63 (by decide), h 64 (by decide), h 65 (by decide), h 66 (by decide), h 67 (by decide), h 68 (by decide), h 69 (by decide)]
theorem entX_ad {κ : Nat → ClassId} {ad ad' : Nat → Nat} {M : zM} {j : Nat} (h : ∀ j, j < 81 → ad j = ad' j) : entX κ ad M j = entX κ ad' M j := by
  unfold entX
  simp only [zCob_X8, h 71 (by decide)]
theorem entF_ad {κ : Nat → ClassId} {ad ad' : Nat → Nat} {M : zM} {j : Nat} (h : ∀ j, j < 81 → ad j = ad' j) : entF κ ad M j = entF κ ad' M j := by
  unfold entF
  simp only [zCob_X3, h 73 (by decide), h 74 (by decide), h 75 (by decide)]
theorem entB_ad {κ : Nat → ClassId} {ad ad' : Nat → Nat} {M : zM} {j : Nat} (h : ∀ j, j < 81 → ad j = ad' j) : entB κ ad M j = entB κ ad' M j := by
  unfold entB
  simp only [zCob_X11, h 0 (by decide), h 62 (by decide), h 70 (by decide), h 72 (by decide), h 77 (by decide), h 78 (by decide), h 79 (by decide), h 80 (by decide)]
theorem entPa_ad {κ : Nat → ClassId} {ad ad' : Nat → Nat} {pP : zP} (h : ∀ i a, pP.1 i = some a → ad (81 + a) = ad' (81 + a)) : entPa κ ad pP = entPa κ ad' pP := by
  have e : (fun i => (pP.1 i).map (fun a => ad (81 + a))) = (fun i => (pP.1 i).map (fun a => ad' (81 + a))) := by
    funext i
    cases hp : pP.1 i with
    | none => rfl
    | some a => simp [h i a hp]
  unfold entPa
  rw [e]
theorem entC_ad {κ : Nat → ClassId} {ad ad' : Nat → Nat} {pT pR pX pF pB : zM} {pP : zP} (h : ∀ j, j < 81 → ad j = ad' j) (h2 : ∀ i a, pP.1 i = some a → ad (81 + a) = ad' (81 + a)) (i : Nat) : entC κ ad pT pR pX pF pB pP i = entC κ ad' pT pR pX pF pB pP i := by
  unfold entC
  rw [entT_ad h, entR_ad h, entX_ad h, entF_ad h, entB_ad h, entPa_ad h2]
theorem zw_more {κ : Nat → ClassId} {ad : Nat → Nat} {pT pR pX pF pB : zM} {pP : zP} {k q : Nat} {e : va_E} (hwf : zPwf pP) (he : entP (zpn pP k) pP.2.2.2 = e) : zwC κ ad pT pR pX pF pB pP ++ [(q, e)] = zwC κ (fun j => if j = 81 + pP.2.2.2 then q else ad j) pT pR pX pF pB (zpn pP k) := by
  show _ = zw _ _ (81 + (pP.2.2.2 + 1))
  rw [← Nat.add_assoc, zw_push, entC_pl, he, if_pos rfl]
  congr 1
  refine zw_congr (fun i hi => (if_neg (by omega)).symm) (fun i hi => ?_)
  rw [entC_ad (ad' := fun j => if j = 81 + pP.2.2.2 then q else ad j) (fun j hj => (if_neg (by omega)).symm) (fun i a ha => (if_neg (by have := hwf i a ha; omega)).symm)]
  have h3 : ¬ i - 81 = pP.2.2.2 ∨ i ≤ 80 := by omega
  unfold entC
  rcases h3 with h3 | h3
  · have h4 : entP (zpn pP k) (i - 81) = entP pP (i - 81) := by simp [entP, zpn, h3]
    rw [h4]
    rfl
  · by_cases h5 : i = 63
    · subst h5; rfl
    · simp only [if_neg h5, if_pos h3]
theorem zpa_u {κ : Nat → ClassId} {ad : Nat → Nat} {pT pR pX pF pB : zM} {pP : zP} {i a : Nat} : ∀ k, (if k = 63 then .inl (κ 2, 4, .inr (.inr (.inr (.inr (va_up (fun i => (pP.1 i).map (fun a => ad (81 + a))) i (some (ad (81 + a)))))))) else entC κ ad pT pR pX pF pB pP k) = entC κ ad pT pR pX pF pB (zpa pP i a) k := by
  intro k
  by_cases hk : k = 63
  · subst hk
    rw [if_pos rfl]
    have e : va_up (fun i => (pP.1 i).map (fun a => ad (81 + a))) i (some (ad (81 + a))) = fun j => ((zpa pP i a).1 j).map (fun a => ad (81 + a)) := by
      funext j
      by_cases hj : j = i
      · simp [va_up, zpa, hj]
      · simp [va_up, zpa, hj]
    rw [e]
    rfl
  · rw [if_neg hk]
    unfold entC
    simp only [if_neg hk]
    rfl
theorem zco_st {κ : Nat → ClassId} {tg : Nat} {S : zEn} {ad : Nat → Nat} {X : zX} {cells slots nL pc a : Nat} {lv : zLv} {st : List Value} {cc : ByteArray} {own : String} {Ts : List Cond} {rm : Room} {pT pR pX pF pB : zM} {pP P' : zP} {i : Int32} (hC : zC X cc own Ts vwCl (zty κ) (zE tg S) nL rm) (hEk : zEk (zE tg S)) (ha : a < pP.2.2.2) (hi : ¬ (i < 0 ∨ 4 ≤ i.toNatClampNeg)) (he : zpa pP i.toNatClampNeg a = P') (hd : decode cc pc = .ok (.aastore, 1)) (kk : zV X cells slots (zwC κ ad pT pR pX pF pB P') lv st (pc + 1)) : zV X cells slots (zwC κ ad pT pR pX pF pB pP) lv (.ref (ad (81 + a)) :: .int i :: .ref (ad 63) :: st) pc := by
  subst he
  by_cases k0 : pP.2.1 a = 0
  · exact zr_aast hC 63 2 (81 + a) (zNC (by decide)) entC_63 rfl (zE_cast (C := RX2) (by simp)) (by omega) (entC_p0 k0) rfl hi zpa_u hd kk
  by_cases k1 : pP.2.1 a = 1
  · exact zr_aast hC 63 2 (81 + a) (zNC (by decide)) entC_63 rfl (zE_cast (C := RX7) (by simp)) (by omega) (entC_p1 k1) rfl hi zpa_u hd kk
  by_cases k2 : pP.2.1 a = 2
  · exact zr_aast hC 63 2 (81 + a) (zNC (by decide)) entC_63 rfl (zE_cast (C := RX1) (by simp)) (by omega) (entC_p2 k2) rfl hi zpa_u hd kk
  by_cases k3 : pP.2.1 a = 3
  · exact zr_aast hC 63 2 (81 + a) (zNC (by decide)) entC_63 rfl (zE_cast (C := RX4) (by simp)) (by omega) (entC_p3 k3) rfl hi zpa_u hd kk
  by_cases k4 : pP.2.1 a = 4
  · exact zr_aast hC 63 2 (81 + a) (zNC (by decide)) entC_63 rfl (zE_cast (C := RX9) (by simp)) (by omega) (entC_p4 k4) rfl hi zpa_u hd kk
  exact zr_aast hC 63 2 (81 + a) (zNC (by decide)) entC_63 rfl (zE_cast (C := RX0) (by simp)) (by omega) (entC_p5 ⟨k0, k1, k2, k3, k4⟩) rfl hi zpa_u hd kk
def xX5_ofKind (pP : zP) (v0 v1 v2 v3 : Int32) : Option zP :=
  if v0 = (0 : Int32) then xX2_init_k0 (zpn pP 0) pP.2.2.2 v1 v2 v3 else
  if v0 = (1 : Int32) then xX7_init_k1 (zpn pP 1) pP.2.2.2 v1 v2 v3 else
  if v0 = (2 : Int32) then xX1_init_k2 (zpn pP 2) pP.2.2.2 v1 v2 v3 else
  if v0 = (3 : Int32) then xX4_init_k3 (zpn pP 3) pP.2.2.2 v1 v2 v3 else
  if v0 = (4 : Int32) then xX9_init_k4 (zpn pP 4) pP.2.2.2 v1 v2 v3 else
  xX0_init_k5 (zpn pP 5) pP.2.2.2 v1 v2 v3
theorem hyX5_ofKind : yX5_ofKind.cls ≠ "java/lang/invoke/MethodHandle" ∧ yX5_ofKind.cls ≠ "java/lang/invoke/VarHandle" ∧ (parseMethodDescriptor yX5_ofKind.desc).map (fun d => d.parameters.length) = some 4 := by decide +kernel
theorem wnX5_0 : Cond.classLink RX5 21 RX2 ∈ wsX5_ofKind ∧ Cond.instantiable RX2 3 ∈ wsX5_ofKind ∧ Cond.initialized RX2 ∈ wsX5_ofKind := by decide +kernel
theorem wiX5_ofKind_0 : Cond.initialized yX2_init.cls ∈ wsX5_ofKind ∧ Cond.methodLink RX5 23 yX2_init ∈ wsX5_ofKind ∧ Cond.instanceMethod yX2_init ∈ wsX5_ofKind := by decide +kernel
theorem wnX5_1 : Cond.classLink RX5 26 RX7 ∈ wsX5_ofKind ∧ Cond.instantiable RX7 3 ∈ wsX5_ofKind ∧ Cond.initialized RX7 ∈ wsX5_ofKind := by decide +kernel
theorem wiX5_ofKind_1 : Cond.initialized yX7_init.cls ∈ wsX5_ofKind ∧ Cond.methodLink RX5 28 yX7_init ∈ wsX5_ofKind ∧ Cond.instanceMethod yX7_init ∈ wsX5_ofKind := by decide +kernel
theorem wnX5_2 : Cond.classLink RX5 29 RX1 ∈ wsX5_ofKind ∧ Cond.instantiable RX1 3 ∈ wsX5_ofKind ∧ Cond.initialized RX1 ∈ wsX5_ofKind := by decide +kernel
theorem wiX5_ofKind_2 : Cond.initialized yX1_init.cls ∈ wsX5_ofKind ∧ Cond.methodLink RX5 31 yX1_init ∈ wsX5_ofKind ∧ Cond.instanceMethod yX1_init ∈ wsX5_ofKind := by decide +kernel
theorem wnX5_3 : Cond.classLink RX5 32 RX4 ∈ wsX5_ofKind ∧ Cond.instantiable RX4 3 ∈ wsX5_ofKind ∧ Cond.initialized RX4 ∈ wsX5_ofKind := by decide +kernel
theorem wiX5_ofKind_3 : Cond.initialized yX4_init.cls ∈ wsX5_ofKind ∧ Cond.methodLink RX5 34 yX4_init ∈ wsX5_ofKind ∧ Cond.instanceMethod yX4_init ∈ wsX5_ofKind := by decide +kernel
theorem wnX5_4 : Cond.classLink RX5 35 RX9 ∈ wsX5_ofKind ∧ Cond.instantiable RX9 4 ∈ wsX5_ofKind ∧ Cond.initialized RX9 ∈ wsX5_ofKind := by decide +kernel
theorem wiX5_ofKind_4 : Cond.initialized yX9_init.cls ∈ wsX5_ofKind ∧ Cond.methodLink RX5 37 yX9_init ∈ wsX5_ofKind ∧ Cond.instanceMethod yX9_init ∈ wsX5_ofKind := by decide +kernel
theorem wnX5_5 : Cond.classLink RX5 38 RX0 ∈ wsX5_ofKind ∧ Cond.instantiable RX0 4 ∈ wsX5_ofKind ∧ Cond.initialized RX0 ∈ wsX5_ofKind := by decide +kernel
theorem wiX5_ofKind_5 : Cond.initialized yX0_init.cls ∈ wsX5_ofKind ∧ Cond.methodLink RX5 40 yX0_init ∈ wsX5_ofKind ∧ Cond.instanceMethod yX0_init ∈ wsX5_ofKind := by decide +kernel
theorem hinX5_ofKind_X2 : ∀ w ∈ wsX20, w ∈ wsX5_ofKind := fun _ h => List.mem_cons_of_mem _ (List.mem_append_left _ (List.mem_append_left _ (List.mem_append_left _ (List.mem_append_left _ (List.mem_append_left _ (List.mem_append_right _ h))))))
theorem hinX5_ofKind_X7 : ∀ w ∈ wsX70, w ∈ wsX5_ofKind := fun _ h => List.mem_cons_of_mem _ (List.mem_append_left _ (List.mem_append_left _ (List.mem_append_left _ (List.mem_append_left _ (List.mem_append_right _ h)))))
theorem hinX5_ofKind_X1 : ∀ w ∈ wsX10, w ∈ wsX5_ofKind := fun _ h => List.mem_cons_of_mem _ (List.mem_append_left _ (List.mem_append_left _ (List.mem_append_left _ (List.mem_append_right _ h))))
theorem hinX5_ofKind_X4 : ∀ w ∈ wsX40, w ∈ wsX5_ofKind := fun _ h => List.mem_cons_of_mem _ (List.mem_append_left _ (List.mem_append_left _ (List.mem_append_right _ h)))
theorem hinX5_ofKind_X9 : ∀ w ∈ wsX90, w ∈ wsX5_ofKind := fun _ h => List.mem_cons_of_mem _ (List.mem_append_left _ (List.mem_append_right _ h))
theorem hinX5_ofKind_X0 : ∀ w ∈ wsX00, w ∈ wsX5_ofKind := fun _ h => List.mem_cons_of_mem _ (List.mem_append_right _ h)
set_option maxHeartbeats 4000000 in
set_option maxRecDepth 100000 in
theorem tX5_ofKind {κ : Nat → ClassId} {tg : Nat} {S : zEn} {ad : Nat → Nat} (hEk : zEk (zE tg S)) {pT pR pX pF pB : zM} {pP : zP} {v0 v1 v2 v3 : Int32} {res : zP} (hwf : zPwf pP) (h : xX5_ofKind pP v0 v1 v2 v3 = some res) (l : Launch) (D : va_G) : zCT (zE tg S) D vwCl (zty κ) l yX5_ofKind wsX5_ofKind ({ frames := 4, cells := 1, slots := 4, locals := 90 } : Room) 1 4 [.int v0, .int v1, .int v2, .int v3] (zwC κ ad pT pR pX pF pB pP) (fun rv w => ∃ ad', (∀ j, j < 81 + pP.2.2.2 → ad' j = ad j) ∧ rv = some (.ref (ad' (81 + pP.2.2.2))) ∧ pP.2.2.2 < res.2.2.2 ∧ w = zwC κ ad' pT pR pX pF pB res) := by
  refine zCT.of (cc := cX5_ofKind) (maxL := 4) (ret := (some (.object "BeforeTheEnd$Player"))) (by decide) rfl (Nat.le_of_ble_eq_true rfl) ?_
  intro X hC hR
  unfold xX5_ofKind at h
  refine zV.sub (lv' := [(0, .int v0), (1, .int v1), (2, .int v2), (3, .int v3)]) [0, 1, 2, 3] rfl ?_
  refine zr_iload_n (pc := 0) hC 0 rfl rfl dX5_ofKind_0 ?_
  by_cases c0 : v0 = (0 : Int32)
  · replace h := zip h c0
    refine zr_tabIn (pc := 1) (off := 35) (tgt := 36) hC dX5_ofKind_1 (by rw [c0]; decide) (by rw [c0]; decide) (by rw [c0]; decide) (by decide) ?_
    refine zr_new (pc := 36) (ci := 2) (T := TX2) (fs := [.int 0, .int 0, .int 0]) hC hinX5_ofKind_X2 tyX2 tyX2_ok wnX5_0 rfl (fun j hj => by rcases (show j = 0 ∨ j = 1 ∨ j = 2 by omega) with rfl | rfl | rfl <;> rfl) (Nat.le_of_ble_eq_true rfl) (Nat.le_of_ble_eq_true rfl) dX5_ofKind_36 (fun q => ?_)
    rw [zw_more (k := 0) hwf (by simp [entP, zpn])]
    obtain ⟨ad2, e2⟩ : ∃ f : Nat → Nat, f = (fun j => if j = 81 + pP.2.2.2 then q else ad j) := ⟨_, rfl⟩
    rw [← e2]
    have hq : q = ad2 (81 + pP.2.2.2) := by rw [e2]; exact (if_pos rfl).symm
    have hag : ∀ j, j < 81 + pP.2.2.2 → ad2 j = ad j := fun j hj => by rw [e2]; exact if_neg (by omega)
    rw [hq]
    have hv0 : pP.2.2.2 < (zpn pP 0).2.2.2 := Nat.lt_succ_self _
    have hk : (zpn pP 0).2.1 pP.2.2.2 = 0 := by simp [zpn]
    refine zr_dup (pc := 39) hC rfl dX5_ofKind_39 ?_
    refine zr_iload_n (pc := 40) hC 1 rfl rfl dX5_ofKind_40 ?_
    refine zr_iload_n (pc := 41) hC 2 rfl rfl dX5_ofKind_41 ?_
    refine zr_iload_n (pc := 42) hC 3 rfl rfl dX5_ofKind_42 ?_
    refine zr_cI (pc := 43) hC hEk [.int v1, .int v2, .int v3] [.ref (ad2 (81 + pP.2.2.2))] (81 + pP.2.2.2) 3 (fun l D => tX2_init_k0 hEk hk hv0 h l D) gX5_ofKind_X2_init rfl rfl rfl wiX5_ofKind_0 rfl hyIX2_init ⟨Nat.le_of_ble_eq_true rfl, Nat.le_of_ble_eq_true rfl⟩ rfl rfl (Nat.le_of_ble_eq_true rfl) ⟨Nat.le_of_ble_eq_true rfl, Nat.le_of_ble_eq_true rfl⟩ dX5_ofKind_43 ?_
    exact zr_aret (pc := 46) (x := some (ad2 (81 + pP.2.2.2))) (C := "BeforeTheEnd$Player") hC hR ⟨ad2, hag, rfl, by rw [(kX2_init_k0 h).2]; exact hv0, rfl⟩ (Nat.le_of_ble_eq_true rfl) (Nat.le_of_ble_eq_true rfl) dX5_ofKind_46
  · replace h := zin h c0
    by_cases c1 : v0 = (1 : Int32)
    · replace h := zip h c1
      refine zr_tabIn (pc := 1) (off := 46) (tgt := 47) hC dX5_ofKind_1 (by rw [c1]; decide) (by rw [c1]; decide) (by rw [c1]; decide) (by decide) ?_
      refine zr_new (pc := 47) (ci := 6) (T := TX7) (fs := [.int 0, .int 0, .int 0]) hC hinX5_ofKind_X7 tyX7 tyX7_ok wnX5_1 rfl (fun j hj => by rcases (show j = 0 ∨ j = 1 ∨ j = 2 by omega) with rfl | rfl | rfl <;> rfl) (Nat.le_of_ble_eq_true rfl) (Nat.le_of_ble_eq_true rfl) dX5_ofKind_47 (fun q => ?_)
      rw [zw_more (k := 1) hwf (by simp [entP, zpn])]
      obtain ⟨ad2, e2⟩ : ∃ f : Nat → Nat, f = (fun j => if j = 81 + pP.2.2.2 then q else ad j) := ⟨_, rfl⟩
      rw [← e2]
      have hq : q = ad2 (81 + pP.2.2.2) := by rw [e2]; exact (if_pos rfl).symm
      have hag : ∀ j, j < 81 + pP.2.2.2 → ad2 j = ad j := fun j hj => by rw [e2]; exact if_neg (by omega)
      rw [hq]
      have hv0 : pP.2.2.2 < (zpn pP 1).2.2.2 := Nat.lt_succ_self _
      have hk : (zpn pP 1).2.1 pP.2.2.2 = 1 := by simp [zpn]
      refine zr_dup (pc := 50) hC rfl dX5_ofKind_50 ?_
      refine zr_iload_n (pc := 51) hC 1 rfl rfl dX5_ofKind_51 ?_
      refine zr_iload_n (pc := 52) hC 2 rfl rfl dX5_ofKind_52 ?_
      refine zr_iload_n (pc := 53) hC 3 rfl rfl dX5_ofKind_53 ?_
      refine zr_cI (pc := 54) hC hEk [.int v1, .int v2, .int v3] [.ref (ad2 (81 + pP.2.2.2))] (81 + pP.2.2.2) 3 (fun l D => tX7_init_k1 hEk hk hv0 h l D) gX5_ofKind_X7_init rfl rfl rfl wiX5_ofKind_1 rfl hyIX7_init ⟨Nat.le_of_ble_eq_true rfl, Nat.le_of_ble_eq_true rfl⟩ rfl rfl (Nat.le_of_ble_eq_true rfl) ⟨Nat.le_of_ble_eq_true rfl, Nat.le_of_ble_eq_true rfl⟩ dX5_ofKind_54 ?_
      exact zr_aret (pc := 57) (x := some (ad2 (81 + pP.2.2.2))) (C := "BeforeTheEnd$Player") hC hR ⟨ad2, hag, rfl, by rw [(kX7_init_k1 h).2]; exact hv0, rfl⟩ (Nat.le_of_ble_eq_true rfl) (Nat.le_of_ble_eq_true rfl) dX5_ofKind_57
    · replace h := zin h c1
      by_cases c2 : v0 = (2 : Int32)
      · replace h := zip h c2
        refine zr_tabIn (pc := 1) (off := 57) (tgt := 58) hC dX5_ofKind_1 (by rw [c2]; decide) (by rw [c2]; decide) (by rw [c2]; decide) (by decide) ?_
        refine zr_new (pc := 58) (ci := 1) (T := TX1) (fs := [.int 0, .int 0, .int 0]) hC hinX5_ofKind_X1 tyX1 tyX1_ok wnX5_2 rfl (fun j hj => by rcases (show j = 0 ∨ j = 1 ∨ j = 2 by omega) with rfl | rfl | rfl <;> rfl) (Nat.le_of_ble_eq_true rfl) (Nat.le_of_ble_eq_true rfl) dX5_ofKind_58 (fun q => ?_)
        rw [zw_more (k := 2) hwf (by simp [entP, zpn])]
        obtain ⟨ad2, e2⟩ : ∃ f : Nat → Nat, f = (fun j => if j = 81 + pP.2.2.2 then q else ad j) := ⟨_, rfl⟩
        rw [← e2]
        have hq : q = ad2 (81 + pP.2.2.2) := by rw [e2]; exact (if_pos rfl).symm
        have hag : ∀ j, j < 81 + pP.2.2.2 → ad2 j = ad j := fun j hj => by rw [e2]; exact if_neg (by omega)
        rw [hq]
        have hv0 : pP.2.2.2 < (zpn pP 2).2.2.2 := Nat.lt_succ_self _
        have hk : (zpn pP 2).2.1 pP.2.2.2 = 2 := by simp [zpn]
        refine zr_dup (pc := 61) hC rfl dX5_ofKind_61 ?_
        refine zr_iload_n (pc := 62) hC 1 rfl rfl dX5_ofKind_62 ?_
        refine zr_iload_n (pc := 63) hC 2 rfl rfl dX5_ofKind_63 ?_
        refine zr_iload_n (pc := 64) hC 3 rfl rfl dX5_ofKind_64 ?_
        refine zr_cI (pc := 65) hC hEk [.int v1, .int v2, .int v3] [.ref (ad2 (81 + pP.2.2.2))] (81 + pP.2.2.2) 3 (fun l D => tX1_init_k2 hEk hk hv0 h l D) gX5_ofKind_X1_init rfl rfl rfl wiX5_ofKind_2 rfl hyIX1_init ⟨Nat.le_of_ble_eq_true rfl, Nat.le_of_ble_eq_true rfl⟩ rfl rfl (Nat.le_of_ble_eq_true rfl) ⟨Nat.le_of_ble_eq_true rfl, Nat.le_of_ble_eq_true rfl⟩ dX5_ofKind_65 ?_
        exact zr_aret (pc := 68) (x := some (ad2 (81 + pP.2.2.2))) (C := "BeforeTheEnd$Player") hC hR ⟨ad2, hag, rfl, by rw [(kX1_init_k2 h).2]; exact hv0, rfl⟩ (Nat.le_of_ble_eq_true rfl) (Nat.le_of_ble_eq_true rfl) dX5_ofKind_68
      · replace h := zin h c2
        by_cases c3 : v0 = (3 : Int32)
        · replace h := zip h c3
          refine zr_tabIn (pc := 1) (off := 68) (tgt := 69) hC dX5_ofKind_1 (by rw [c3]; decide) (by rw [c3]; decide) (by rw [c3]; decide) (by decide) ?_
          refine zr_new (pc := 69) (ci := 4) (T := TX4) (fs := [.int 0, .int 0, .int 0]) hC hinX5_ofKind_X4 tyX4 tyX4_ok wnX5_3 rfl (fun j hj => by rcases (show j = 0 ∨ j = 1 ∨ j = 2 by omega) with rfl | rfl | rfl <;> rfl) (Nat.le_of_ble_eq_true rfl) (Nat.le_of_ble_eq_true rfl) dX5_ofKind_69 (fun q => ?_)
          rw [zw_more (k := 3) hwf (by simp [entP, zpn])]
          obtain ⟨ad2, e2⟩ : ∃ f : Nat → Nat, f = (fun j => if j = 81 + pP.2.2.2 then q else ad j) := ⟨_, rfl⟩
          rw [← e2]
          have hq : q = ad2 (81 + pP.2.2.2) := by rw [e2]; exact (if_pos rfl).symm
          have hag : ∀ j, j < 81 + pP.2.2.2 → ad2 j = ad j := fun j hj => by rw [e2]; exact if_neg (by omega)
          rw [hq]
          have hv0 : pP.2.2.2 < (zpn pP 3).2.2.2 := Nat.lt_succ_self _
          have hk : (zpn pP 3).2.1 pP.2.2.2 = 3 := by simp [zpn]
          refine zr_dup (pc := 72) hC rfl dX5_ofKind_72 ?_
          refine zr_iload_n (pc := 73) hC 1 rfl rfl dX5_ofKind_73 ?_
          refine zr_iload_n (pc := 74) hC 2 rfl rfl dX5_ofKind_74 ?_
          refine zr_iload_n (pc := 75) hC 3 rfl rfl dX5_ofKind_75 ?_
          refine zr_cI (pc := 76) hC hEk [.int v1, .int v2, .int v3] [.ref (ad2 (81 + pP.2.2.2))] (81 + pP.2.2.2) 3 (fun l D => tX4_init_k3 hEk hk hv0 h l D) gX5_ofKind_X4_init rfl rfl rfl wiX5_ofKind_3 rfl hyIX4_init ⟨Nat.le_of_ble_eq_true rfl, Nat.le_of_ble_eq_true rfl⟩ rfl rfl (Nat.le_of_ble_eq_true rfl) ⟨Nat.le_of_ble_eq_true rfl, Nat.le_of_ble_eq_true rfl⟩ dX5_ofKind_76 ?_
          exact zr_aret (pc := 79) (x := some (ad2 (81 + pP.2.2.2))) (C := "BeforeTheEnd$Player") hC hR ⟨ad2, hag, rfl, by rw [(kX4_init_k3 h).2]; exact hv0, rfl⟩ (Nat.le_of_ble_eq_true rfl) (Nat.le_of_ble_eq_true rfl) dX5_ofKind_79
        · replace h := zin h c3
          by_cases c4 : v0 = (4 : Int32)
          · replace h := zip h c4
            refine zr_tabIn (pc := 1) (off := 79) (tgt := 80) hC dX5_ofKind_1 (by rw [c4]; decide) (by rw [c4]; decide) (by rw [c4]; decide) (by decide) ?_
            refine zr_new (pc := 80) (ci := 8) (T := TX9) (fs := [.int 0, .int 0, .int 0, .int 0]) hC hinX5_ofKind_X9 tyX9 tyX9_ok wnX5_4 rfl (fun j hj => by rcases (show j = 0 ∨ j = 1 ∨ j = 2 ∨ j = 3 by omega) with rfl | rfl | rfl | rfl <;> rfl) (Nat.le_of_ble_eq_true rfl) (Nat.le_of_ble_eq_true rfl) dX5_ofKind_80 (fun q => ?_)
            rw [zw_more (k := 4) hwf (by simp [entP, zpn])]
            obtain ⟨ad2, e2⟩ : ∃ f : Nat → Nat, f = (fun j => if j = 81 + pP.2.2.2 then q else ad j) := ⟨_, rfl⟩
            rw [← e2]
            have hq : q = ad2 (81 + pP.2.2.2) := by rw [e2]; exact (if_pos rfl).symm
            have hag : ∀ j, j < 81 + pP.2.2.2 → ad2 j = ad j := fun j hj => by rw [e2]; exact if_neg (by omega)
            rw [hq]
            have hv0 : pP.2.2.2 < (zpn pP 4).2.2.2 := Nat.lt_succ_self _
            have hk : (zpn pP 4).2.1 pP.2.2.2 = 4 := by simp [zpn]
            refine zr_dup (pc := 83) hC rfl dX5_ofKind_83 ?_
            refine zr_iload_n (pc := 84) hC 1 rfl rfl dX5_ofKind_84 ?_
            refine zr_iload_n (pc := 85) hC 2 rfl rfl dX5_ofKind_85 ?_
            refine zr_iload_n (pc := 86) hC 3 rfl rfl dX5_ofKind_86 ?_
            refine zr_cI (pc := 87) hC hEk [.int v1, .int v2, .int v3] [.ref (ad2 (81 + pP.2.2.2))] (81 + pP.2.2.2) 3 (fun l D => tX9_init_k4 hEk hk hv0 h l D) gX5_ofKind_X9_init rfl rfl rfl wiX5_ofKind_4 rfl hyIX9_init ⟨Nat.le_of_ble_eq_true rfl, Nat.le_of_ble_eq_true rfl⟩ rfl rfl (Nat.le_of_ble_eq_true rfl) ⟨Nat.le_of_ble_eq_true rfl, Nat.le_of_ble_eq_true rfl⟩ dX5_ofKind_87 ?_
            exact zr_aret (pc := 90) (x := some (ad2 (81 + pP.2.2.2))) (C := "BeforeTheEnd$Player") hC hR ⟨ad2, hag, rfl, by rw [(kX9_init_k4 h).2]; exact hv0, rfl⟩ (Nat.le_of_ble_eq_true rfl) (Nat.le_of_ble_eq_true rfl) dX5_ofKind_90
          · replace h := zin h c4
            refine zr_tabOut (pc := 1) (tgt := 91) hC dX5_ofKind_1 (zsw_out_0_5 c0 c1 c2 c3 c4) (by decide) ?_
            refine zr_new (pc := 91) (ci := 0) (T := TX0) (fs := [.int 0, .int 0, .int 0, .int 0]) hC hinX5_ofKind_X0 tyX0 tyX0_ok wnX5_5 rfl (fun j hj => by rcases (show j = 0 ∨ j = 1 ∨ j = 2 ∨ j = 3 by omega) with rfl | rfl | rfl | rfl <;> rfl) (Nat.le_of_ble_eq_true rfl) (Nat.le_of_ble_eq_true rfl) dX5_ofKind_91 (fun q => ?_)
            rw [zw_more (k := 5) hwf (by simp [entP, zpn])]
            obtain ⟨ad2, e2⟩ : ∃ f : Nat → Nat, f = (fun j => if j = 81 + pP.2.2.2 then q else ad j) := ⟨_, rfl⟩
            rw [← e2]
            have hq : q = ad2 (81 + pP.2.2.2) := by rw [e2]; exact (if_pos rfl).symm
            have hag : ∀ j, j < 81 + pP.2.2.2 → ad2 j = ad j := fun j hj => by rw [e2]; exact if_neg (by omega)
            rw [hq]
            have hv0 : pP.2.2.2 < (zpn pP 5).2.2.2 := Nat.lt_succ_self _
            have hk : zk5 (zpn pP 5) pP.2.2.2 := by simp [zpn, zk5]
            refine zr_dup (pc := 94) hC rfl dX5_ofKind_94 ?_
            refine zr_iload_n (pc := 95) hC 1 rfl rfl dX5_ofKind_95 ?_
            refine zr_iload_n (pc := 96) hC 2 rfl rfl dX5_ofKind_96 ?_
            refine zr_iload_n (pc := 97) hC 3 rfl rfl dX5_ofKind_97 ?_
            refine zr_cI (pc := 98) hC hEk [.int v1, .int v2, .int v3] [.ref (ad2 (81 + pP.2.2.2))] (81 + pP.2.2.2) 3 (fun l D => tX0_init_k5 hEk hk hv0 h l D) gX5_ofKind_X0_init rfl rfl rfl wiX5_ofKind_5 rfl hyIX0_init ⟨Nat.le_of_ble_eq_true rfl, Nat.le_of_ble_eq_true rfl⟩ rfl rfl (Nat.le_of_ble_eq_true rfl) ⟨Nat.le_of_ble_eq_true rfl, Nat.le_of_ble_eq_true rfl⟩ dX5_ofKind_98 ?_
            exact zr_aret (pc := 101) (x := some (ad2 (81 + pP.2.2.2))) (C := "BeforeTheEnd$Player") hC hR ⟨ad2, hag, rfl, by rw [(kX0_init_k5 h).2]; exact hv0, rfl⟩ (Nat.le_of_ble_eq_true rfl) (Nat.le_of_ble_eq_true rfl) dX5_ofKind_101
/-! X3_size -/
theorem hyX3_size : yX3_size.cls = RX3 ∧ yX3_size.cls ≠ "java/lang/invoke/MethodHandle" ∧ yX3_size.cls ≠ "java/lang/invoke/VarHandle" ∧ (parseMethodDescriptor yX3_size.desc).map (fun d => d.parameters.length) = some 0 := by decide +kernel
theorem flX3_size_15 : Cond.fieldLink RX3 15 "BeforeTheEnd$Facts" "count" "I" ∈ wsX3_size := by decide +kernel
theorem hinX3_size_X3 : ∀ w ∈ wsX30, w ∈ wsX3_size := fun _ h => List.mem_cons_of_mem _ (List.mem_append_right _ h)
def xX3_size (pF : zM)  : Option Int32 :=
  some (pF.1 72 1)
set_option maxHeartbeats 4000000 in
set_option maxRecDepth 100000 in
theorem tX3_size {κ : Nat → ClassId} {tg : Nat} {S : zEn} {ad : Nat → Nat} (hEk : zEk (zE tg S)) {pT : zM} {pR : zM} {pX : zM} {pF : zM} {pB : zM} {pP : zP}  {res : Int32} (h : xX3_size pF  = some res) (l : Launch) (D : va_G) : zCT (zE tg S) D vwCl (zty κ) l yX3_size wsX3_size ({ frames := 0, cells := 0, slots := 0, locals := 0 } : Room) 0 0 [.ref (ad 72)] (zwC κ ad pT pR pX pF pB pP) (zPd (some (.int res)) (zwC κ ad pT pR pX pF pB pP)) := by
  refine zCT.of (cc := cX3_size) (maxL := 1) (ret := (some .int)) (by decide) rfl (Nat.le_of_ble_eq_true rfl) ?_
  intro X hC hR
  unfold xX3_size at h
  refine zV.sub (lv' := [(0, .ref (ad 72))]) [0] rfl ?_
  refine zr_aload_n (pc := 0) hC 0 rfl rfl dX3_size_0 ?_
  refine zcg_72_1 (pc := 1) hC hinX3_size_X3 flX3_size_15 dX3_size_1 ?_
  obtain rfl := Option.some.inj h
  exact zr_iret hC hR ⟨rfl, rfl⟩ (Nat.le_refl _) (Nat.le_refl _) dX3_size_4
/-! X3_append -/
theorem hyX3_append : yX3_append.cls = RX3 ∧ yX3_append.cls ≠ "java/lang/invoke/MethodHandle" ∧ yX3_append.cls ≠ "java/lang/invoke/VarHandle" ∧ (parseMethodDescriptor yX3_append.desc).map (fun d => d.parameters.length) = some 1 := by decide +kernel
theorem flX3_append_15 : Cond.fieldLink RX3 15 "BeforeTheEnd$Facts" "count" "I" ∈ wsX3_append := by decide +kernel
theorem flX3_append_9 : Cond.fieldLink RX3 9 "BeforeTheEnd$Facts" "fact" "[I" ∈ wsX3_append := by decide +kernel
theorem hinX3_append_X3 : ∀ w ∈ wsX30, w ∈ wsX3_append := fun _ h => List.mem_cons_of_mem _ (List.mem_append_right _ h)
def xX3_append (pF : zM) (v1 : Int32) : Option (Int32 × zM) :=
  if (pF.1 72 1) < 0 then
  (some ((-9 : Int32), pF))
  else
  if (pF.1 72 1) < (5 : Int32) then
  (if ((pF.1 72 1) < 0 ∨ 5 ≤ (pF.1 72 1).toNatClampNeg) then none else
  zlet (zsi pF 73 (pF.1 72 1).toNatClampNeg v1) fun M4 =>
  zlet (zsi M4 72 1 ((M4.1 72 1) + (1 : Int32))) fun M6 =>
  some (((M6.1 72 1) - (1 : Int32)), M6))
  else
  some ((-9 : Int32), pF)
set_option maxHeartbeats 4000000 in
set_option maxRecDepth 100000 in
theorem tX3_append {κ : Nat → ClassId} {tg : Nat} {S : zEn} {ad : Nat → Nat} (hEk : zEk (zE tg S)) {pT : zM} {pR : zM} {pX : zM} {pF : zM} {pB : zM} {pP : zP} {v1 : Int32} {res : (Int32 × zM)} (h : xX3_append pF v1 = some res) (l : Launch) (D : va_G) : zCT (zE tg S) D vwCl (zty κ) l yX3_append wsX3_append ({ frames := 0, cells := 0, slots := 0, locals := 0 } : Room) 0 0 [.ref (ad 72), .int v1] (zwC κ ad pT pR pX pF pB pP) (zPd (some (.int res.1)) (zwC κ ad pT pR pX res.2 pB pP)) := by
  refine zCT.of (cc := cX3_append) (maxL := 2) (ret := (some .int)) (by decide) rfl (Nat.le_of_ble_eq_true rfl) ?_
  intro X hC hR
  unfold xX3_append at h
  refine zV.sub (lv' := [(0, .ref (ad 72)), (1, .int v1)]) [0, 1] rfl ?_
  refine zr_aload_n (pc := 0) hC 0 rfl rfl dX3_append_0 ?_
  refine zcg_72_1 (pc := 1) hC hinX3_append_X3 flX3_append_15 dX3_append_1 ?_
  refine zr_if_lt (pc := 4) (tgt := 15) hC dX3_append_4 (by decide) (fun c1 => ?_) (fun c1 => ?_)
  · replace h := zip h c1
    refine zr_bipush (pc := 15) hC zkb_m9 dX3_append_15 ?_
    obtain rfl := Option.some.inj h
    exact zr_iret hC hR ⟨rfl, rfl⟩ (Nat.le_refl _) (Nat.le_refl _) dX3_append_17
  · replace h := zin h c1
    refine zr_aload_n (pc := 7) hC 0 rfl rfl dX3_append_7 ?_
    refine zcg_72_1 (pc := 8) hC hinX3_append_X3 flX3_append_15 dX3_append_8 ?_
    refine zr_iconst (pc := 11) hC zki_5 dX3_append_11 ?_
    refine zr_icmp_lt (pc := 12) (tgt := 18) hC dX3_append_12 (by decide) (fun c2 => ?_) (fun c2 => ?_)
    · replace h := zip h c2
      refine zr_aload_n (pc := 18) hC 0 rfl rfl dX3_append_18 ?_
      refine zcg_72_0 (pc := 19) hC hinX3_append_X3 flX3_append_9 dX3_append_19 ?_
      refine zr_aload_n (pc := 22) hC 0 rfl rfl dX3_append_22 ?_
      refine zcg_72_1 (pc := 23) hC hinX3_append_X3 flX3_append_15 dX3_append_23 ?_
      refine zr_iload_n (pc := 26) hC 1 rfl rfl dX3_append_26 ?_
      obtain ⟨i3, h⟩ := zgd h
      obtain ⟨M4, e5, h⟩ := zle h
      refine zcs_73 (pc := 27) hC i3 e5 dX3_append_27 ?_
      refine zr_aload_n (pc := 28) hC 0 rfl rfl dX3_append_28 ?_
      refine zr_dup (pc := 29) hC rfl dX3_append_29 ?_
      refine zcg_72_1 (pc := 30) hC hinX3_append_X3 flX3_append_15 dX3_append_30 ?_
      refine zr_iconst (pc := 33) hC zki_1 dX3_append_33 ?_
      refine zr_iadd (pc := 34) hC dX3_append_34 ?_
      obtain ⟨M6, e7, h⟩ := zle h
      refine zcp_72_1 (pc := 35) hC hinX3_append_X3 flX3_append_15 e7 dX3_append_35 ?_
      refine zr_aload_n (pc := 38) hC 0 rfl rfl dX3_append_38 ?_
      refine zcg_72_1 (pc := 39) hC hinX3_append_X3 flX3_append_15 dX3_append_39 ?_
      refine zr_iconst (pc := 42) hC zki_1 dX3_append_42 ?_
      refine zr_isub (pc := 43) hC dX3_append_43 ?_
      obtain rfl := Option.some.inj h
      exact zr_iret hC hR ⟨rfl, rfl⟩ (Nat.le_refl _) (Nat.le_refl _) dX3_append_44
    · replace h := zin h c2
      refine zr_bipush (pc := 15) hC zkb_m9 dX3_append_15 ?_
      obtain rfl := Option.some.inj h
      exact zr_iret hC hR ⟨rfl, rfl⟩ (Nat.le_refl _) (Nat.le_refl _) dX3_append_17
/-! X3_cutBack -/
theorem hyX3_cutBack : yX3_cutBack.cls = RX3 ∧ yX3_cutBack.cls ≠ "java/lang/invoke/MethodHandle" ∧ yX3_cutBack.cls ≠ "java/lang/invoke/VarHandle" ∧ (parseMethodDescriptor yX3_cutBack.desc).map (fun d => d.parameters.length) = some 1 := by decide +kernel
theorem flX3_cutBack_15 : Cond.fieldLink RX3 15 "BeforeTheEnd$Facts" "count" "I" ∈ wsX3_cutBack := by decide +kernel
theorem hinX3_cutBack_X3 : ∀ w ∈ wsX30, w ∈ wsX3_cutBack := fun _ h => List.mem_cons_of_mem _ (List.mem_append_right _ h)
def xX3_cutBack (pF : zM) (v1 : Int32) : Option zM :=
  if v1 < 0 then
  (some pF)
  else
  if (pF.1 72 1) ≤ v1 then
  (some pF)
  else
  zlet (zsi pF 72 1 v1) fun M3 =>
  some M3
set_option maxHeartbeats 4000000 in
set_option maxRecDepth 100000 in
theorem tX3_cutBack {κ : Nat → ClassId} {tg : Nat} {S : zEn} {ad : Nat → Nat} (hEk : zEk (zE tg S)) {pT : zM} {pR : zM} {pX : zM} {pF : zM} {pB : zM} {pP : zP} {v1 : Int32} {res : zM} (h : xX3_cutBack pF v1 = some res) (l : Launch) (D : va_G) : zCT (zE tg S) D vwCl (zty κ) l yX3_cutBack wsX3_cutBack ({ frames := 0, cells := 0, slots := 0, locals := 0 } : Room) 0 0 [.ref (ad 72), .int v1] (zwC κ ad pT pR pX pF pB pP) (zPd none (zwC κ ad pT pR pX res pB pP)) := by
  refine zCT.of (cc := cX3_cutBack) (maxL := 2) (ret := none) (by decide) rfl (Nat.le_of_ble_eq_true rfl) ?_
  intro X hC hR
  unfold xX3_cutBack at h
  refine zV.sub (lv' := [(0, .ref (ad 72)), (1, .int v1)]) [0, 1] rfl ?_
  refine zr_iload_n (pc := 0) hC 1 rfl rfl dX3_cutBack_0 ?_
  refine zr_if_lt (pc := 1) (tgt := 17) hC dX3_cutBack_1 (by decide) (fun c1 => ?_) (fun c1 => ?_)
  · replace h := zip h c1
    obtain rfl := Option.some.inj h
    exact zr_vret hC hR ⟨rfl, rfl⟩ (Nat.le_refl _) (Nat.le_refl _) dX3_cutBack_17
  · replace h := zin h c1
    refine zr_iload_n (pc := 4) hC 1 rfl rfl dX3_cutBack_4 ?_
    refine zr_aload_n (pc := 5) hC 0 rfl rfl dX3_cutBack_5 ?_
    refine zcg_72_1 (pc := 6) hC hinX3_cutBack_X3 flX3_cutBack_15 dX3_cutBack_6 ?_
    refine zr_icmp_ge (pc := 9) (tgt := 17) hC dX3_cutBack_9 (by decide) (fun c2 => ?_) (fun c2 => ?_)
    · replace h := zip h c2
      obtain rfl := Option.some.inj h
      exact zr_vret hC hR ⟨rfl, rfl⟩ (Nat.le_refl _) (Nat.le_refl _) dX3_cutBack_17
    · replace h := zin h c2
      refine zr_aload_n (pc := 12) hC 0 rfl rfl dX3_cutBack_12 ?_
      refine zr_iload_n (pc := 13) hC 1 rfl rfl dX3_cutBack_13 ?_
      obtain ⟨M3, e4, h⟩ := zle h
      refine zcp_72_1 (pc := 14) hC hinX3_cutBack_X3 flX3_cutBack_15 e4 dX3_cutBack_14 ?_
      obtain rfl := Option.some.inj h
      exact zr_vret hC hR ⟨rfl, rfl⟩ (Nat.le_refl _) (Nat.le_refl _) dX3_cutBack_17
/-! X3_takeOrder -/
theorem hyX3_takeOrder : yX3_takeOrder.cls = RX3 ∧ yX3_takeOrder.cls ≠ "java/lang/invoke/MethodHandle" ∧ yX3_takeOrder.cls ≠ "java/lang/invoke/VarHandle" ∧ (parseMethodDescriptor yX3_takeOrder.desc).map (fun d => d.parameters.length) = some 2 := by decide +kernel
theorem flX3_takeOrder_15 : Cond.fieldLink RX3 15 "BeforeTheEnd$Facts" "count" "I" ∈ wsX3_takeOrder := by decide +kernel
theorem flX3_takeOrder_19 : Cond.fieldLink RX3 19 "BeforeTheEnd$Facts" "order" "[I" ∈ wsX3_takeOrder := by decide +kernel
theorem hinX3_takeOrder_X3 : ∀ w ∈ wsX30, w ∈ wsX3_takeOrder := fun _ h => List.mem_cons_of_mem _ (List.mem_append_right _ h)
def xX3_takeOrder_L8 (v1 : Int32) (w0 : zM) (w1 : Int32) (w2 : Int32) (w3 : Int32) : Option ((zM × Int32 × Int32 × Int32) ⊕ (zM ⊕ zM)) :=
  if v1 ≤ w3 then
  (some (.inr (.inr w0)))
  else
  if (5 : Int32) ≤ w3 then
  (some (.inr (.inr w0)))
  else
  zlet (w1 - w1 / (10 : Int32) * (10 : Int32)) fun z3 =>
  zlet (w1 / (10 : Int32)) fun z5 =>
  if z3 < 0 then
  (some (.inr (.inl w0)))
  else
  if (w0.1 72 1) ≤ z3 then
  (some (.inr (.inl w0)))
  else
  if ((w2 >>> (z3 &&& 31)) &&& (1 : Int32)) = (1 : Int32) then
  (some (.inr (.inl w0)))
  else
  zlet (w2 ||| ((1 : Int32) <<< (z3 &&& 31))) fun z10 =>
  if (w3 < 0 ∨ 5 ≤ w3.toNatClampNeg) then none else
  zlet (zsi w0 74 w3.toNatClampNeg z3) fun M13 =>
  some (.inl (M13, z5, z10, (w3 + (1 : Int32))))
set_option maxHeartbeats 4000000 in
set_option maxRecDepth 100000 in
theorem tX3_takeOrder_L8 {κ : Nat → ClassId} {tg : Nat} {S : zEn} {ad : Nat → Nat} {X : zX} {pT : zM} {pR : zM} {pX : zM} {pB : zM} {pP : zP} {v1 : Int32} {w0 : zM} {w1 : Int32} {w2 : Int32} {w3 : Int32} {r : ((zM × Int32 × Int32 × Int32) ⊕ (zM ⊕ zM))} (hC : zC X cX3_takeOrder RX3 wsX3_takeOrder vwCl (zty κ) (zE tg S) 7 ({ frames := 0, cells := 0, slots := 0, locals := 0 } : Room)) (hEk : zEk (zE tg S)) (hin : ∀ (x0' : zM) (x1' : Int32) (x2' : Int32) (x3' : Int32), r = .inl (x0', x1', x2', x3') → zV X 0 0 (zwC κ ad pT pR pX x0' pB pP) [(0, .ref (ad 72)), (1, .int v1), (3, .int x1'), (4, .int x2'), (5, .int x3')] [] 8) (hout0 : ∀ (x0' : zM), r = .inr (.inl x0') → zV X 0 0 (zwC κ ad pT pR pX x0' pB pP) [] [] 56) (hout1 : ∀ (x0' : zM), r = .inr (.inr x0') → zV X 0 0 (zwC κ ad pT pR pX x0' pB pP) [] [] 82) (h : xX3_takeOrder_L8  v1 w0 w1 w2 w3 = some r) : zV X 0 0 (zwC κ ad pT pR pX w0 pB pP) [(0, .ref (ad 72)), (1, .int v1), (3, .int w1), (4, .int w2), (5, .int w3)] [] 8 := by
  unfold xX3_takeOrder_L8 at h
  refine zr_iload (pc := 8) hC 4 rfl dX3_takeOrder_8 ?_
  refine zr_iload_n (pc := 10) hC 1 rfl rfl dX3_takeOrder_10 ?_
  refine zr_icmp_ge (pc := 11) (tgt := 82) hC dX3_takeOrder_11 (by decide) (fun c1 => ?_) (fun c1 => ?_)
  · replace h := zip h c1
    obtain rfl := Option.some.inj h
    exact zV.sub (lv' := []) [] rfl (hout1 w0 rfl)
  · replace h := zin h c1
    refine zr_iload (pc := 14) hC 4 rfl dX3_takeOrder_14 ?_
    refine zr_iconst (pc := 16) hC zki_5 dX3_takeOrder_16 ?_
    refine zr_icmp_ge (pc := 17) (tgt := 82) hC dX3_takeOrder_17 (by decide) (fun c2 => ?_) (fun c2 => ?_)
    · replace h := zip h c2
      obtain rfl := Option.some.inj h
      exact zV.sub (lv' := []) [] rfl (hout1 w0 rfl)
    · replace h := zin h c2
      refine zr_iload_n (pc := 20) hC 2 rfl rfl dX3_takeOrder_20 ?_
      refine zr_bipush (pc := 21) hC zkb_10 dX3_takeOrder_21 ?_
      refine zr_irem (pc := 23) hC (by decide) dX3_takeOrder_23 ?_
      obtain ⟨z3, e4, h⟩ := zle h
      refine zr_topi e4 ?_
      refine zr_istore (pc := 24) (lv' := [(6, .int z3), (0, .ref (ad 72)), (1, .int v1), (3, .int w1), (4, .int w2), (5, .int w3)]) hC (by decide) rfl dX3_takeOrder_24 ?_
      refine zr_iload_n (pc := 26) hC 3 rfl rfl dX3_takeOrder_26 ?_
      refine zr_bipush (pc := 27) hC zkb_10 dX3_takeOrder_27 ?_
      refine zr_idiv (pc := 29) hC (by decide) dX3_takeOrder_29 ?_
      obtain ⟨z5, e6, h⟩ := zle h
      refine zr_topi e6 ?_
      refine zr_istore_n (pc := 30) (lv' := [(3, .int z5), (6, .int z3), (0, .ref (ad 72)), (1, .int v1), (4, .int w2), (5, .int w3)]) hC rfl (by decide) rfl dX3_takeOrder_30 ?_
      refine zr_iload (pc := 31) hC 1 rfl dX3_takeOrder_31 ?_
      refine zr_if_lt (pc := 33) (tgt := 56) hC dX3_takeOrder_33 (by decide) (fun c7 => ?_) (fun c7 => ?_)
      · replace h := zip h c7
        obtain rfl := Option.some.inj h
        exact zV.sub (lv' := []) [] rfl (hout0 w0 rfl)
      · replace h := zin h c7
        refine zr_iload (pc := 36) hC 1 rfl dX3_takeOrder_36 ?_
        refine zr_aload_n (pc := 38) hC 2 rfl rfl dX3_takeOrder_38 ?_
        refine zcg_72_1 (pc := 39) hC hinX3_takeOrder_X3 flX3_takeOrder_15 dX3_takeOrder_39 ?_
        refine zr_icmp_ge (pc := 42) (tgt := 56) hC dX3_takeOrder_42 (by decide) (fun c8 => ?_) (fun c8 => ?_)
        · replace h := zip h c8
          obtain rfl := Option.some.inj h
          exact zV.sub (lv' := []) [] rfl (hout0 w0 rfl)
        · replace h := zin h c8
          refine zr_iload (pc := 45) hC 4 rfl dX3_takeOrder_45 ?_
          refine zr_iload (pc := 47) hC 1 rfl dX3_takeOrder_47 ?_
          refine zr_ishr (pc := 49) hC dX3_takeOrder_49 ?_
          refine zr_iconst (pc := 50) hC zki_1 dX3_takeOrder_50 ?_
          refine zr_iand (pc := 51) hC dX3_takeOrder_51 ?_
          refine zr_iconst (pc := 52) hC zki_1 dX3_takeOrder_52 ?_
          refine zr_icmp_ne (pc := 53) (tgt := 58) hC dX3_takeOrder_53 (by decide) (fun c9 => ?_) (fun c9 => ?_)
          · replace h := zin h c9
            refine zr_iload (pc := 58) hC 4 rfl dX3_takeOrder_58 ?_
            refine zr_iconst (pc := 60) hC zki_1 dX3_takeOrder_60 ?_
            refine zr_iload (pc := 61) hC 1 rfl dX3_takeOrder_61 ?_
            refine zr_ishl (pc := 63) hC dX3_takeOrder_63 ?_
            refine zr_ior (pc := 64) hC dX3_takeOrder_64 ?_
            obtain ⟨z10, e11, h⟩ := zle h
            refine zr_topi e11 ?_
            refine zr_istore (pc := 65) (lv' := [(4, .int z10), (3, .int z5), (6, .int z3), (0, .ref (ad 72)), (1, .int v1), (5, .int w3)]) hC (by decide) rfl dX3_takeOrder_65 ?_
            refine zr_aload_n (pc := 67) hC 3 rfl rfl dX3_takeOrder_67 ?_
            refine zcg_72_2 (pc := 68) hC hinX3_takeOrder_X3 flX3_takeOrder_19 dX3_takeOrder_68 ?_
            refine zr_iload (pc := 71) hC 5 rfl dX3_takeOrder_71 ?_
            refine zr_iload (pc := 73) hC 2 rfl dX3_takeOrder_73 ?_
            obtain ⟨i12, h⟩ := zgd h
            obtain ⟨M13, e14, h⟩ := zle h
            refine zcs_74 (pc := 75) hC i12 e14 dX3_takeOrder_75 ?_
            refine zr_iinc (pc := 76) (k := 5) (lv' := [(5, .int (w3 + (1 : Int32))), (4, .int z10), (3, .int z5), (6, .int z3), (0, .ref (ad 72)), (1, .int v1)]) hC zki_1 (by decide) rfl rfl dX3_takeOrder_76 ?_
            refine zr_goto (pc := 79) (tgt := 8) hC dX3_takeOrder_79 (by decide) ?_
            obtain rfl := Option.some.inj h
            exact zV.sub (lv' := [(0, .ref (ad 72)), (1, .int v1), (3, .int z5), (4, .int z10), (5, .int (w3 + (1 : Int32)))]) [4, 5, 2, 1, 0] rfl (hin M13 z5 z10 (w3 + (1 : Int32)) rfl)
          · replace h := zip h c9
            obtain rfl := Option.some.inj h
            exact zV.sub (lv' := []) [] rfl (hout0 w0 rfl)
def xX3_takeOrder (pF : zM) (v1 : Int32) (v2 : Int32) : Option (Int32 × zM) :=
  (x_it (fun a9 => xX3_takeOrder_L8 v1 a9.1 a9.2.1 a9.2.2.1 a9.2.2.2) zFU (pF, v2, (0 : Int32), (0 : Int32))).bind fun q1 =>
  Sum.elim (fun b2 => some ((0 : Int32), b2)) (fun c3 => some ((1 : Int32), c3)) q1
set_option maxHeartbeats 4000000 in
set_option maxRecDepth 100000 in
theorem tX3_takeOrder {κ : Nat → ClassId} {tg : Nat} {S : zEn} {ad : Nat → Nat} (hEk : zEk (zE tg S)) {pT : zM} {pR : zM} {pX : zM} {pF : zM} {pB : zM} {pP : zP} {v1 : Int32} {v2 : Int32} {res : (Int32 × zM)} (h : xX3_takeOrder pF v1 v2 = some res) (l : Launch) (D : va_G) : zCT (zE tg S) D vwCl (zty κ) l yX3_takeOrder wsX3_takeOrder ({ frames := 0, cells := 0, slots := 0, locals := 0 } : Room) 0 0 [.ref (ad 72), .int v1, .int v2] (zwC κ ad pT pR pX pF pB pP) (zPd (some (.int res.1)) (zwC κ ad pT pR pX res.2 pB pP)) := by
  refine zCT.of (cc := cX3_takeOrder) (maxL := 7) (ret := (some .boolean)) (by decide) rfl (Nat.le_of_ble_eq_true rfl) ?_
  intro X hC hR
  unfold xX3_takeOrder at h
  refine zV.sub (lv' := [(0, .ref (ad 72)), (1, .int v1), (2, .int v2)]) [0, 1, 2] rfl ?_
  refine zr_iload_n (pc := 0) hC 2 rfl rfl dX3_takeOrder_0 ?_
  refine zr_istore_n (pc := 1) (lv' := [(3, .int v2), (0, .ref (ad 72)), (1, .int v1), (2, .int v2)]) hC rfl (by decide) rfl dX3_takeOrder_1 ?_
  refine zr_iconst (pc := 2) hC zki_0 dX3_takeOrder_2 ?_
  refine zr_istore (pc := 3) (lv' := [(4, .int (0 : Int32)), (3, .int v2), (0, .ref (ad 72)), (1, .int v1), (2, .int v2)]) hC (by decide) rfl dX3_takeOrder_3 ?_
  refine zr_iconst (pc := 5) hC zki_0 dX3_takeOrder_5 ?_
  refine zr_istore (pc := 6) (lv' := [(5, .int (0 : Int32)), (4, .int (0 : Int32)), (3, .int v2), (0, .ref (ad 72)), (1, .int v1), (2, .int v2)]) hC (by decide) rfl dX3_takeOrder_6 ?_
  obtain ⟨q1, hq1, h⟩ := zbd h
  refine zV.sub (lv' := [(0, .ref (ad 72)), (1, .int v1), (3, .int v2), (4, .int (0 : Int32)), (5, .int (0 : Int32))]) [3, 4, 2, 1, 0] rfl ?_
  refine zit4 (Wp := fun (y0 : zM) (y1 : Int32) (y2 : Int32) (y3 : Int32) => zV X 0 0 (zwC κ ad pT pR pX y0 pB pP) [(0, .ref (ad 72)), (1, .int v1), (3, .int y1), (4, .int y2), (5, .int y3)] [] 8) (Ex := fun (b9 : (zM ⊕ zM)) => Sum.elim (fun (b0 : zM) => zV X 0 0 (zwC κ ad pT pR pX b0 pB pP) [] [] 56) (fun (c0 : zM) => zV X 0 0 (zwC κ ad pT pR pX c0 pB pP) [] [] 82) b9) (fun y0 y1 y2 y3 r9 hr hin hout => tX3_takeOrder_L8 hC hEk hin (fun z0 e9 => hout (.inl z0) e9) (fun z0 e9 => hout (.inr z0) e9) hr) zFU pF v2 (0 : Int32) (0 : Int32) q1 hq1 ?_
  rcases q1 with b2 | c3
  · replace h := zel h
    show zV X 0 0 (zwC κ ad pT pR pX b2 pB pP) [] [] 56
    refine zr_iconst (pc := 56) hC zki_0 dX3_takeOrder_56 ?_
    obtain rfl := Option.some.inj h
    exact zr_zret hC hR (by decide) ⟨rfl, rfl⟩ (Nat.le_refl _) (Nat.le_refl _) dX3_takeOrder_57
  · replace h := zer h
    show zV X 0 0 (zwC κ ad pT pR pX c3 pB pP) [] [] 82
    refine zr_iconst (pc := 82) hC zki_1 dX3_takeOrder_82 ?_
    obtain rfl := Option.some.inj h
    exact zr_zret hC hR (by decide) ⟨rfl, rfl⟩ (Nat.le_refl _) (Nat.le_refl _) dX3_takeOrder_83
/-! J6_bitCount_0f7a4 -/
theorem hyJ6_bitCount_0f7a4 : yJ6_bitCount_0f7a4.cls ≠ "java/lang/invoke/MethodHandle" ∧ yJ6_bitCount_0f7a4.cls ≠ "java/lang/invoke/VarHandle" ∧ (parseMethodDescriptor yJ6_bitCount_0f7a4.desc).map (fun d => d.parameters.length) = some 1 := by decide +kernel
theorem flJ6_bitCount_0f7a4_265 : Jvm.Cond.constant RJ6 265 (1431655765) ∈ wsJ6_bitCount_0f7a4 := by decide +kernel
theorem flJ6_bitCount_0f7a4_266 : Jvm.Cond.constant RJ6 266 (858993459) ∈ wsJ6_bitCount_0f7a4 := by decide +kernel
theorem flJ6_bitCount_0f7a4_267 : Jvm.Cond.constant RJ6 267 (252645135) ∈ wsJ6_bitCount_0f7a4 := by decide +kernel
def xJ6_bitCount_0f7a4  (v0 : Int32) : Option Int32 :=
  zlet (v0 - (((v0.toUInt32 >>> ((1 : Int32).toUInt32 &&& Int32.toUInt32 31)).toInt32) &&& (1431655765 : Int32))) fun z1 =>
  zlet ((z1 &&& (858993459 : Int32)) + (((z1.toUInt32 >>> ((2 : Int32).toUInt32 &&& Int32.toUInt32 31)).toInt32) &&& (858993459 : Int32))) fun z3 =>
  zlet ((z3 + ((z3.toUInt32 >>> ((4 : Int32).toUInt32 &&& Int32.toUInt32 31)).toInt32)) &&& (252645135 : Int32)) fun z5 =>
  zlet (z5 + ((z5.toUInt32 >>> ((8 : Int32).toUInt32 &&& Int32.toUInt32 31)).toInt32)) fun z7 =>
  zlet (z7 + ((z7.toUInt32 >>> ((16 : Int32).toUInt32 &&& Int32.toUInt32 31)).toInt32)) fun z9 =>
  some (z9 &&& (63 : Int32))
set_option maxHeartbeats 4000000 in
set_option maxRecDepth 100000 in
theorem tJ6_bitCount_0f7a4 {κ : Nat → ClassId} {E : zEn} {ws : va_W} (hEk : zEk E)  {v0 : Int32} {res : Int32} (h : xJ6_bitCount_0f7a4  v0 = some res) (l : Launch) (D : va_G) : zCT E D vwCl (zty κ) l yJ6_bitCount_0f7a4 wsJ6_bitCount_0f7a4 ({ frames := 0, cells := 0, slots := 0, locals := 0 } : Room) 0 0 [.int v0] ws (zPd (some (.int res)) ws) := by
  refine zCT.of (cc := cJ6_bitCount_0f7a4) (maxL := 1) (ret := (some .int)) (by decide) rfl (Nat.le_of_ble_eq_true rfl) ?_
  intro X hC hR
  unfold xJ6_bitCount_0f7a4 at h
  refine zV.sub (lv' := [(0, .int v0)]) [0] rfl ?_
  refine zr_iload_n (pc := 0) hC 0 rfl rfl dJ6_bitCount_0f7a4_0 ?_
  refine zr_iload_n (pc := 1) hC 0 rfl rfl dJ6_bitCount_0f7a4_1 ?_
  refine zr_iconst (pc := 2) hC zki_1 dJ6_bitCount_0f7a4_2 ?_
  refine zr_iushr (pc := 3) hC dJ6_bitCount_0f7a4_3 ?_
  refine zr_ldcw (pc := 4) hC flJ6_bitCount_0f7a4_265 dJ6_bitCount_0f7a4_4 ?_
  refine zr_iand (pc := 7) hC dJ6_bitCount_0f7a4_7 ?_
  refine zr_isub (pc := 8) hC dJ6_bitCount_0f7a4_8 ?_
  obtain ⟨z1, e2, h⟩ := zle h
  refine zr_topi e2 ?_
  refine zr_istore_n (pc := 9) (lv' := [(0, .int z1)]) hC rfl (by decide) rfl dJ6_bitCount_0f7a4_9 ?_
  refine zr_iload_n (pc := 10) hC 0 rfl rfl dJ6_bitCount_0f7a4_10 ?_
  refine zr_ldcw (pc := 11) hC flJ6_bitCount_0f7a4_266 dJ6_bitCount_0f7a4_11 ?_
  refine zr_iand (pc := 14) hC dJ6_bitCount_0f7a4_14 ?_
  refine zr_iload_n (pc := 15) hC 0 rfl rfl dJ6_bitCount_0f7a4_15 ?_
  refine zr_iconst (pc := 16) hC zki_2 dJ6_bitCount_0f7a4_16 ?_
  refine zr_iushr (pc := 17) hC dJ6_bitCount_0f7a4_17 ?_
  refine zr_ldcw (pc := 18) hC flJ6_bitCount_0f7a4_266 dJ6_bitCount_0f7a4_18 ?_
  refine zr_iand (pc := 21) hC dJ6_bitCount_0f7a4_21 ?_
  refine zr_iadd (pc := 22) hC dJ6_bitCount_0f7a4_22 ?_
  obtain ⟨z3, e4, h⟩ := zle h
  refine zr_topi e4 ?_
  refine zr_istore_n (pc := 23) (lv' := [(0, .int z3)]) hC rfl (by decide) rfl dJ6_bitCount_0f7a4_23 ?_
  refine zr_iload_n (pc := 24) hC 0 rfl rfl dJ6_bitCount_0f7a4_24 ?_
  refine zr_iload_n (pc := 25) hC 0 rfl rfl dJ6_bitCount_0f7a4_25 ?_
  refine zr_iconst (pc := 26) hC zki_4 dJ6_bitCount_0f7a4_26 ?_
  refine zr_iushr (pc := 27) hC dJ6_bitCount_0f7a4_27 ?_
  refine zr_iadd (pc := 28) hC dJ6_bitCount_0f7a4_28 ?_
  refine zr_ldcw (pc := 29) hC flJ6_bitCount_0f7a4_267 dJ6_bitCount_0f7a4_29 ?_
  refine zr_iand (pc := 32) hC dJ6_bitCount_0f7a4_32 ?_
  obtain ⟨z5, e6, h⟩ := zle h
  refine zr_topi e6 ?_
  refine zr_istore_n (pc := 33) (lv' := [(0, .int z5)]) hC rfl (by decide) rfl dJ6_bitCount_0f7a4_33 ?_
  refine zr_iload_n (pc := 34) hC 0 rfl rfl dJ6_bitCount_0f7a4_34 ?_
  refine zr_iload_n (pc := 35) hC 0 rfl rfl dJ6_bitCount_0f7a4_35 ?_
  refine zr_bipush (pc := 36) hC zkb_8 dJ6_bitCount_0f7a4_36 ?_
  refine zr_iushr (pc := 38) hC dJ6_bitCount_0f7a4_38 ?_
  refine zr_iadd (pc := 39) hC dJ6_bitCount_0f7a4_39 ?_
  obtain ⟨z7, e8, h⟩ := zle h
  refine zr_topi e8 ?_
  refine zr_istore_n (pc := 40) (lv' := [(0, .int z7)]) hC rfl (by decide) rfl dJ6_bitCount_0f7a4_40 ?_
  refine zr_iload_n (pc := 41) hC 0 rfl rfl dJ6_bitCount_0f7a4_41 ?_
  refine zr_iload_n (pc := 42) hC 0 rfl rfl dJ6_bitCount_0f7a4_42 ?_
  refine zr_bipush (pc := 43) hC zkb_16 dJ6_bitCount_0f7a4_43 ?_
  refine zr_iushr (pc := 45) hC dJ6_bitCount_0f7a4_45 ?_
  refine zr_iadd (pc := 46) hC dJ6_bitCount_0f7a4_46 ?_
  obtain ⟨z9, e10, h⟩ := zle h
  refine zr_topi e10 ?_
  refine zr_istore_n (pc := 47) (lv' := [(0, .int z9)]) hC rfl (by decide) rfl dJ6_bitCount_0f7a4_47 ?_
  refine zr_iload_n (pc := 48) hC 0 rfl rfl dJ6_bitCount_0f7a4_48 ?_
  refine zr_bipush (pc := 49) hC zkb_63 dJ6_bitCount_0f7a4_49 ?_
  refine zr_iand (pc := 51) hC dJ6_bitCount_0f7a4_51 ?_
  obtain rfl := Option.some.inj h
  exact zr_iret hC hR ⟨rfl, rfl⟩ (Nat.le_refl _) (Nat.le_refl _) dJ6_bitCount_0f7a4_52
/-! X3_hadBehind -/
theorem hyX3_hadBehind : yX3_hadBehind.cls = RX3 ∧ yX3_hadBehind.cls ≠ "java/lang/invoke/MethodHandle" ∧ yX3_hadBehind.cls ≠ "java/lang/invoke/VarHandle" ∧ (parseMethodDescriptor yX3_hadBehind.desc).map (fun d => d.parameters.length) = some 1 := by decide +kernel
theorem flX3_hadBehind_19 : Cond.fieldLink RX3 19 "BeforeTheEnd$Facts" "order" "[I" ∈ wsX3_hadBehind := by decide +kernel
theorem flX3_hadBehind_9 : Cond.fieldLink RX3 9 "BeforeTheEnd$Facts" "fact" "[I" ∈ wsX3_hadBehind := by decide +kernel
theorem hinX3_hadBehind_X3 : ∀ w ∈ wsX30, w ∈ wsX3_hadBehind := fun _ h => List.mem_cons_of_mem _ (List.mem_append_right _ h)
def xX3_hadBehind_L6 (pF : zM) (v1 : Int32) (w0 : Int32) (w1 : Int32) : Option ((Int32 × Int32) ⊕ (Int32 ⊕ Unit)) :=
  if v1 ≤ w1 then
  (some (.inr (.inr ())))
  else
  if (5 : Int32) ≤ w1 then
  (some (.inr (.inr ())))
  else
  if (w1 < 0 ∨ 5 ≤ w1.toNatClampNeg) then none else
  zlet (pF.1 74 w1.toNatClampNeg) fun z4 =>
  if z4 < 0 then
  ((xJ6_bitCount_0f7a4 w0).bind fun q7 =>
  if q7 = (1 : Int32) then
  (some (.inr (.inl w1)))
  else
  some (.inl (w0, (w1 + (1 : Int32)))))
  else
  if (5 : Int32) ≤ z4 then
  ((xJ6_bitCount_0f7a4 w0).bind fun q10 =>
  if q10 = (1 : Int32) then
  (some (.inr (.inl w1)))
  else
  some (.inl (w0, (w1 + (1 : Int32)))))
  else
  if (z4 < 0 ∨ 5 ≤ z4.toNatClampNeg) then none else
  zlet (w0 &&& (pF.1 73 z4.toNatClampNeg)) fun z13 =>
  (xJ6_bitCount_0f7a4 z13).bind fun q15 =>
  if q15 = (1 : Int32) then
  (some (.inr (.inl w1)))
  else
  some (.inl (z13, (w1 + (1 : Int32))))
set_option maxHeartbeats 4000000 in
set_option maxRecDepth 100000 in
theorem tX3_hadBehind_L6 {κ : Nat → ClassId} {tg : Nat} {S : zEn} {ad : Nat → Nat} {X : zX} {pT : zM} {pR : zM} {pX : zM} {pB : zM} {pP : zP} {pF : zM} {v1 : Int32} {w0 : Int32} {w1 : Int32} {r : ((Int32 × Int32) ⊕ (Int32 ⊕ Unit))} (hC : zC X cX3_hadBehind RX3 wsX3_hadBehind vwCl (zty κ) (zE tg S) 5 ({ frames := 1, cells := 0, slots := 0, locals := 20 } : Room)) (hEk : zEk (zE tg S)) (hin : ∀ (x0' : Int32) (x1' : Int32), r = .inl (x0', x1') → zV X 0 0 (zwC κ ad pT pR pX pF pB pP) [(0, .ref (ad 72)), (1, .int v1), (2, .int x0'), (3, .int x1')] [] 6) (hout0 : ∀ (x0' : Int32), r = .inr (.inl x0') → zV X 0 0 (zwC κ ad pT pR pX pF pB pP) [(3, .int x0')] [] 53) (hout1 : r = .inr (.inr ()) → zV X 0 0 (zwC κ ad pT pR pX pF pB pP) [] [] 63) (h : xX3_hadBehind_L6 pF v1 w0 w1 = some r) : zV X 0 0 (zwC κ ad pT pR pX pF pB pP) [(0, .ref (ad 72)), (1, .int v1), (2, .int w0), (3, .int w1)] [] 6 := by
  unfold xX3_hadBehind_L6 at h
  refine zr_iload_n (pc := 6) hC 3 rfl rfl dX3_hadBehind_6 ?_
  refine zr_iload_n (pc := 7) hC 1 rfl rfl dX3_hadBehind_7 ?_
  refine zr_icmp_ge (pc := 8) (tgt := 63) hC dX3_hadBehind_8 (by decide) (fun c1 => ?_) (fun c1 => ?_)
  · replace h := zip h c1
    obtain rfl := Option.some.inj h
    exact zV.sub (lv' := []) [] rfl (hout1  rfl)
  · replace h := zin h c1
    refine zr_iload_n (pc := 11) hC 3 rfl rfl dX3_hadBehind_11 ?_
    refine zr_iconst (pc := 12) hC zki_5 dX3_hadBehind_12 ?_
    refine zr_icmp_ge (pc := 13) (tgt := 63) hC dX3_hadBehind_13 (by decide) (fun c2 => ?_) (fun c2 => ?_)
    · replace h := zip h c2
      obtain rfl := Option.some.inj h
      exact zV.sub (lv' := []) [] rfl (hout1  rfl)
    · replace h := zin h c2
      refine zr_aload_n (pc := 16) hC 0 rfl rfl dX3_hadBehind_16 ?_
      refine zcg_72_2 (pc := 17) hC hinX3_hadBehind_X3 flX3_hadBehind_19 dX3_hadBehind_17 ?_
      refine zr_iload_n (pc := 20) hC 3 rfl rfl dX3_hadBehind_20 ?_
      obtain ⟨i3, h⟩ := zgd h
      refine zcl_74 (pc := 21) hC i3 dX3_hadBehind_21 ?_
      obtain ⟨z4, e5, h⟩ := zle h
      refine zr_topi e5 ?_
      refine zr_istore (pc := 22) (lv' := [(4, .int z4), (0, .ref (ad 72)), (1, .int v1), (2, .int w0), (3, .int w1)]) hC (by decide) rfl dX3_hadBehind_22 ?_
      refine zr_iload (pc := 24) hC 0 rfl dX3_hadBehind_24 ?_
      refine zr_if_lt (pc := 26) (tgt := 45) hC dX3_hadBehind_26 (by decide) (fun c6 => ?_) (fun c6 => ?_)
      · replace h := zip h c6
        refine zr_iload_n (pc := 45) hC 3 rfl rfl dX3_hadBehind_45 ?_
        obtain ⟨q7, hq7, h⟩ := zbd h
        refine zr_cSi (pc := 46) hC hEk [.int w0] [] 1 (fun l D => tJ6_bitCount_0f7a4 hEk hq7 l D) gX3_hadBehind_J6_bitCount_0f7a4 rfl rfl rfl ⟨Nat.le_of_ble_eq_true rfl, Nat.le_of_ble_eq_true rfl⟩ hyJ6_bitCount_0f7a4 rfl rfl (Nat.le_of_ble_eq_true rfl) ⟨Nat.le_of_ble_eq_true rfl, Nat.le_of_ble_eq_true rfl⟩ dX3_hadBehind_46 ?_
        refine zr_iconst (pc := 49) hC zki_1 dX3_hadBehind_49 ?_
        refine zr_icmp_ne (pc := 50) (tgt := 57) hC dX3_hadBehind_50 (by decide) (fun c8 => ?_) (fun c8 => ?_)
        · replace h := zin h c8
          refine zr_iinc (pc := 57) (k := 4) (lv' := [(3, .int (w1 + (1 : Int32))), (4, .int z4), (0, .ref (ad 72)), (1, .int v1), (2, .int w0)]) hC zki_1 (by decide) rfl rfl dX3_hadBehind_57 ?_
          refine zr_goto (pc := 60) (tgt := 6) hC dX3_hadBehind_60 (by decide) ?_
          obtain rfl := Option.some.inj h
          exact zV.sub (lv' := [(0, .ref (ad 72)), (1, .int v1), (2, .int w0), (3, .int (w1 + (1 : Int32)))]) [2, 3, 4, 0] rfl (hin w0 (w1 + (1 : Int32)) rfl)
        · replace h := zip h c8
          obtain rfl := Option.some.inj h
          exact zV.sub (lv' := [(3, .int w1)]) [4] rfl (hout0 w1 rfl)
      · replace h := zin h c6
        refine zr_iload (pc := 29) hC 0 rfl dX3_hadBehind_29 ?_
        refine zr_iconst (pc := 31) hC zki_5 dX3_hadBehind_31 ?_
        refine zr_icmp_ge (pc := 32) (tgt := 45) hC dX3_hadBehind_32 (by decide) (fun c9 => ?_) (fun c9 => ?_)
        · replace h := zip h c9
          refine zr_iload_n (pc := 45) hC 3 rfl rfl dX3_hadBehind_45 ?_
          obtain ⟨q10, hq10, h⟩ := zbd h
          refine zr_cSi (pc := 46) hC hEk [.int w0] [] 1 (fun l D => tJ6_bitCount_0f7a4 hEk hq10 l D) gX3_hadBehind_J6_bitCount_0f7a4 rfl rfl rfl ⟨Nat.le_of_ble_eq_true rfl, Nat.le_of_ble_eq_true rfl⟩ hyJ6_bitCount_0f7a4 rfl rfl (Nat.le_of_ble_eq_true rfl) ⟨Nat.le_of_ble_eq_true rfl, Nat.le_of_ble_eq_true rfl⟩ dX3_hadBehind_46 ?_
          refine zr_iconst (pc := 49) hC zki_1 dX3_hadBehind_49 ?_
          refine zr_icmp_ne (pc := 50) (tgt := 57) hC dX3_hadBehind_50 (by decide) (fun c11 => ?_) (fun c11 => ?_)
          · replace h := zin h c11
            refine zr_iinc (pc := 57) (k := 4) (lv' := [(3, .int (w1 + (1 : Int32))), (4, .int z4), (0, .ref (ad 72)), (1, .int v1), (2, .int w0)]) hC zki_1 (by decide) rfl rfl dX3_hadBehind_57 ?_
            refine zr_goto (pc := 60) (tgt := 6) hC dX3_hadBehind_60 (by decide) ?_
            obtain rfl := Option.some.inj h
            exact zV.sub (lv' := [(0, .ref (ad 72)), (1, .int v1), (2, .int w0), (3, .int (w1 + (1 : Int32)))]) [2, 3, 4, 0] rfl (hin w0 (w1 + (1 : Int32)) rfl)
          · replace h := zip h c11
            obtain rfl := Option.some.inj h
            exact zV.sub (lv' := [(3, .int w1)]) [4] rfl (hout0 w1 rfl)
        · replace h := zin h c9
          refine zr_iload_n (pc := 35) hC 3 rfl rfl dX3_hadBehind_35 ?_
          refine zr_aload_n (pc := 36) hC 1 rfl rfl dX3_hadBehind_36 ?_
          refine zcg_72_0 (pc := 37) hC hinX3_hadBehind_X3 flX3_hadBehind_9 dX3_hadBehind_37 ?_
          refine zr_iload (pc := 40) hC 0 rfl dX3_hadBehind_40 ?_
          obtain ⟨i12, h⟩ := zgd h
          refine zcl_73 (pc := 42) hC i12 dX3_hadBehind_42 ?_
          refine zr_iand (pc := 43) hC dX3_hadBehind_43 ?_
          obtain ⟨z13, e14, h⟩ := zle h
          refine zr_topi e14 ?_
          refine zr_istore_n (pc := 44) (lv' := [(2, .int z13), (4, .int z4), (0, .ref (ad 72)), (1, .int v1), (3, .int w1)]) hC rfl (by decide) rfl dX3_hadBehind_44 ?_
          refine zr_iload_n (pc := 45) hC 0 rfl rfl dX3_hadBehind_45 ?_
          obtain ⟨q15, hq15, h⟩ := zbd h
          refine zr_cSi (pc := 46) hC hEk [.int z13] [] 1 (fun l D => tJ6_bitCount_0f7a4 hEk hq15 l D) gX3_hadBehind_J6_bitCount_0f7a4 rfl rfl rfl ⟨Nat.le_of_ble_eq_true rfl, Nat.le_of_ble_eq_true rfl⟩ hyJ6_bitCount_0f7a4 rfl rfl (Nat.le_of_ble_eq_true rfl) ⟨Nat.le_of_ble_eq_true rfl, Nat.le_of_ble_eq_true rfl⟩ dX3_hadBehind_46 ?_
          refine zr_iconst (pc := 49) hC zki_1 dX3_hadBehind_49 ?_
          refine zr_icmp_ne (pc := 50) (tgt := 57) hC dX3_hadBehind_50 (by decide) (fun c16 => ?_) (fun c16 => ?_)
          · replace h := zin h c16
            refine zr_iinc (pc := 57) (k := 4) (lv' := [(3, .int (w1 + (1 : Int32))), (2, .int z13), (4, .int z4), (0, .ref (ad 72)), (1, .int v1)]) hC zki_1 (by decide) rfl rfl dX3_hadBehind_57 ?_
            refine zr_goto (pc := 60) (tgt := 6) hC dX3_hadBehind_60 (by decide) ?_
            obtain rfl := Option.some.inj h
            exact zV.sub (lv' := [(0, .ref (ad 72)), (1, .int v1), (2, .int z13), (3, .int (w1 + (1 : Int32)))]) [3, 4, 1, 0] rfl (hin z13 (w1 + (1 : Int32)) rfl)
          · replace h := zip h c16
            obtain rfl := Option.some.inj h
            exact zV.sub (lv' := [(3, .int w1)]) [4] rfl (hout0 w1 rfl)
def xX3_hadBehind (pF : zM) (v1 : Int32) : Option Int32 :=
  (x_it (fun a9 => xX3_hadBehind_L6 pF v1 a9.1 a9.2) zFU ((1022 : Int32), (0 : Int32))).bind fun q1 =>
  Sum.elim (fun b2 => some (b2 + (1 : Int32))) (fun c3 => some (6 : Int32)) q1
set_option maxHeartbeats 4000000 in
set_option maxRecDepth 100000 in
theorem tX3_hadBehind {κ : Nat → ClassId} {tg : Nat} {S : zEn} {ad : Nat → Nat} (hEk : zEk (zE tg S)) {pT : zM} {pR : zM} {pX : zM} {pF : zM} {pB : zM} {pP : zP} {v1 : Int32} {res : Int32} (h : xX3_hadBehind pF v1 = some res) (l : Launch) (D : va_G) : zCT (zE tg S) D vwCl (zty κ) l yX3_hadBehind wsX3_hadBehind ({ frames := 1, cells := 0, slots := 0, locals := 20 } : Room) 0 0 [.ref (ad 72), .int v1] (zwC κ ad pT pR pX pF pB pP) (zPd (some (.int res)) (zwC κ ad pT pR pX pF pB pP)) := by
  refine zCT.of (cc := cX3_hadBehind) (maxL := 5) (ret := (some .int)) (by decide) rfl (Nat.le_of_ble_eq_true rfl) ?_
  intro X hC hR
  unfold xX3_hadBehind at h
  refine zV.sub (lv' := [(0, .ref (ad 72)), (1, .int v1)]) [0, 1] rfl ?_
  refine zr_sipush (pc := 0) hC zks_1022 dX3_hadBehind_0 ?_
  refine zr_istore_n (pc := 3) (lv' := [(2, .int (1022 : Int32)), (0, .ref (ad 72)), (1, .int v1)]) hC rfl (by decide) rfl dX3_hadBehind_3 ?_
  refine zr_iconst (pc := 4) hC zki_0 dX3_hadBehind_4 ?_
  refine zr_istore_n (pc := 5) (lv' := [(3, .int (0 : Int32)), (2, .int (1022 : Int32)), (0, .ref (ad 72)), (1, .int v1)]) hC rfl (by decide) rfl dX3_hadBehind_5 ?_
  obtain ⟨q1, hq1, h⟩ := zbd h
  refine zV.sub (lv' := [(0, .ref (ad 72)), (1, .int v1), (2, .int (1022 : Int32)), (3, .int (0 : Int32))]) [2, 3, 1, 0] rfl ?_
  refine zit2 (Wp := fun (y0 : Int32) (y1 : Int32) => zV X 0 0 (zwC κ ad pT pR pX pF pB pP) [(0, .ref (ad 72)), (1, .int v1), (2, .int y0), (3, .int y1)] [] 6) (Ex := fun (b9 : (Int32 ⊕ Unit)) => Sum.elim (fun (b0 : Int32) => zV X 0 0 (zwC κ ad pT pR pX pF pB pP) [(3, .int b0)] [] 53) (fun (c0 : Unit) => zV X 0 0 (zwC κ ad pT pR pX pF pB pP) [] [] 63) b9) (fun y0 y1 r9 hr hin hout => tX3_hadBehind_L6 hC hEk hin (fun z0 e9 => hout (.inl z0) e9) (fun e9 => hout (.inr ()) e9) hr) zFU (1022 : Int32) (0 : Int32) q1 hq1 ?_
  rcases q1 with b2 | c3
  · replace h := zel h
    show zV X 0 0 (zwC κ ad pT pR pX pF pB pP) [(3, .int b2)] [] 53
    refine zr_iload_n (pc := 53) hC 0 rfl rfl dX3_hadBehind_53 ?_
    refine zr_iconst (pc := 54) hC zki_1 dX3_hadBehind_54 ?_
    refine zr_iadd (pc := 55) hC dX3_hadBehind_55 ?_
    obtain rfl := Option.some.inj h
    exact zr_iret hC hR ⟨rfl, rfl⟩ (Nat.le_refl _) (Nat.le_refl _) dX3_hadBehind_56
  · replace h := zer h
    show zV X 0 0 (zwC κ ad pT pR pX pF pB pP) [] [] 63
    refine zr_bipush (pc := 63) hC zkb_6 dX3_hadBehind_63 ?_
    obtain rfl := Option.some.inj h
    exact zr_iret hC hR ⟨rfl, rfl⟩ (Nat.le_refl _) (Nat.le_refl _) dX3_hadBehind_65
