/-! X5_tell_k2 -/
def xX5_tell_k2 (pP : zP) (v0 : Nat) (v1 : Int32) : Option Unit :=
  some ()
set_option maxHeartbeats 4000000 in
set_option maxRecDepth 100000 in
theorem tX5_tell_k2 {κ : Nat → ClassId} {tg : Nat} {S : zEn} {ad : Nat → Nat} (hEk : zEk (zE tg S)) {pT : zM} {pR : zM} {pX : zM} {pF : zM} {pB : zM} {pP : zP} {v0 : Nat} {v1 : Int32} (hk : pP.2.1 v0 = 2) (hv0 : v0 < pP.2.2.2) {res : Unit} (h : xX5_tell_k2 pP v0 v1 = some res) (l : Launch) (D : va_G) : zCT (zE tg S) D vwCl (zty κ) l yX5_tell wsX5_tell ({ frames := 0, cells := 0, slots := 0, locals := 0 } : Room) 0 0 [.ref (ad (81 + v0)), .int v1] (zwC κ ad pT pR pX pF pB pP) (zPd none (zwC κ ad pT pR pX pF pB pP)) := by
  refine zCT.of (cc := cX5_tell) (maxL := 2) (ret := none) (by decide) rfl (Nat.le_of_ble_eq_true rfl) ?_
  intro X hC hR
  unfold xX5_tell_k2 at h
  refine zV.sub (lv' := [(0, .ref (ad (81 + v0))), (1, .int v1)]) [0, 1] rfl ?_
  obtain rfl := Option.some.inj h
  exact zr_vret hC hR ⟨rfl, rfl⟩ (Nat.le_refl _) (Nat.le_refl _) dX5_tell_0
/-! X5_tell_k3 -/
def xX5_tell_k3 (pP : zP) (v0 : Nat) (v1 : Int32) : Option Unit :=
  some ()
set_option maxHeartbeats 4000000 in
set_option maxRecDepth 100000 in
theorem tX5_tell_k3 {κ : Nat → ClassId} {tg : Nat} {S : zEn} {ad : Nat → Nat} (hEk : zEk (zE tg S)) {pT : zM} {pR : zM} {pX : zM} {pF : zM} {pB : zM} {pP : zP} {v0 : Nat} {v1 : Int32} (hk : pP.2.1 v0 = 3) (hv0 : v0 < pP.2.2.2) {res : Unit} (h : xX5_tell_k3 pP v0 v1 = some res) (l : Launch) (D : va_G) : zCT (zE tg S) D vwCl (zty κ) l yX5_tell wsX5_tell ({ frames := 0, cells := 0, slots := 0, locals := 0 } : Room) 0 0 [.ref (ad (81 + v0)), .int v1] (zwC κ ad pT pR pX pF pB pP) (zPd none (zwC κ ad pT pR pX pF pB pP)) := by
  refine zCT.of (cc := cX5_tell) (maxL := 2) (ret := none) (by decide) rfl (Nat.le_of_ble_eq_true rfl) ?_
  intro X hC hR
  unfold xX5_tell_k3 at h
  refine zV.sub (lv' := [(0, .ref (ad (81 + v0))), (1, .int v1)]) [0, 1] rfl ?_
  obtain rfl := Option.some.inj h
  exact zr_vret hC hR ⟨rfl, rfl⟩ (Nat.le_refl _) (Nat.le_refl _) dX5_tell_0
/-! X9_tell_k4 -/
theorem hyX9_tell : yX9_tell.cls = RX9 ∧ yX9_tell.cls ≠ "java/lang/invoke/MethodHandle" ∧ yX9_tell.cls ≠ "java/lang/invoke/VarHandle" ∧ (parseMethodDescriptor yX9_tell.desc).map (fun d => d.parameters.length) = some 1 := by decide +kernel
theorem flX9_tell_k4_9 : Cond.fieldLink RX9 9 "BeforeTheEnd$Told" "set" "I" ∈ wsX9_tell := by decide +kernel
theorem hinX9_tell_k4_X0 : ∀ w ∈ wsX00, w ∈ wsX9_tell := fun _ h => List.mem_cons_of_mem _ (List.mem_append_left _ (List.mem_append_right _ h))
theorem hinX9_tell_k4_X9 : ∀ w ∈ wsX90, w ∈ wsX9_tell := fun _ h => List.mem_cons_of_mem _ (List.mem_append_right _ h)
def xX9_tell_k4 (pP : zP) (v0 : Nat) (v1 : Int32) : Option zP :=
  zlet (zps pP v0 v1) fun M1 =>
  some M1
set_option maxHeartbeats 4000000 in
set_option maxRecDepth 100000 in
theorem tX9_tell_k4 {κ : Nat → ClassId} {tg : Nat} {S : zEn} {ad : Nat → Nat} (hEk : zEk (zE tg S)) {pT : zM} {pR : zM} {pX : zM} {pF : zM} {pB : zM} {pP : zP} {v0 : Nat} {v1 : Int32} (hk : pP.2.1 v0 = 4) (hv0 : v0 < pP.2.2.2) {res : zP} (h : xX9_tell_k4 pP v0 v1 = some res) (l : Launch) (D : va_G) : zCT (zE tg S) D vwCl (zty κ) l yX9_tell wsX9_tell ({ frames := 0, cells := 0, slots := 0, locals := 0 } : Room) 0 0 [.ref (ad (81 + v0)), .int v1] (zwC κ ad pT pR pX pF pB pP) (zPd none (zwC κ ad pT pR pX pF pB res)) := by
  refine zCT.of (cc := cX9_tell) (maxL := 2) (ret := none) (by decide) rfl (Nat.le_of_ble_eq_true rfl) ?_
  intro X hC hR
  unfold xX9_tell_k4 at h
  refine zV.sub (lv' := [(0, .ref (ad (81 + v0))), (1, .int v1)]) [0, 1] rfl ?_
  refine zr_aload_n (pc := 0) hC 0 rfl rfl dX9_tell_0 ?_
  refine zr_iload_n (pc := 1) hC 1 rfl rfl dX9_tell_1 ?_
  obtain ⟨M1, e2, h⟩ := zle h
  refine zpp_4 (pc := 2) hC hinX9_tell_k4_X9 flX9_tell_k4_9 hk hv0 e2 dX9_tell_2 ?_
  obtain rfl := Option.some.inj h
  exact zr_vret hC hR ⟨rfl, rfl⟩ (Nat.le_refl _) (Nat.le_refl _) dX9_tell_5
/-! X9_tell_k5 -/
theorem flX9_tell_k5_9 : Cond.fieldLink RX9 9 "BeforeTheEnd$Told" "set" "I" ∈ wsX9_tell := by decide +kernel
theorem hinX9_tell_k5_X0 : ∀ w ∈ wsX00, w ∈ wsX9_tell := fun _ h => List.mem_cons_of_mem _ (List.mem_append_left _ (List.mem_append_right _ h))
theorem hinX9_tell_k5_X9 : ∀ w ∈ wsX90, w ∈ wsX9_tell := fun _ h => List.mem_cons_of_mem _ (List.mem_append_right _ h)
def xX9_tell_k5 (pP : zP) (v0 : Nat) (v1 : Int32) : Option zP :=
  zlet (zps pP v0 v1) fun M1 =>
  some M1
set_option maxHeartbeats 4000000 in
set_option maxRecDepth 100000 in
theorem tX9_tell_k5 {κ : Nat → ClassId} {tg : Nat} {S : zEn} {ad : Nat → Nat} (hEk : zEk (zE tg S)) {pT : zM} {pR : zM} {pX : zM} {pF : zM} {pB : zM} {pP : zP} {v0 : Nat} {v1 : Int32} (hk : zk5 pP v0) (hv0 : v0 < pP.2.2.2) {res : zP} (h : xX9_tell_k5 pP v0 v1 = some res) (l : Launch) (D : va_G) : zCT (zE tg S) D vwCl (zty κ) l yX9_tell wsX9_tell ({ frames := 0, cells := 0, slots := 0, locals := 0 } : Room) 0 0 [.ref (ad (81 + v0)), .int v1] (zwC κ ad pT pR pX pF pB pP) (zPd none (zwC κ ad pT pR pX pF pB res)) := by
  refine zCT.of (cc := cX9_tell) (maxL := 2) (ret := none) (by decide) rfl (Nat.le_of_ble_eq_true rfl) ?_
  intro X hC hR
  unfold xX9_tell_k5 at h
  refine zV.sub (lv' := [(0, .ref (ad (81 + v0))), (1, .int v1)]) [0, 1] rfl ?_
  refine zr_aload_n (pc := 0) hC 0 rfl rfl dX9_tell_0 ?_
  refine zr_iload_n (pc := 1) hC 1 rfl rfl dX9_tell_1 ?_
  obtain ⟨M1, e2, h⟩ := zle h
  refine zpp_5 (pc := 2) hC hinX9_tell_k5_X0 flX9_tell_k5_9 hk hv0 e2 dX9_tell_2 ?_
  obtain rfl := Option.some.inj h
  exact zr_vret hC hR ⟨rfl, rfl⟩ (Nat.le_refl _) (Nat.le_refl _) dX9_tell_5
/-! V:tell -/
def xv_tell (pP : zP) (a : Nat) (v1 : Int32) : Option zP :=
  if pP.2.1 a = 0 then
  ((xX5_tell_k0 pP a v1).bind fun q => some pP)
  else
  if pP.2.1 a = 1 then
  ((xX5_tell_k1 pP a v1).bind fun q => some pP)
  else
  if pP.2.1 a = 2 then
  ((xX5_tell_k2 pP a v1).bind fun q => some pP)
  else
  if pP.2.1 a = 3 then
  ((xX5_tell_k3 pP a v1).bind fun q => some pP)
  else
  if pP.2.1 a = 4 then
  ((xX9_tell_k4 pP a v1).bind fun q => some q)
  else
  (xX9_tell_k5 pP a v1).bind fun q => some q
theorem hxv_tell : "BeforeTheEnd$Player" ≠ "java/lang/invoke/MethodHandle" ∧ "BeforeTheEnd$Player" ≠ "java/lang/invoke/VarHandle" ∧ (parseMethodDescriptor "(I)V").map (fun d => d.parameters.length) = some 1 := by decide +kernel
/-! X11_setOf -/
set_option maxHeartbeats 4000000 in
theorem vrX11_setOf_119 {κ : Nat → ClassId} {tg : Nat} {S : zEn} {ad : Nat → Nat} {X : zX} {cells slots nL pc a : Nat} {lv : zLv} {rm : Room} {pT pR pX pF pB : zM} {pP : zP}  {q : Int32} (hC : zC X cX11_setOf RX11 wsX11_setOf vwCl (zty κ) (zE tg S) nL rm) (hEk : zEk (zE tg S)) (ha : ¬ pP.2.2.2 ≤ a) (hq : xv_kind pP a  = some q) {rest : List Value} (hcat : (rest.map fun v => v.category).sum ≤ 8) (hf : 1 ≤ rm.frames) (hl : 20 ≤ rm.locals) (hfit : cells + 0 ≤ rm.cells ∧ slots + 0 ≤ rm.slots) (hd : decode cX11_setOf pc = .ok (.invokevirtual 119, 3)) (kk : zV X cells slots (zwC κ ad pT pR pX pF pB pP) lv (.int q :: rest) (pc + 3)) : zV X cells slots (zwC κ ad pT pR pX pF pB pP) lv (.ref (ad (81 + a)) :: rest) pc := by
  have ha2 : a < pP.2.2.2 := by omega
  unfold xv_kind at hq
  by_cases k0 : pP.2.1 a = 0
  · replace hq := zip hq k0
    obtain ⟨q2, hq2, hq⟩ := zbd hq
    obtain rfl := Option.some.inj hq
    exact zr_cAi hC hEk [] rest (81 + a) 0 (fun l D => tX2_kind_k0 hEk k0 ha2 hq2 l D) gX11_setOf_X2_kind_u119X2 zE_kind rfl rfl rfl ⟨Nat.le_trans (Nat.le_of_ble_eq_true rfl) hf, Nat.le_trans (Nat.le_of_ble_eq_true rfl) hl⟩ hxv_kind (by omega) (entC_p0 k0) rfl rfl rfl hcat hfit hd kk
  replace hq := zin hq k0
  by_cases k1 : pP.2.1 a = 1
  · replace hq := zip hq k1
    obtain ⟨q2, hq2, hq⟩ := zbd hq
    obtain rfl := Option.some.inj hq
    exact zr_cAi hC hEk [] rest (81 + a) 0 (fun l D => tX7_kind_k1 hEk k1 ha2 hq2 l D) gX11_setOf_X7_kind_u119X7 zE_kind rfl rfl rfl ⟨Nat.le_trans (Nat.le_of_ble_eq_true rfl) hf, Nat.le_trans (Nat.le_of_ble_eq_true rfl) hl⟩ hxv_kind (by omega) (entC_p1 k1) rfl rfl rfl hcat hfit hd kk
  replace hq := zin hq k1
  by_cases k2 : pP.2.1 a = 2
  · replace hq := zip hq k2
    obtain ⟨q2, hq2, hq⟩ := zbd hq
    obtain rfl := Option.some.inj hq
    exact zr_cAi hC hEk [] rest (81 + a) 0 (fun l D => tX1_kind_k2 hEk k2 ha2 hq2 l D) gX11_setOf_X1_kind_u119X1 zE_kind rfl rfl rfl ⟨Nat.le_trans (Nat.le_of_ble_eq_true rfl) hf, Nat.le_trans (Nat.le_of_ble_eq_true rfl) hl⟩ hxv_kind (by omega) (entC_p2 k2) rfl rfl rfl hcat hfit hd kk
  replace hq := zin hq k2
  by_cases k3 : pP.2.1 a = 3
  · replace hq := zip hq k3
    obtain ⟨q2, hq2, hq⟩ := zbd hq
    obtain rfl := Option.some.inj hq
    exact zr_cAi hC hEk [] rest (81 + a) 0 (fun l D => tX4_kind_k3 hEk k3 ha2 hq2 l D) gX11_setOf_X4_kind_u119X4 zE_kind rfl rfl rfl ⟨Nat.le_trans (Nat.le_of_ble_eq_true rfl) hf, Nat.le_trans (Nat.le_of_ble_eq_true rfl) hl⟩ hxv_kind (by omega) (entC_p3 k3) rfl rfl rfl hcat hfit hd kk
  replace hq := zin hq k3
  by_cases k4 : pP.2.1 a = 4
  · replace hq := zip hq k4
    obtain ⟨q2, hq2, hq⟩ := zbd hq
    obtain rfl := Option.some.inj hq
    exact zr_cAi hC hEk [] rest (81 + a) 0 (fun l D => tX9_kind_k4 hEk k4 ha2 hq2 l D) gX11_setOf_X9_kind_u119X9 zE_kind rfl rfl rfl ⟨Nat.le_trans (Nat.le_of_ble_eq_true rfl) hf, Nat.le_trans (Nat.le_of_ble_eq_true rfl) hl⟩ hxv_kind (by omega) (entC_p4 k4) rfl rfl rfl hcat hfit hd kk
  replace hq := zin hq k4
  obtain ⟨q2, hq2, hq⟩ := zbd hq
  obtain rfl := Option.some.inj hq
  exact zr_cAi hC hEk [] rest (81 + a) 0 (fun l D => tX0_kind_k5 hEk ⟨k0, k1, k2, k3, k4⟩ ha2 hq2 l D) gX11_setOf_X0_kind_u119X0 zE_kind rfl rfl rfl ⟨Nat.le_trans (Nat.le_of_ble_eq_true rfl) hf, Nat.le_trans (Nat.le_of_ble_eq_true rfl) hl⟩ hxv_kind (by omega) (entC_p5 ⟨k0, k1, k2, k3, k4⟩) rfl rfl rfl hcat hfit hd kk
theorem h0X11_setOf_toldSet : Cond.code ⟨"BeforeTheEnd$Player", "toldSet", "()I"⟩ cX5_toldSet 1 (some .int) ∈ wsX11_setOf := by decide +kernel
set_option maxHeartbeats 4000000 in
theorem vrX11_setOf_133 {κ : Nat → ClassId} {tg : Nat} {S : zEn} {ad : Nat → Nat} {X : zX} {cells slots nL pc a : Nat} {lv : zLv} {rm : Room} {pT pR pX pF pB : zM} {pP : zP}  {q : Int32} (hC : zC X cX11_setOf RX11 wsX11_setOf vwCl (zty κ) (zE tg S) nL rm) (hEk : zEk (zE tg S)) (ha : ¬ pP.2.2.2 ≤ a) (hq : xv_toldSet pP a  = some q) {rest : List Value} (hcat : (rest.map fun v => v.category).sum ≤ 8) (hf : 1 ≤ rm.frames) (hl : 20 ≤ rm.locals) (hfit : cells + 0 ≤ rm.cells ∧ slots + 0 ≤ rm.slots) (hd : decode cX11_setOf pc = .ok (.invokevirtual 133, 3)) (kk : zV X cells slots (zwC κ ad pT pR pX pF pB pP) lv (.int q :: rest) (pc + 3)) : zV X cells slots (zwC κ ad pT pR pX pF pB pP) lv (.ref (ad (81 + a)) :: rest) pc := by
  have ha2 : a < pP.2.2.2 := by omega
  unfold xv_toldSet at hq
  by_cases k0 : pP.2.1 a = 0
  · replace hq := zip hq k0
    obtain ⟨q2, hq2, hq⟩ := zbd hq
    obtain rfl := Option.some.inj hq
    exact zr_cUi hC hEk [] rest (81 + a) 0 (fun l D => tX5_toldSet_k0 hEk k0 ha2 hq2 l D) gX11_setOf_X5_toldSet_u133X2 rfl rfl rfl rfl ⟨Nat.le_trans (Nat.le_of_ble_eq_true rfl) hf, Nat.le_trans (Nat.le_of_ble_eq_true rfl) hl⟩ hxv_toldSet (by omega) (entC_p0 k0) rfl rfl rfl hcat hfit hd kk
  replace hq := zin hq k0
  by_cases k1 : pP.2.1 a = 1
  · replace hq := zip hq k1
    obtain ⟨q2, hq2, hq⟩ := zbd hq
    obtain rfl := Option.some.inj hq
    exact zr_cUi hC hEk [] rest (81 + a) 0 (fun l D => tX5_toldSet_k1 hEk k1 ha2 hq2 l D) gX11_setOf_X5_toldSet_u133X7 rfl rfl rfl rfl ⟨Nat.le_trans (Nat.le_of_ble_eq_true rfl) hf, Nat.le_trans (Nat.le_of_ble_eq_true rfl) hl⟩ hxv_toldSet (by omega) (entC_p1 k1) rfl rfl rfl hcat hfit hd kk
  replace hq := zin hq k1
  by_cases k2 : pP.2.1 a = 2
  · replace hq := zip hq k2
    obtain ⟨q2, hq2, hq⟩ := zbd hq
    obtain rfl := Option.some.inj hq
    exact zr_cUi hC hEk [] rest (81 + a) 0 (fun l D => tX5_toldSet_k2 hEk k2 ha2 hq2 l D) gX11_setOf_X5_toldSet_u133X1 rfl rfl rfl rfl ⟨Nat.le_trans (Nat.le_of_ble_eq_true rfl) hf, Nat.le_trans (Nat.le_of_ble_eq_true rfl) hl⟩ hxv_toldSet (by omega) (entC_p2 k2) rfl rfl rfl hcat hfit hd kk
  replace hq := zin hq k2
  by_cases k3 : pP.2.1 a = 3
  · replace hq := zip hq k3
    obtain ⟨q2, hq2, hq⟩ := zbd hq
    obtain rfl := Option.some.inj hq
    exact zr_cUi hC hEk [] rest (81 + a) 0 (fun l D => tX5_toldSet_k3 hEk k3 ha2 hq2 l D) gX11_setOf_X5_toldSet_u133X4 rfl rfl rfl rfl ⟨Nat.le_trans (Nat.le_of_ble_eq_true rfl) hf, Nat.le_trans (Nat.le_of_ble_eq_true rfl) hl⟩ hxv_toldSet (by omega) (entC_p3 k3) rfl rfl rfl hcat hfit hd kk
  replace hq := zin hq k3
  by_cases k4 : pP.2.1 a = 4
  · replace hq := zip hq k4
    obtain ⟨q2, hq2, hq⟩ := zbd hq
    obtain rfl := Option.some.inj hq
    exact zr_cOi hC hEk [] rest (81 + a) 0 (fun l D => tX9_toldSet_k4 hEk k4 ha2 hq2 l D) gX11_setOf_X9_toldSet_u133X9 h0X11_setOf_toldSet rfl rfl rfl ⟨Nat.le_trans (Nat.le_of_ble_eq_true rfl) hf, Nat.le_trans (Nat.le_of_ble_eq_true rfl) hl⟩ hxv_toldSet (by omega) (entC_p4 k4) rfl rfl rfl hcat hfit hd kk
  replace hq := zin hq k4
  obtain ⟨q2, hq2, hq⟩ := zbd hq
  obtain rfl := Option.some.inj hq
  exact zr_cOi hC hEk [] rest (81 + a) 0 (fun l D => tX9_toldSet_k5 hEk ⟨k0, k1, k2, k3, k4⟩ ha2 hq2 l D) gX11_setOf_X9_toldSet_u133X0 h0X11_setOf_toldSet rfl rfl rfl ⟨Nat.le_trans (Nat.le_of_ble_eq_true rfl) hf, Nat.le_trans (Nat.le_of_ble_eq_true rfl) hl⟩ hxv_toldSet (by omega) (entC_p5 ⟨k0, k1, k2, k3, k4⟩) rfl rfl rfl hcat hfit hd kk
theorem h0X11_setOf_tell : Cond.code ⟨"BeforeTheEnd$Player", "tell", "(I)V"⟩ cX5_tell 2 none ∈ wsX11_setOf := by decide +kernel
set_option maxHeartbeats 4000000 in
theorem vrX11_setOf_175 {κ : Nat → ClassId} {tg : Nat} {S : zEn} {ad : Nat → Nat} {X : zX} {cells slots nL pc a : Nat} {lv : zLv} {rm : Room} {pT pR pX pF pB : zM} {pP : zP} {v1 : Int32} {q : zP} (hC : zC X cX11_setOf RX11 wsX11_setOf vwCl (zty κ) (zE tg S) nL rm) (hEk : zEk (zE tg S)) (ha : ¬ pP.2.2.2 ≤ a) (hq : xv_tell pP a v1 = some q) {rest : List Value} (hcat : (rest.map fun v => v.category).sum ≤ 8) (hf : 1 ≤ rm.frames) (hl : 21 ≤ rm.locals) (hfit : cells + 0 ≤ rm.cells ∧ slots + 0 ≤ rm.slots) (hd : decode cX11_setOf pc = .ok (.invokevirtual 175, 3)) (kk : zV X cells slots (zwC κ ad pT pR pX pF pB q) lv rest (pc + 3)) : zV X cells slots (zwC κ ad pT pR pX pF pB pP) lv (.int v1 :: .ref (ad (81 + a)) :: rest) pc := by
  have ha2 : a < pP.2.2.2 := by omega
  unfold xv_tell at hq
  by_cases k0 : pP.2.1 a = 0
  · replace hq := zip hq k0
    obtain ⟨q2, hq2, hq⟩ := zbd hq
    obtain rfl := Option.some.inj hq
    exact zr_cUv hC hEk [.int v1] rest (81 + a) 1 (fun l D => tX5_tell_k0 hEk k0 ha2 hq2 l D) gX11_setOf_X5_tell_u175X2 rfl rfl rfl rfl ⟨Nat.le_trans (Nat.le_of_ble_eq_true rfl) hf, Nat.le_trans (Nat.le_of_ble_eq_true rfl) hl⟩ hxv_tell (by omega) (entC_p0 k0) rfl rfl rfl hcat hfit hd kk
  replace hq := zin hq k0
  by_cases k1 : pP.2.1 a = 1
  · replace hq := zip hq k1
    obtain ⟨q2, hq2, hq⟩ := zbd hq
    obtain rfl := Option.some.inj hq
    exact zr_cUv hC hEk [.int v1] rest (81 + a) 1 (fun l D => tX5_tell_k1 hEk k1 ha2 hq2 l D) gX11_setOf_X5_tell_u175X7 rfl rfl rfl rfl ⟨Nat.le_trans (Nat.le_of_ble_eq_true rfl) hf, Nat.le_trans (Nat.le_of_ble_eq_true rfl) hl⟩ hxv_tell (by omega) (entC_p1 k1) rfl rfl rfl hcat hfit hd kk
  replace hq := zin hq k1
  by_cases k2 : pP.2.1 a = 2
  · replace hq := zip hq k2
    obtain ⟨q2, hq2, hq⟩ := zbd hq
    obtain rfl := Option.some.inj hq
    exact zr_cUv hC hEk [.int v1] rest (81 + a) 1 (fun l D => tX5_tell_k2 hEk k2 ha2 hq2 l D) gX11_setOf_X5_tell_u175X1 rfl rfl rfl rfl ⟨Nat.le_trans (Nat.le_of_ble_eq_true rfl) hf, Nat.le_trans (Nat.le_of_ble_eq_true rfl) hl⟩ hxv_tell (by omega) (entC_p2 k2) rfl rfl rfl hcat hfit hd kk
  replace hq := zin hq k2
  by_cases k3 : pP.2.1 a = 3
  · replace hq := zip hq k3
    obtain ⟨q2, hq2, hq⟩ := zbd hq
    obtain rfl := Option.some.inj hq
    exact zr_cUv hC hEk [.int v1] rest (81 + a) 1 (fun l D => tX5_tell_k3 hEk k3 ha2 hq2 l D) gX11_setOf_X5_tell_u175X4 rfl rfl rfl rfl ⟨Nat.le_trans (Nat.le_of_ble_eq_true rfl) hf, Nat.le_trans (Nat.le_of_ble_eq_true rfl) hl⟩ hxv_tell (by omega) (entC_p3 k3) rfl rfl rfl hcat hfit hd kk
  replace hq := zin hq k3
  by_cases k4 : pP.2.1 a = 4
  · replace hq := zip hq k4
    obtain ⟨q2, hq2, hq⟩ := zbd hq
    obtain rfl := Option.some.inj hq
    exact zr_cOv hC hEk [.int v1] rest (81 + a) 1 (fun l D => tX9_tell_k4 hEk k4 ha2 hq2 l D) gX11_setOf_X9_tell_u175X9 h0X11_setOf_tell rfl rfl rfl ⟨Nat.le_trans (Nat.le_of_ble_eq_true rfl) hf, Nat.le_trans (Nat.le_of_ble_eq_true rfl) hl⟩ hxv_tell (by omega) (entC_p4 k4) rfl rfl rfl hcat hfit hd kk
  replace hq := zin hq k4
  obtain ⟨q2, hq2, hq⟩ := zbd hq
  obtain rfl := Option.some.inj hq
  exact zr_cOv hC hEk [.int v1] rest (81 + a) 1 (fun l D => tX9_tell_k5 hEk ⟨k0, k1, k2, k3, k4⟩ ha2 hq2 l D) gX11_setOf_X9_tell_u175X0 h0X11_setOf_tell rfl rfl rfl ⟨Nat.le_trans (Nat.le_of_ble_eq_true rfl) hf, Nat.le_trans (Nat.le_of_ble_eq_true rfl) hl⟩ hxv_tell (by omega) (entC_p5 ⟨k0, k1, k2, k3, k4⟩) rfl rfl rfl hcat hfit hd kk
theorem hyX11_setOf : yX11_setOf.cls = RX11 ∧ yX11_setOf.cls ≠ "java/lang/invoke/MethodHandle" ∧ yX11_setOf.cls ≠ "java/lang/invoke/VarHandle" ∧ (parseMethodDescriptor yX11_setOf.desc).map (fun d => d.parameters.length) = some 2 := by decide +kernel
theorem flX11_setOf_59 : Cond.fieldLink RX11 59 "BeforeTheEnd" "tree" "LBeforeTheEnd$Tree;" ∈ wsX11_setOf := by decide +kernel
theorem flX11_setOf_68 : Cond.fieldLink RX11 68 "BeforeTheEnd" "race" "LBeforeTheEnd$Race;" ∈ wsX11_setOf := by decide +kernel
theorem hinX11_setOf_X11 : ∀ w ∈ wsX110, w ∈ wsX11_setOf := fun _ h => List.mem_cons_of_mem _ (List.mem_append_left _ (List.mem_append_left _ (List.mem_append_left _ (List.mem_append_left _ (List.mem_append_right _ h)))))
theorem hinX11_setOf_X6 : ∀ w ∈ wsX60, w ∈ wsX11_setOf := fun _ h => List.mem_cons_of_mem _ (List.mem_append_left _ (List.mem_append_left _ (List.mem_append_left _ (List.mem_append_right _ h))))
theorem hinX11_setOf_X10 : ∀ w ∈ wsX100, w ∈ wsX11_setOf := fun _ h => List.mem_cons_of_mem _ (List.mem_append_left _ (List.mem_append_left _ (List.mem_append_right _ h)))
theorem hinX11_setOf_X0 : ∀ w ∈ wsX00, w ∈ wsX11_setOf := fun _ h => List.mem_cons_of_mem _ (List.mem_append_left _ (List.mem_append_right _ h))
theorem hinX11_setOf_X9 : ∀ w ∈ wsX90, w ∈ wsX11_setOf := fun _ h => List.mem_cons_of_mem _ (List.mem_append_right _ h)
def xX11_setOf (pT : zM) (pR : zM) (pB : zM) (pP : zP) (v1 : Int32) (v2 : Int32) : Option (Int32 × zM × zP) :=
  (xX6_playerAt pR pP v1).bind fun q1 =>
  zon q1
  ((xX11_refuse pB (-1 : Int32)).bind fun q5 =>
  some (q5.1, q5.2, pP))
  (fun a2 => if pP.2.2.2 ≤ a2 then none else
  (xX10_allWords pT).bind fun q6 =>
  if (v2 &&& (q6 ^^^ (-1 : Int32))) = 0 then
  ((xv_kind pP a2).bind fun q8 =>
  if q8 = (4 : Int32) then
  ((xv_toldSet pP a2).bind fun q10 =>
  (xv_tell pP a2 v2).bind fun q11 =>
  some (q10, pB, q11))
  else
  (xX11_refuse pB (-2 : Int32)).bind fun q12 =>
  some (q12.1, q12.2, pP))
  else
  (xX11_refuse pB (-1 : Int32)).bind fun q13 =>
  some (q13.1, q13.2, pP))
set_option maxHeartbeats 4000000 in
set_option maxRecDepth 100000 in
theorem tX11_setOf {κ : Nat → ClassId} {tg : Nat} {S : zEn} {ad : Nat → Nat} (hEk : zEk (zE tg S)) {pT : zM} {pR : zM} {pX : zM} {pF : zM} {pB : zM} {pP : zP} {v1 : Int32} {v2 : Int32} {res : (Int32 × zM × zP)} (h : xX11_setOf pT pR pB pP v1 v2 = some res) (l : Launch) (D : va_G) : zCT (zE tg S) D vwCl (zty κ) l yX11_setOf wsX11_setOf ({ frames := 1, cells := 0, slots := 0, locals := 22 } : Room) 0 0 [.ref (ad 76), .int v1, .int v2] (zwC κ ad pT pR pX pF pB pP) (zPd (some (.int res.1)) (zwC κ ad pT pR pX pF res.2.1 res.2.2)) := by
  refine zCT.of (cc := cX11_setOf) (maxL := 5) (ret := (some .int)) (by decide) rfl (Nat.le_of_ble_eq_true rfl) ?_
  intro X hC hR
  unfold xX11_setOf at h
  refine zV.sub (lv' := [(0, .ref (ad 76)), (1, .int v1), (2, .int v2)]) [0, 1, 2] rfl ?_
  refine zr_aload_n (pc := 0) hC 0 rfl rfl dX11_setOf_0 ?_
  refine zcg_76_1 (pc := 1) hC hinX11_setOf_X11 flX11_setOf_68 dX11_setOf_1 ?_
  refine zr_iload_n (pc := 4) hC 1 rfl rfl dX11_setOf_4 ?_
  obtain ⟨q1, hq1, h⟩ := zbd h
  refine zr_cVr (pc := 5) hC hEk [.int v1] [] 62 1 (fun l D => tX6_playerAt hEk hq1 l D) gX11_setOf_X6_playerAt rfl rfl rfl ⟨Nat.le_of_ble_eq_true rfl, Nat.le_of_ble_eq_true rfl⟩ hyX6_playerAt (zNC (by decide)) entC_62 rfl rfl rfl (Nat.le_of_ble_eq_true rfl) ⟨Nat.le_of_ble_eq_true rfl, Nat.le_of_ble_eq_true rfl⟩ dX11_setOf_5 ?_
  refine zr_astore_nO (pc := 8) (lv' := [(3, va_rf (q1.map (fun a => ad (81 + a)))), (0, .ref (ad 76)), (1, .int v1), (2, .int v2)]) hC rfl (by decide) rfl dX11_setOf_8 ?_
  refine zr_aload_nO (pc := 9) hC 0 rfl rfl dX11_setOf_9 ?_
  refine zr_ifnullM (pc := 10) (tgt := 27) hC dX11_setOf_10 (by decide) (fun e3 => ?_) (fun a2 e3 => ?_)
  · replace h := zon_n e3 h
    subst e3
    show zV X 0 0 (zwC κ ad pT pR pX pF q5.2 pP) [(3, va_rf ((none : Option Nat).map (fun a => ad (81 + a)))), (0, .ref (ad 76)), (1, .int v1), (2, .int v2)] [] 27
    refine zr_aload_n (pc := 27) hC 1 rfl rfl dX11_setOf_27 ?_
    refine zr_iconst (pc := 28) hC zki_m1 dX11_setOf_28 ?_
    obtain ⟨q5, hq5, h⟩ := zbd h
    refine zr_cVi (pc := 29) hC hEk [.int (-1 : Int32)] [] 76 1 (fun l D => tX11_refuse hEk hq5 l D) gX11_setOf_X11_refuse rfl rfl rfl ⟨Nat.le_of_ble_eq_true rfl, Nat.le_of_ble_eq_true rfl⟩ hyX11_refuse (zNC (by decide)) entC_76 rfl rfl rfl (Nat.le_of_ble_eq_true rfl) ⟨Nat.le_of_ble_eq_true rfl, Nat.le_of_ble_eq_true rfl⟩ dX11_setOf_29 ?_
    obtain rfl := Option.some.inj h
    exact zr_iret hC hR ⟨rfl, rfl⟩ (Nat.le_refl _) (Nat.le_refl _) dX11_setOf_32
  · replace h := zon_s e3 h
    subst e3
    obtain ⟨i4, h⟩ := zgd h
    show zV X 0 0 (zwC κ ad pT pR pX pF q13.2 pP) [(3, .ref (ad (81 + a2))), (0, .ref (ad 76)), (1, .int v1), (2, .int v2)] [] 13
    refine zr_iload_n (pc := 13) hC 3 rfl rfl dX11_setOf_13 ?_
    refine zr_aload_n (pc := 14) hC 1 rfl rfl dX11_setOf_14 ?_
    refine zcg_76_0 (pc := 15) hC hinX11_setOf_X11 flX11_setOf_59 dX11_setOf_15 ?_
    obtain ⟨q6, hq6, h⟩ := zbd h
    refine zr_cVi (pc := 18) hC hEk [] [.int v2] 0 0 (fun l D => tX10_allWords hEk hq6 l D) gX11_setOf_X10_allWords rfl rfl rfl ⟨Nat.le_of_ble_eq_true rfl, Nat.le_of_ble_eq_true rfl⟩ hyX10_allWords (zNC (by decide)) entC_0 rfl rfl rfl (Nat.le_of_ble_eq_true rfl) ⟨Nat.le_of_ble_eq_true rfl, Nat.le_of_ble_eq_true rfl⟩ dX11_setOf_18 ?_
    refine zr_iconst (pc := 21) hC zki_m1 dX11_setOf_21 ?_
    refine zr_ixor (pc := 22) hC dX11_setOf_22 ?_
    refine zr_iand (pc := 23) hC dX11_setOf_23 ?_
    refine zr_if_eq (pc := 24) (tgt := 33) hC dX11_setOf_24 (by decide) (fun c7 => ?_) (fun c7 => ?_)
    · replace h := zip h c7
      refine zr_aload_n (pc := 33) hC 0 rfl rfl dX11_setOf_33 ?_
      obtain ⟨q8, hq8, h⟩ := zbd h
      refine vrX11_setOf_119 (pc := 34) hC hEk i4 hq8 (rest := []) (Nat.le_of_ble_eq_true rfl) (Nat.le_of_ble_eq_true rfl) (Nat.le_of_ble_eq_true rfl) ⟨Nat.le_of_ble_eq_true rfl, Nat.le_of_ble_eq_true rfl⟩ dX11_setOf_34 ?_
      refine zr_iconst (pc := 37) hC zki_4 dX11_setOf_37 ?_
      refine zr_icmp_eq (pc := 38) (tgt := 48) hC dX11_setOf_38 (by decide) (fun c9 => ?_) (fun c9 => ?_)
      · replace h := zip h c9
        refine zr_aload_n (pc := 48) hC 0 rfl rfl dX11_setOf_48 ?_
        obtain ⟨q10, hq10, h⟩ := zbd h
        refine vrX11_setOf_133 (pc := 49) hC hEk i4 hq10 (rest := []) (Nat.le_of_ble_eq_true rfl) (Nat.le_of_ble_eq_true rfl) (Nat.le_of_ble_eq_true rfl) ⟨Nat.le_of_ble_eq_true rfl, Nat.le_of_ble_eq_true rfl⟩ dX11_setOf_49 ?_
        refine zr_istore (pc := 52) (lv' := [(4, .int q10), (3, .ref (ad (81 + a2))), (0, .ref (ad 76)), (1, .int v1), (2, .int v2)]) hC (by decide) rfl dX11_setOf_52 ?_
        refine zr_aload_n (pc := 54) hC 1 rfl rfl dX11_setOf_54 ?_
        refine zr_iload_n (pc := 55) hC 4 rfl rfl dX11_setOf_55 ?_
        obtain ⟨q11, hq11, h⟩ := zbd h
        refine vrX11_setOf_175 (pc := 56) hC hEk i4 hq11 (rest := []) (Nat.le_of_ble_eq_true rfl) (Nat.le_of_ble_eq_true rfl) (Nat.le_of_ble_eq_true rfl) ⟨Nat.le_of_ble_eq_true rfl, Nat.le_of_ble_eq_true rfl⟩ dX11_setOf_56 ?_
        refine zr_iload (pc := 59) hC 0 rfl dX11_setOf_59 ?_
        obtain rfl := Option.some.inj h
        exact zr_iret hC hR ⟨rfl, rfl⟩ (Nat.le_refl _) (Nat.le_refl _) dX11_setOf_61
      · replace h := zin h c9
        refine zr_aload_n (pc := 41) hC 1 rfl rfl dX11_setOf_41 ?_
        refine zr_bipush (pc := 42) hC zkb_m2 dX11_setOf_42 ?_
        obtain ⟨q12, hq12, h⟩ := zbd h
        refine zr_cVi (pc := 44) hC hEk [.int (-2 : Int32)] [] 76 1 (fun l D => tX11_refuse hEk hq12 l D) gX11_setOf_X11_refuse rfl rfl rfl ⟨Nat.le_of_ble_eq_true rfl, Nat.le_of_ble_eq_true rfl⟩ hyX11_refuse (zNC (by decide)) entC_76 rfl rfl rfl (Nat.le_of_ble_eq_true rfl) ⟨Nat.le_of_ble_eq_true rfl, Nat.le_of_ble_eq_true rfl⟩ dX11_setOf_44 ?_
        obtain rfl := Option.some.inj h
        exact zr_iret hC hR ⟨rfl, rfl⟩ (Nat.le_refl _) (Nat.le_refl _) dX11_setOf_47
    · replace h := zin h c7
      refine zr_aload_n (pc := 27) hC 1 rfl rfl dX11_setOf_27 ?_
      refine zr_iconst (pc := 28) hC zki_m1 dX11_setOf_28 ?_
      obtain ⟨q13, hq13, h⟩ := zbd h
      refine zr_cVi (pc := 29) hC hEk [.int (-1 : Int32)] [] 76 1 (fun l D => tX11_refuse hEk hq13 l D) gX11_setOf_X11_refuse rfl rfl rfl ⟨Nat.le_of_ble_eq_true rfl, Nat.le_of_ble_eq_true rfl⟩ hyX11_refuse (zNC (by decide)) entC_76 rfl rfl rfl (Nat.le_of_ble_eq_true rfl) ⟨Nat.le_of_ble_eq_true rfl, Nat.le_of_ble_eq_true rfl⟩ dX11_setOf_29 ?_
      obtain rfl := Option.some.inj h
      exact zr_iret hC hR ⟨rfl, rfl⟩ (Nat.le_refl _) (Nat.le_refl _) dX11_setOf_32
/-! X11_presses -/
theorem hyX11_presses : yX11_presses.cls = RX11 ∧ yX11_presses.cls ≠ "java/lang/invoke/MethodHandle" ∧ yX11_presses.cls ≠ "java/lang/invoke/VarHandle" ∧ (parseMethodDescriptor yX11_presses.desc).map (fun d => d.parameters.length) = some 2 := by decide +kernel
theorem flX11_presses_59 : Cond.fieldLink RX11 59 "BeforeTheEnd" "tree" "LBeforeTheEnd$Tree;" ∈ wsX11_presses := by decide +kernel
theorem flX11_presses_68 : Cond.fieldLink RX11 68 "BeforeTheEnd" "race" "LBeforeTheEnd$Race;" ∈ wsX11_presses := by decide +kernel
theorem hinX11_presses_X11 : ∀ w ∈ wsX110, w ∈ wsX11_presses := fun _ h => List.mem_cons_of_mem _ (List.mem_append_left _ (List.mem_append_left _ (List.mem_append_left _ (List.mem_append_left _ (List.mem_append_left _ (List.mem_append_left _ (List.mem_append_left _ (List.mem_append_left _ (List.mem_append_right _ h)))))))))
theorem hinX11_presses_X6 : ∀ w ∈ wsX60, w ∈ wsX11_presses := fun _ h => List.mem_cons_of_mem _ (List.mem_append_left _ (List.mem_append_left _ (List.mem_append_left _ (List.mem_append_left _ (List.mem_append_left _ (List.mem_append_left _ (List.mem_append_left _ (List.mem_append_right _ h))))))))
theorem hinX11_presses_X10 : ∀ w ∈ wsX100, w ∈ wsX11_presses := fun _ h => List.mem_cons_of_mem _ (List.mem_append_left _ (List.mem_append_left _ (List.mem_append_left _ (List.mem_append_left _ (List.mem_append_left _ (List.mem_append_left _ (List.mem_append_right _ h)))))))
theorem hinX11_presses_X0 : ∀ w ∈ wsX00, w ∈ wsX11_presses := fun _ h => List.mem_cons_of_mem _ (List.mem_append_left _ (List.mem_append_left _ (List.mem_append_left _ (List.mem_append_left _ (List.mem_append_left _ (List.mem_append_right _ h))))))
theorem hinX11_presses_X1 : ∀ w ∈ wsX10, w ∈ wsX11_presses := fun _ h => List.mem_cons_of_mem _ (List.mem_append_left _ (List.mem_append_left _ (List.mem_append_left _ (List.mem_append_left _ (List.mem_append_right _ h)))))
theorem hinX11_presses_X2 : ∀ w ∈ wsX20, w ∈ wsX11_presses := fun _ h => List.mem_cons_of_mem _ (List.mem_append_left _ (List.mem_append_left _ (List.mem_append_left _ (List.mem_append_right _ h))))
theorem hinX11_presses_X4 : ∀ w ∈ wsX40, w ∈ wsX11_presses := fun _ h => List.mem_cons_of_mem _ (List.mem_append_left _ (List.mem_append_left _ (List.mem_append_right _ h)))
theorem hinX11_presses_X7 : ∀ w ∈ wsX70, w ∈ wsX11_presses := fun _ h => List.mem_cons_of_mem _ (List.mem_append_left _ (List.mem_append_right _ h))
theorem hinX11_presses_X9 : ∀ w ∈ wsX90, w ∈ wsX11_presses := fun _ h => List.mem_cons_of_mem _ (List.mem_append_right _ h)
def xX11_presses (pT : zM) (pR : zM) (pB : zM) (pP : zP) (v1 : Int32) (v2 : Int32) : Option (Int32 × zM × zM) :=
  (xX6_playerAt pR pP v1).bind fun q1 =>
  zon q1
  ((xX11_refuse pB (-1 : Int32)).bind fun q5 =>
  some (q5.1, pR, q5.2))
  (fun a2 => if pP.2.2.2 ≤ a2 then none else
  (xX10_has pT v2).bind fun q6 =>
  if q6 = 0 then
  ((xX11_refuse pB (-1 : Int32)).bind fun q13 =>
  some (q13.1, pR, q13.2))
  else
  (xX10_isWhole pT).bind fun q8 =>
  if q8 = 0 then
  ((xX11_refuse pB (-3 : Int32)).bind fun q12 =>
  some (q12.1, pR, q12.2))
  else
  (xX6_prepare pT pR pP).bind fun q10 =>
  (xX6_calmBits q10 v1).bind fun q11 =>
  some (((q11 >>> (v2 &&& 31)) &&& (1 : Int32)), q10, pB))
set_option maxHeartbeats 4000000 in
set_option maxRecDepth 100000 in
theorem tX11_presses {κ : Nat → ClassId} {tg : Nat} {S : zEn} {ad : Nat → Nat} (hEk : zEk (zE tg S)) {pT : zM} {pR : zM} {pX : zM} {pF : zM} {pB : zM} {pP : zP} {v1 : Int32} {v2 : Int32} {res : (Int32 × zM × zM)} (h : xX11_presses pT pR pB pP v1 v2 = some res) (l : Launch) (D : va_G) : zCT (zE tg S) D vwCl (zty κ) l yX11_presses wsX11_presses ({ frames := 6, cells := 0, slots := 0, locals := 141 } : Room) 0 0 [.ref (ad 76), .int v1, .int v2] (zwC κ ad pT pR pX pF pB pP) (zPd (some (.int res.1)) (zwC κ ad pT res.2.1 pX pF res.2.2 pP)) := by
  refine zCT.of (cc := cX11_presses) (maxL := 3) (ret := (some .int)) (by decide) rfl (Nat.le_of_ble_eq_true rfl) ?_
  intro X hC hR
  unfold xX11_presses at h
  refine zV.sub (lv' := [(0, .ref (ad 76)), (1, .int v1), (2, .int v2)]) [0, 1, 2] rfl ?_
  refine zr_aload_n (pc := 0) hC 0 rfl rfl dX11_presses_0 ?_
  refine zcg_76_1 (pc := 1) hC hinX11_presses_X11 flX11_presses_68 dX11_presses_1 ?_
  refine zr_iload_n (pc := 4) hC 1 rfl rfl dX11_presses_4 ?_
  obtain ⟨q1, hq1, h⟩ := zbd h
  refine zr_cVr (pc := 5) hC hEk [.int v1] [] 62 1 (fun l D => tX6_playerAt hEk hq1 l D) gX11_presses_X6_playerAt rfl rfl rfl ⟨Nat.le_of_ble_eq_true rfl, Nat.le_of_ble_eq_true rfl⟩ hyX6_playerAt (zNC (by decide)) entC_62 rfl rfl rfl (Nat.le_of_ble_eq_true rfl) ⟨Nat.le_of_ble_eq_true rfl, Nat.le_of_ble_eq_true rfl⟩ dX11_presses_5 ?_
  refine zr_ifnullM (pc := 8) (tgt := 22) hC dX11_presses_8 (by decide) (fun e3 => ?_) (fun a2 e3 => ?_)
  · replace h := zon_n e3 h
    subst e3
    show zV X 0 0 (zwC κ ad pT pR pX pF q5.2 pP) [(0, .ref (ad 76)), (1, .int v1), (2, .int v2)] [] 22
    refine zr_aload_n (pc := 22) hC 0 rfl rfl dX11_presses_22 ?_
    refine zr_iconst (pc := 23) hC zki_m1 dX11_presses_23 ?_
    obtain ⟨q5, hq5, h⟩ := zbd h
    refine zr_cVi (pc := 24) hC hEk [.int (-1 : Int32)] [] 76 1 (fun l D => tX11_refuse hEk hq5 l D) gX11_presses_X11_refuse rfl rfl rfl ⟨Nat.le_of_ble_eq_true rfl, Nat.le_of_ble_eq_true rfl⟩ hyX11_refuse (zNC (by decide)) entC_76 rfl rfl rfl (Nat.le_of_ble_eq_true rfl) ⟨Nat.le_of_ble_eq_true rfl, Nat.le_of_ble_eq_true rfl⟩ dX11_presses_24 ?_
    obtain rfl := Option.some.inj h
    exact zr_iret hC hR ⟨rfl, rfl⟩ (Nat.le_refl _) (Nat.le_refl _) dX11_presses_27
  · replace h := zon_s e3 h
    subst e3
    obtain ⟨i4, h⟩ := zgd h
    show zV X 0 0 (zwC κ ad pT pR pX pF q13.2 pP) [(0, .ref (ad 76)), (1, .int v1), (2, .int v2)] [] 11
    refine zr_aload_n (pc := 11) hC 0 rfl rfl dX11_presses_11 ?_
    refine zcg_76_0 (pc := 12) hC hinX11_presses_X11 flX11_presses_59 dX11_presses_12 ?_
    refine zr_iload_n (pc := 15) hC 2 rfl rfl dX11_presses_15 ?_
    obtain ⟨q6, hq6, h⟩ := zbd h
    refine zr_cVi (pc := 16) hC hEk [.int v2] [] 0 1 (fun l D => tX10_has hEk hq6 l D) gX11_presses_X10_has rfl rfl rfl ⟨Nat.le_of_ble_eq_true rfl, Nat.le_of_ble_eq_true rfl⟩ hyX10_has (zNC (by decide)) entC_0 rfl rfl rfl (Nat.le_of_ble_eq_true rfl) ⟨Nat.le_of_ble_eq_true rfl, Nat.le_of_ble_eq_true rfl⟩ dX11_presses_16 ?_
    refine zr_if_ne (pc := 19) (tgt := 28) hC dX11_presses_19 (by decide) (fun c7 => ?_) (fun c7 => ?_)
    · replace h := zin h c7
      refine zr_aload_n (pc := 28) hC 0 rfl rfl dX11_presses_28 ?_
      refine zcg_76_0 (pc := 29) hC hinX11_presses_X11 flX11_presses_59 dX11_presses_29 ?_
      obtain ⟨q8, hq8, h⟩ := zbd h
      refine zr_cVi (pc := 32) hC hEk [] [] 0 0 (fun l D => tX10_isWhole hEk hq8 l D) gX11_presses_X10_isWhole rfl rfl rfl ⟨Nat.le_of_ble_eq_true rfl, Nat.le_of_ble_eq_true rfl⟩ hyX10_isWhole (zNC (by decide)) entC_0 rfl rfl rfl (Nat.le_of_ble_eq_true rfl) ⟨Nat.le_of_ble_eq_true rfl, Nat.le_of_ble_eq_true rfl⟩ dX11_presses_32 ?_
      refine zr_if_ne (pc := 35) (tgt := 45) hC dX11_presses_35 (by decide) (fun c9 => ?_) (fun c9 => ?_)
      · replace h := zin h c9
        refine zr_aload_n (pc := 45) hC 0 rfl rfl dX11_presses_45 ?_
        refine zcg_76_1 (pc := 46) hC hinX11_presses_X11 flX11_presses_68 dX11_presses_46 ?_
        obtain ⟨q10, hq10, h⟩ := zbd h
        refine zr_cVv (pc := 49) hC hEk [] [] 62 0 (fun l D => tX6_prepare hEk hq10 l D) gX11_presses_X6_prepare rfl rfl rfl ⟨Nat.le_of_ble_eq_true rfl, Nat.le_of_ble_eq_true rfl⟩ hyX6_prepare (zNC (by decide)) entC_62 rfl rfl rfl (Nat.le_of_ble_eq_true rfl) ⟨Nat.le_of_ble_eq_true rfl, Nat.le_of_ble_eq_true rfl⟩ dX11_presses_49 ?_
        refine zr_aload_n (pc := 52) hC 0 rfl rfl dX11_presses_52 ?_
        refine zcg_76_1 (pc := 53) hC hinX11_presses_X11 flX11_presses_68 dX11_presses_53 ?_
        refine zr_iload_n (pc := 56) hC 1 rfl rfl dX11_presses_56 ?_
        obtain ⟨q11, hq11, h⟩ := zbd h
        refine zr_cVi (pc := 57) hC hEk [.int v1] [] 62 1 (fun l D => tX6_calmBits hEk hq11 l D) gX11_presses_X6_calmBits rfl rfl rfl ⟨Nat.le_of_ble_eq_true rfl, Nat.le_of_ble_eq_true rfl⟩ hyX6_calmBits (zNC (by decide)) entC_62 rfl rfl rfl (Nat.le_of_ble_eq_true rfl) ⟨Nat.le_of_ble_eq_true rfl, Nat.le_of_ble_eq_true rfl⟩ dX11_presses_57 ?_
        refine zr_iload_n (pc := 60) hC 2 rfl rfl dX11_presses_60 ?_
        refine zr_ishr (pc := 61) hC dX11_presses_61 ?_
        refine zr_iconst (pc := 62) hC zki_1 dX11_presses_62 ?_
        refine zr_iand (pc := 63) hC dX11_presses_63 ?_
        obtain rfl := Option.some.inj h
        exact zr_iret hC hR ⟨rfl, rfl⟩ (Nat.le_refl _) (Nat.le_refl _) dX11_presses_64
      · replace h := zip h c9
        refine zr_aload_n (pc := 38) hC 0 rfl rfl dX11_presses_38 ?_
        refine zr_bipush (pc := 39) hC zkb_m3 dX11_presses_39 ?_
        obtain ⟨q12, hq12, h⟩ := zbd h
        refine zr_cVi (pc := 41) hC hEk [.int (-3 : Int32)] [] 76 1 (fun l D => tX11_refuse hEk hq12 l D) gX11_presses_X11_refuse rfl rfl rfl ⟨Nat.le_of_ble_eq_true rfl, Nat.le_of_ble_eq_true rfl⟩ hyX11_refuse (zNC (by decide)) entC_76 rfl rfl rfl (Nat.le_of_ble_eq_true rfl) ⟨Nat.le_of_ble_eq_true rfl, Nat.le_of_ble_eq_true rfl⟩ dX11_presses_41 ?_
        obtain rfl := Option.some.inj h
        exact zr_iret hC hR ⟨rfl, rfl⟩ (Nat.le_refl _) (Nat.le_refl _) dX11_presses_44
    · replace h := zip h c7
      refine zr_aload_n (pc := 22) hC 0 rfl rfl dX11_presses_22 ?_
      refine zr_iconst (pc := 23) hC zki_m1 dX11_presses_23 ?_
      obtain ⟨q13, hq13, h⟩ := zbd h
      refine zr_cVi (pc := 24) hC hEk [.int (-1 : Int32)] [] 76 1 (fun l D => tX11_refuse hEk hq13 l D) gX11_presses_X11_refuse rfl rfl rfl ⟨Nat.le_of_ble_eq_true rfl, Nat.le_of_ble_eq_true rfl⟩ hyX11_refuse (zNC (by decide)) entC_76 rfl rfl rfl (Nat.le_of_ble_eq_true rfl) ⟨Nat.le_of_ble_eq_true rfl, Nat.le_of_ble_eq_true rfl⟩ dX11_presses_24 ?_
      obtain rfl := Option.some.inj h
      exact zr_iret hC hR ⟨rfl, rfl⟩ (Nat.le_refl _) (Nat.le_refl _) dX11_presses_27
/-! X11_run -/
theorem hyX11_run : yX11_run.cls = RX11 ∧ yX11_run.cls ≠ "java/lang/invoke/MethodHandle" ∧ yX11_run.cls ≠ "java/lang/invoke/VarHandle" ∧ (parseMethodDescriptor yX11_run.desc).map (fun d => d.parameters.length) = some 2 := by decide +kernel
theorem flX11_run_190 : Cond.fieldLink RX11 190 "BeforeTheEnd$Race" "winner" "I" ∈ wsX11_run := by decide +kernel
theorem flX11_run_193 : Cond.fieldLink RX11 193 "BeforeTheEnd$Race" "firstWord" "I" ∈ wsX11_run := by decide +kernel
theorem flX11_run_196 : Cond.fieldLink RX11 196 "BeforeTheEnd$Race" "out" "I" ∈ wsX11_run := by decide +kernel
theorem flX11_run_59 : Cond.fieldLink RX11 59 "BeforeTheEnd" "tree" "LBeforeTheEnd$Tree;" ∈ wsX11_run := by decide +kernel
theorem flX11_run_68 : Cond.fieldLink RX11 68 "BeforeTheEnd" "race" "LBeforeTheEnd$Race;" ∈ wsX11_run := by decide +kernel
theorem hinX11_run_X11 : ∀ w ∈ wsX110, w ∈ wsX11_run := fun _ h => List.mem_cons_of_mem _ (List.mem_append_left _ (List.mem_append_left _ (List.mem_append_left _ (List.mem_append_left _ (List.mem_append_left _ (List.mem_append_left _ (List.mem_append_left _ (List.mem_append_left _ (List.mem_append_right _ h)))))))))
theorem hinX11_run_X6 : ∀ w ∈ wsX60, w ∈ wsX11_run := fun _ h => List.mem_cons_of_mem _ (List.mem_append_left _ (List.mem_append_left _ (List.mem_append_left _ (List.mem_append_left _ (List.mem_append_left _ (List.mem_append_left _ (List.mem_append_left _ (List.mem_append_right _ h))))))))
theorem hinX11_run_X10 : ∀ w ∈ wsX100, w ∈ wsX11_run := fun _ h => List.mem_cons_of_mem _ (List.mem_append_left _ (List.mem_append_left _ (List.mem_append_left _ (List.mem_append_left _ (List.mem_append_left _ (List.mem_append_left _ (List.mem_append_right _ h)))))))
theorem hinX11_run_X0 : ∀ w ∈ wsX00, w ∈ wsX11_run := fun _ h => List.mem_cons_of_mem _ (List.mem_append_left _ (List.mem_append_left _ (List.mem_append_left _ (List.mem_append_left _ (List.mem_append_left _ (List.mem_append_right _ h))))))
theorem hinX11_run_X1 : ∀ w ∈ wsX10, w ∈ wsX11_run := fun _ h => List.mem_cons_of_mem _ (List.mem_append_left _ (List.mem_append_left _ (List.mem_append_left _ (List.mem_append_left _ (List.mem_append_right _ h)))))
theorem hinX11_run_X2 : ∀ w ∈ wsX20, w ∈ wsX11_run := fun _ h => List.mem_cons_of_mem _ (List.mem_append_left _ (List.mem_append_left _ (List.mem_append_left _ (List.mem_append_right _ h))))
theorem hinX11_run_X4 : ∀ w ∈ wsX40, w ∈ wsX11_run := fun _ h => List.mem_cons_of_mem _ (List.mem_append_left _ (List.mem_append_left _ (List.mem_append_right _ h)))
theorem hinX11_run_X7 : ∀ w ∈ wsX70, w ∈ wsX11_run := fun _ h => List.mem_cons_of_mem _ (List.mem_append_left _ (List.mem_append_right _ h))
theorem hinX11_run_X9 : ∀ w ∈ wsX90, w ∈ wsX11_run := fun _ h => List.mem_cons_of_mem _ (List.mem_append_right _ h)
def xX11_run (pT : zM) (pR : zM) (pB : zM) (pP : zP) (v1 : Int32) (v2 : Int32) : Option (Int32 × zM × zM) :=
  (xX10_isEnd pT v1).bind fun q1 =>
  if q1 = 0 then
  ((xX11_refuse pB (-1 : Int32)).bind fun q15 =>
  some (q15.1, pR, q15.2))
  else
  if v2 < 0 then
  ((xX11_refuse pB (-2 : Int32)).bind fun q4 =>
  some (q4.1, pR, q4.2))
  else
  if v2 ≤ (2 : Int32) then
  ((xX10_isWhole pT).bind fun q6 =>
  if q6 = 0 then
  ((xX11_refuse pB (-3 : Int32)).bind fun q13 =>
  some (q13.1, pR, q13.2))
  else
  (xX6_prepare pT pR pP).bind fun q8 =>
  (xX6_runTo pT q8 pP v1).bind fun q9 =>
  if v2 = 0 then
  (some ((q9.1 62 8), q9, pB))
  else
  if v2 = (1 : Int32) then
  (some ((q9.1 62 9), q9, pB))
  else
  (xJ6_bitCount_0f7a4 (q9.1 62 11)).bind fun q12 =>
  some (q12, q9, pB))
  else
  (xX11_refuse pB (-2 : Int32)).bind fun q14 =>
  some (q14.1, pR, q14.2)
set_option maxHeartbeats 4000000 in
set_option maxRecDepth 100000 in
theorem tX11_run {κ : Nat → ClassId} {tg : Nat} {S : zEn} {ad : Nat → Nat} (hEk : zEk (zE tg S)) {pT : zM} {pR : zM} {pX : zM} {pF : zM} {pB : zM} {pP : zP} {v1 : Int32} {v2 : Int32} {res : (Int32 × zM × zM)} (h : xX11_run pT pR pB pP v1 v2 = some res) (l : Launch) (D : va_G) : zCT (zE tg S) D vwCl (zty κ) l yX11_run wsX11_run ({ frames := 6, cells := 0, slots := 0, locals := 141 } : Room) 0 0 [.ref (ad 76), .int v1, .int v2] (zwC κ ad pT pR pX pF pB pP) (zPd (some (.int res.1)) (zwC κ ad pT res.2.1 pX pF res.2.2 pP)) := by
  refine zCT.of (cc := cX11_run) (maxL := 3) (ret := (some .int)) (by decide) rfl (Nat.le_of_ble_eq_true rfl) ?_
  intro X hC hR
  unfold xX11_run at h
  refine zV.sub (lv' := [(0, .ref (ad 76)), (1, .int v1), (2, .int v2)]) [0, 1, 2] rfl ?_
  refine zr_aload_n (pc := 0) hC 0 rfl rfl dX11_run_0 ?_
  refine zcg_76_0 (pc := 1) hC hinX11_run_X11 flX11_run_59 dX11_run_1 ?_
  refine zr_iload_n (pc := 4) hC 1 rfl rfl dX11_run_4 ?_
  obtain ⟨q1, hq1, h⟩ := zbd h
  refine zr_cVi (pc := 5) hC hEk [.int v1] [] 0 1 (fun l D => tX10_isEnd hEk hq1 l D) gX11_run_X10_isEnd rfl rfl rfl ⟨Nat.le_of_ble_eq_true rfl, Nat.le_of_ble_eq_true rfl⟩ hyX10_isEnd (zNC (by decide)) entC_0 rfl rfl rfl (Nat.le_of_ble_eq_true rfl) ⟨Nat.le_of_ble_eq_true rfl, Nat.le_of_ble_eq_true rfl⟩ dX11_run_5 ?_
  refine zr_if_ne (pc := 8) (tgt := 17) hC dX11_run_8 (by decide) (fun c2 => ?_) (fun c2 => ?_)
  · replace h := zin h c2
    refine zr_iload_n (pc := 17) hC 2 rfl rfl dX11_run_17 ?_
    refine zr_if_lt (pc := 18) (tgt := 26) hC dX11_run_18 (by decide) (fun c3 => ?_) (fun c3 => ?_)
    · replace h := zip h c3
      refine zr_aload_n (pc := 26) hC 0 rfl rfl dX11_run_26 ?_
      refine zr_bipush (pc := 27) hC zkb_m2 dX11_run_27 ?_
      obtain ⟨q4, hq4, h⟩ := zbd h
      refine zr_cVi (pc := 29) hC hEk [.int (-2 : Int32)] [] 76 1 (fun l D => tX11_refuse hEk hq4 l D) gX11_run_X11_refuse rfl rfl rfl ⟨Nat.le_of_ble_eq_true rfl, Nat.le_of_ble_eq_true rfl⟩ hyX11_refuse (zNC (by decide)) entC_76 rfl rfl rfl (Nat.le_of_ble_eq_true rfl) ⟨Nat.le_of_ble_eq_true rfl, Nat.le_of_ble_eq_true rfl⟩ dX11_run_29 ?_
      obtain rfl := Option.some.inj h
      exact zr_iret hC hR ⟨rfl, rfl⟩ (Nat.le_refl _) (Nat.le_refl _) dX11_run_32
    · replace h := zin h c3
      refine zr_iload_n (pc := 21) hC 2 rfl rfl dX11_run_21 ?_
      refine zr_iconst (pc := 22) hC zki_2 dX11_run_22 ?_
      refine zr_icmp_le (pc := 23) (tgt := 33) hC dX11_run_23 (by decide) (fun c5 => ?_) (fun c5 => ?_)
      · replace h := zip h c5
        refine zr_aload_n (pc := 33) hC 0 rfl rfl dX11_run_33 ?_
        refine zcg_76_0 (pc := 34) hC hinX11_run_X11 flX11_run_59 dX11_run_34 ?_
        obtain ⟨q6, hq6, h⟩ := zbd h
        refine zr_cVi (pc := 37) hC hEk [] [] 0 0 (fun l D => tX10_isWhole hEk hq6 l D) gX11_run_X10_isWhole rfl rfl rfl ⟨Nat.le_of_ble_eq_true rfl, Nat.le_of_ble_eq_true rfl⟩ hyX10_isWhole (zNC (by decide)) entC_0 rfl rfl rfl (Nat.le_of_ble_eq_true rfl) ⟨Nat.le_of_ble_eq_true rfl, Nat.le_of_ble_eq_true rfl⟩ dX11_run_37 ?_
        refine zr_if_ne (pc := 40) (tgt := 50) hC dX11_run_40 (by decide) (fun c7 => ?_) (fun c7 => ?_)
        · replace h := zin h c7
          refine zr_aload_n (pc := 50) hC 0 rfl rfl dX11_run_50 ?_
          refine zcg_76_1 (pc := 51) hC hinX11_run_X11 flX11_run_68 dX11_run_51 ?_
          obtain ⟨q8, hq8, h⟩ := zbd h
          refine zr_cVv (pc := 54) hC hEk [] [] 62 0 (fun l D => tX6_prepare hEk hq8 l D) gX11_run_X6_prepare rfl rfl rfl ⟨Nat.le_of_ble_eq_true rfl, Nat.le_of_ble_eq_true rfl⟩ hyX6_prepare (zNC (by decide)) entC_62 rfl rfl rfl (Nat.le_of_ble_eq_true rfl) ⟨Nat.le_of_ble_eq_true rfl, Nat.le_of_ble_eq_true rfl⟩ dX11_run_54 ?_
          refine zr_aload_n (pc := 57) hC 0 rfl rfl dX11_run_57 ?_
          refine zcg_76_1 (pc := 58) hC hinX11_run_X11 flX11_run_68 dX11_run_58 ?_
          refine zr_iload_n (pc := 61) hC 1 rfl rfl dX11_run_61 ?_
          obtain ⟨q9, hq9, h⟩ := zbd h
          refine zr_cVv (pc := 62) hC hEk [.int v1] [] 62 1 (fun l D => tX6_runTo hEk hq9 l D) gX11_run_X6_runTo rfl rfl rfl ⟨Nat.le_of_ble_eq_true rfl, Nat.le_of_ble_eq_true rfl⟩ hyX6_runTo (zNC (by decide)) entC_62 rfl rfl rfl (Nat.le_of_ble_eq_true rfl) ⟨Nat.le_of_ble_eq_true rfl, Nat.le_of_ble_eq_true rfl⟩ dX11_run_62 ?_
          refine zr_iload_n (pc := 65) hC 2 rfl rfl dX11_run_65 ?_
          refine zr_if_ne (pc := 66) (tgt := 77) hC dX11_run_66 (by decide) (fun c10 => ?_) (fun c10 => ?_)
          · replace h := zin h c10
            refine zr_iload_n (pc := 77) hC 2 rfl rfl dX11_run_77 ?_
            refine zr_iconst (pc := 78) hC zki_1 dX11_run_78 ?_
            refine zr_icmp_ne (pc := 79) (tgt := 92) hC dX11_run_79 (by decide) (fun c11 => ?_) (fun c11 => ?_)
            · replace h := zin h c11
              refine zr_aload_n (pc := 92) hC 0 rfl rfl dX11_run_92 ?_
              refine zcg_76_1 (pc := 93) hC hinX11_run_X11 flX11_run_68 dX11_run_93 ?_
              refine zcg_62_11 (pc := 96) hC hinX11_run_X6 flX11_run_196 dX11_run_96 ?_
              obtain ⟨q12, hq12, h⟩ := zbd h
              refine zr_cSi (pc := 99) hC hEk [.int (q9.1 62 11)] [] 1 (fun l D => tJ6_bitCount_0f7a4 hEk hq12 l D) gX11_run_J6_bitCount_0f7a4 rfl rfl rfl ⟨Nat.le_of_ble_eq_true rfl, Nat.le_of_ble_eq_true rfl⟩ hyJ6_bitCount_0f7a4 rfl rfl (Nat.le_of_ble_eq_true rfl) ⟨Nat.le_of_ble_eq_true rfl, Nat.le_of_ble_eq_true rfl⟩ dX11_run_99 ?_
              obtain rfl := Option.some.inj h
              exact zr_iret hC hR ⟨rfl, rfl⟩ (Nat.le_refl _) (Nat.le_refl _) dX11_run_102
            · replace h := zip h c11
              refine zr_aload_n (pc := 82) hC 0 rfl rfl dX11_run_82 ?_
              refine zcg_76_1 (pc := 83) hC hinX11_run_X11 flX11_run_68 dX11_run_83 ?_
              refine zcg_62_9 (pc := 86) hC hinX11_run_X6 flX11_run_193 dX11_run_86 ?_
              refine zr_goto (pc := 89) (tgt := 102) hC dX11_run_89 (by decide) ?_
              obtain rfl := Option.some.inj h
              exact zr_iret hC hR ⟨rfl, rfl⟩ (Nat.le_refl _) (Nat.le_refl _) dX11_run_102
          · replace h := zip h c10
            refine zr_aload_n (pc := 69) hC 0 rfl rfl dX11_run_69 ?_
            refine zcg_76_1 (pc := 70) hC hinX11_run_X11 flX11_run_68 dX11_run_70 ?_
            refine zcg_62_8 (pc := 73) hC hinX11_run_X6 flX11_run_190 dX11_run_73 ?_
            obtain rfl := Option.some.inj h
            exact zr_iret hC hR ⟨rfl, rfl⟩ (Nat.le_refl _) (Nat.le_refl _) dX11_run_76
        · replace h := zip h c7
          refine zr_aload_n (pc := 43) hC 0 rfl rfl dX11_run_43 ?_
          refine zr_bipush (pc := 44) hC zkb_m3 dX11_run_44 ?_
          obtain ⟨q13, hq13, h⟩ := zbd h
          refine zr_cVi (pc := 46) hC hEk [.int (-3 : Int32)] [] 76 1 (fun l D => tX11_refuse hEk hq13 l D) gX11_run_X11_refuse rfl rfl rfl ⟨Nat.le_of_ble_eq_true rfl, Nat.le_of_ble_eq_true rfl⟩ hyX11_refuse (zNC (by decide)) entC_76 rfl rfl rfl (Nat.le_of_ble_eq_true rfl) ⟨Nat.le_of_ble_eq_true rfl, Nat.le_of_ble_eq_true rfl⟩ dX11_run_46 ?_
          obtain rfl := Option.some.inj h
          exact zr_iret hC hR ⟨rfl, rfl⟩ (Nat.le_refl _) (Nat.le_refl _) dX11_run_49
      · replace h := zin h c5
        refine zr_aload_n (pc := 26) hC 0 rfl rfl dX11_run_26 ?_
        refine zr_bipush (pc := 27) hC zkb_m2 dX11_run_27 ?_
        obtain ⟨q14, hq14, h⟩ := zbd h
        refine zr_cVi (pc := 29) hC hEk [.int (-2 : Int32)] [] 76 1 (fun l D => tX11_refuse hEk hq14 l D) gX11_run_X11_refuse rfl rfl rfl ⟨Nat.le_of_ble_eq_true rfl, Nat.le_of_ble_eq_true rfl⟩ hyX11_refuse (zNC (by decide)) entC_76 rfl rfl rfl (Nat.le_of_ble_eq_true rfl) ⟨Nat.le_of_ble_eq_true rfl, Nat.le_of_ble_eq_true rfl⟩ dX11_run_29 ?_
        obtain rfl := Option.some.inj h
        exact zr_iret hC hR ⟨rfl, rfl⟩ (Nat.le_refl _) (Nat.le_refl _) dX11_run_32
  · replace h := zip h c2
    refine zr_aload_n (pc := 11) hC 0 rfl rfl dX11_run_11 ?_
    refine zr_iconst (pc := 12) hC zki_m1 dX11_run_12 ?_
    obtain ⟨q15, hq15, h⟩ := zbd h
    refine zr_cVi (pc := 13) hC hEk [.int (-1 : Int32)] [] 76 1 (fun l D => tX11_refuse hEk hq15 l D) gX11_run_X11_refuse rfl rfl rfl ⟨Nat.le_of_ble_eq_true rfl, Nat.le_of_ble_eq_true rfl⟩ hyX11_refuse (zNC (by decide)) entC_76 rfl rfl rfl (Nat.le_of_ble_eq_true rfl) ⟨Nat.le_of_ble_eq_true rfl, Nat.le_of_ble_eq_true rfl⟩ dX11_run_13 ?_
    obtain rfl := Option.some.inj h
    exact zr_iret hC hR ⟨rfl, rfl⟩ (Nat.le_refl _) (Nat.le_refl _) dX11_run_16
/-! X11_meanOf -/
theorem hyX11_meanOf : yX11_meanOf.cls = RX11 ∧ yX11_meanOf.cls ≠ "java/lang/invoke/MethodHandle" ∧ yX11_meanOf.cls ≠ "java/lang/invoke/VarHandle" ∧ (parseMethodDescriptor yX11_meanOf.desc).map (fun d => d.parameters.length) = some 3 := by decide +kernel
theorem flX11_meanOf_59 : Cond.fieldLink RX11 59 "BeforeTheEnd" "tree" "LBeforeTheEnd$Tree;" ∈ wsX11_meanOf := by decide +kernel
theorem flX11_meanOf_68 : Cond.fieldLink RX11 68 "BeforeTheEnd" "race" "LBeforeTheEnd$Race;" ∈ wsX11_meanOf := by decide +kernel
theorem hinX11_meanOf_X11 : ∀ w ∈ wsX110, w ∈ wsX11_meanOf := fun _ h => List.mem_cons_of_mem _ (List.mem_append_left _ (List.mem_append_left _ (List.mem_append_left _ (List.mem_append_left _ (List.mem_append_left _ (List.mem_append_left _ (List.mem_append_left _ (List.mem_append_left _ (List.mem_append_right _ h)))))))))
theorem hinX11_meanOf_X6 : ∀ w ∈ wsX60, w ∈ wsX11_meanOf := fun _ h => List.mem_cons_of_mem _ (List.mem_append_left _ (List.mem_append_left _ (List.mem_append_left _ (List.mem_append_left _ (List.mem_append_left _ (List.mem_append_left _ (List.mem_append_left _ (List.mem_append_right _ h))))))))
theorem hinX11_meanOf_X10 : ∀ w ∈ wsX100, w ∈ wsX11_meanOf := fun _ h => List.mem_cons_of_mem _ (List.mem_append_left _ (List.mem_append_left _ (List.mem_append_left _ (List.mem_append_left _ (List.mem_append_left _ (List.mem_append_left _ (List.mem_append_right _ h)))))))
theorem hinX11_meanOf_X0 : ∀ w ∈ wsX00, w ∈ wsX11_meanOf := fun _ h => List.mem_cons_of_mem _ (List.mem_append_left _ (List.mem_append_left _ (List.mem_append_left _ (List.mem_append_left _ (List.mem_append_left _ (List.mem_append_right _ h))))))
theorem hinX11_meanOf_X1 : ∀ w ∈ wsX10, w ∈ wsX11_meanOf := fun _ h => List.mem_cons_of_mem _ (List.mem_append_left _ (List.mem_append_left _ (List.mem_append_left _ (List.mem_append_left _ (List.mem_append_right _ h)))))
theorem hinX11_meanOf_X2 : ∀ w ∈ wsX20, w ∈ wsX11_meanOf := fun _ h => List.mem_cons_of_mem _ (List.mem_append_left _ (List.mem_append_left _ (List.mem_append_left _ (List.mem_append_right _ h))))
theorem hinX11_meanOf_X4 : ∀ w ∈ wsX40, w ∈ wsX11_meanOf := fun _ h => List.mem_cons_of_mem _ (List.mem_append_left _ (List.mem_append_left _ (List.mem_append_right _ h)))
theorem hinX11_meanOf_X7 : ∀ w ∈ wsX70, w ∈ wsX11_meanOf := fun _ h => List.mem_cons_of_mem _ (List.mem_append_left _ (List.mem_append_right _ h))
theorem hinX11_meanOf_X9 : ∀ w ∈ wsX90, w ∈ wsX11_meanOf := fun _ h => List.mem_cons_of_mem _ (List.mem_append_right _ h)
def xX11_meanOf (pT : zM) (pR : zM) (pB : zM) (pP : zP) (v1 : Int32) (v2 : Int32) (v3 : Int32) : Option (Int64 × zM × zM) :=
  (xX6_playerAt pR pP v2).bind fun q1 =>
  zon q1
  ((xX11_refuseLong pB (-1 : Int32)).bind fun q5 =>
  some (q5.1, pR, q5.2))
  (fun a2 => if pP.2.2.2 ≤ a2 then none else
  (xX11_isNoPart v3).bind fun q6 =>
  if q6 = 0 then
  ((xX10_isWhole pT).bind fun q8 =>
  if q8 = 0 then
  ((xX11_refuseLong pB (-3 : Int32)).bind fun q14 =>
  some (q14.1, pR, q14.2))
  else
  (xX6_prepare pT pR pP).bind fun q10 =>
  (xX6_total pT q10 pP v1 v2).bind fun q11 =>
  (xX10_belowOf pT (0 : Int32)).bind fun q12 =>
  (xX11_leastTerms q11.1 q12 v3).bind fun q13 =>
  some (q13, q11.2, pB))
  else
  (xX11_refuseLong pB (-2 : Int32)).bind fun q15 =>
  some (q15.1, pR, q15.2))
set_option maxHeartbeats 4000000 in
set_option maxRecDepth 100000 in
theorem tX11_meanOf {κ : Nat → ClassId} {tg : Nat} {S : zEn} {ad : Nat → Nat} (hEk : zEk (zE tg S)) {pT : zM} {pR : zM} {pX : zM} {pF : zM} {pB : zM} {pP : zP} {v1 : Int32} {v2 : Int32} {v3 : Int32} {res : (Int64 × zM × zM)} (h : xX11_meanOf pT pR pB pP v1 v2 v3 = some res) (l : Launch) (D : va_G) : zCT (zE tg S) D vwCl (zty κ) l yX11_meanOf wsX11_meanOf ({ frames := 6, cells := 0, slots := 0, locals := 141 } : Room) 0 0 [.ref (ad 76), .int v1, .int v2, .int v3] (zwC κ ad pT pR pX pF pB pP) (zPd (some (.long res.1)) (zwC κ ad pT res.2.1 pX pF res.2.2 pP)) := by
  refine zCT.of (cc := cX11_meanOf) (maxL := 4) (ret := (some .long)) (by decide) rfl (Nat.le_of_ble_eq_true rfl) ?_
  intro X hC hR
  unfold xX11_meanOf at h
  refine zV.sub (lv' := [(0, .ref (ad 76)), (1, .int v1), (2, .int v2), (3, .int v3)]) [0, 1, 2, 3] rfl ?_
  refine zr_aload_n (pc := 0) hC 0 rfl rfl dX11_meanOf_0 ?_
  refine zcg_76_1 (pc := 1) hC hinX11_meanOf_X11 flX11_meanOf_68 dX11_meanOf_1 ?_
  refine zr_iload_n (pc := 4) hC 2 rfl rfl dX11_meanOf_4 ?_
  obtain ⟨q1, hq1, h⟩ := zbd h
  refine zr_cVr (pc := 5) hC hEk [.int v2] [] 62 1 (fun l D => tX6_playerAt hEk hq1 l D) gX11_meanOf_X6_playerAt rfl rfl rfl ⟨Nat.le_of_ble_eq_true rfl, Nat.le_of_ble_eq_true rfl⟩ hyX6_playerAt (zNC (by decide)) entC_62 rfl rfl rfl (Nat.le_of_ble_eq_true rfl) ⟨Nat.le_of_ble_eq_true rfl, Nat.le_of_ble_eq_true rfl⟩ dX11_meanOf_5 ?_
  refine zr_ifnonnullM (pc := 8) (tgt := 17) hC dX11_meanOf_8 (by decide) (fun a2 e3 => ?_) (fun e3 => ?_)
  · replace h := zon_s e3 h
    subst e3
    obtain ⟨i4, h⟩ := zgd h
    show zV X 0 0 (zwC κ ad pT pR pX pF q15.2 pP) [(0, .ref (ad 76)), (1, .int v1), (2, .int v2), (3, .int v3)] [] 17
    refine zr_iload_n (pc := 17) hC 3 rfl rfl dX11_meanOf_17 ?_
    obtain ⟨q6, hq6, h⟩ := zbd h
    refine zr_cSi (pc := 18) hC hEk [.int v3] [] 1 (fun l D => tX11_isNoPart hEk hq6 l D) gX11_meanOf_X11_isNoPart rfl rfl rfl ⟨Nat.le_of_ble_eq_true rfl, Nat.le_of_ble_eq_true rfl⟩ hyX11_isNoPart rfl rfl (Nat.le_of_ble_eq_true rfl) ⟨Nat.le_of_ble_eq_true rfl, Nat.le_of_ble_eq_true rfl⟩ dX11_meanOf_18 ?_
    refine zr_if_eq (pc := 21) (tgt := 31) hC dX11_meanOf_21 (by decide) (fun c7 => ?_) (fun c7 => ?_)
    · replace h := zip h c7
      refine zr_aload_n (pc := 31) hC 0 rfl rfl dX11_meanOf_31 ?_
      refine zcg_76_0 (pc := 32) hC hinX11_meanOf_X11 flX11_meanOf_59 dX11_meanOf_32 ?_
      obtain ⟨q8, hq8, h⟩ := zbd h
      refine zr_cVi (pc := 35) hC hEk [] [] 0 0 (fun l D => tX10_isWhole hEk hq8 l D) gX11_meanOf_X10_isWhole rfl rfl rfl ⟨Nat.le_of_ble_eq_true rfl, Nat.le_of_ble_eq_true rfl⟩ hyX10_isWhole (zNC (by decide)) entC_0 rfl rfl rfl (Nat.le_of_ble_eq_true rfl) ⟨Nat.le_of_ble_eq_true rfl, Nat.le_of_ble_eq_true rfl⟩ dX11_meanOf_35 ?_
      refine zr_if_ne (pc := 38) (tgt := 48) hC dX11_meanOf_38 (by decide) (fun c9 => ?_) (fun c9 => ?_)
      · replace h := zin h c9
        refine zr_aload_n (pc := 48) hC 0 rfl rfl dX11_meanOf_48 ?_
        refine zcg_76_1 (pc := 49) hC hinX11_meanOf_X11 flX11_meanOf_68 dX11_meanOf_49 ?_
        obtain ⟨q10, hq10, h⟩ := zbd h
        refine zr_cVv (pc := 52) hC hEk [] [] 62 0 (fun l D => tX6_prepare hEk hq10 l D) gX11_meanOf_X6_prepare rfl rfl rfl ⟨Nat.le_of_ble_eq_true rfl, Nat.le_of_ble_eq_true rfl⟩ hyX6_prepare (zNC (by decide)) entC_62 rfl rfl rfl (Nat.le_of_ble_eq_true rfl) ⟨Nat.le_of_ble_eq_true rfl, Nat.le_of_ble_eq_true rfl⟩ dX11_meanOf_52 ?_
        refine zr_aload_n (pc := 55) hC 0 rfl rfl dX11_meanOf_55 ?_
        refine zcg_76_1 (pc := 56) hC hinX11_meanOf_X11 flX11_meanOf_68 dX11_meanOf_56 ?_
        refine zr_iload_n (pc := 59) hC 1 rfl rfl dX11_meanOf_59 ?_
        refine zr_iload_n (pc := 60) hC 2 rfl rfl dX11_meanOf_60 ?_
        obtain ⟨q11, hq11, h⟩ := zbd h
        refine zr_cVl (pc := 61) hC hEk [.int v1, .int v2] [] 62 2 (fun l D => tX6_total hEk hq11 l D) gX11_meanOf_X6_total rfl rfl rfl ⟨Nat.le_of_ble_eq_true rfl, Nat.le_of_ble_eq_true rfl⟩ hyX6_total (zNC (by decide)) entC_62 rfl rfl rfl (Nat.le_of_ble_eq_true rfl) ⟨Nat.le_of_ble_eq_true rfl, Nat.le_of_ble_eq_true rfl⟩ dX11_meanOf_61 ?_
        refine zr_aload_n (pc := 64) hC 0 rfl rfl dX11_meanOf_64 ?_
        refine zcg_76_0 (pc := 65) hC hinX11_meanOf_X11 flX11_meanOf_59 dX11_meanOf_65 ?_
        refine zr_iconst (pc := 68) hC zki_0 dX11_meanOf_68 ?_
        obtain ⟨q12, hq12, h⟩ := zbd h
        refine zr_cVl (pc := 69) hC hEk [.int (0 : Int32)] [.long q11.1] 0 1 (fun l D => tX10_belowOf hEk hq12 l D) gX11_meanOf_X10_belowOf rfl rfl rfl ⟨Nat.le_of_ble_eq_true rfl, Nat.le_of_ble_eq_true rfl⟩ hyX10_belowOf (zNC (by decide)) entC_0 rfl rfl rfl (Nat.le_of_ble_eq_true rfl) ⟨Nat.le_of_ble_eq_true rfl, Nat.le_of_ble_eq_true rfl⟩ dX11_meanOf_69 ?_
        refine zr_iload_n (pc := 72) hC 3 rfl rfl dX11_meanOf_72 ?_
        obtain ⟨q13, hq13, h⟩ := zbd h
        refine zr_cSl (pc := 73) hC hEk [.long q11.1, .long q12, .int v3] [] 3 (fun l D => tX11_leastTerms hEk hq13 l D) gX11_meanOf_X11_leastTerms rfl rfl rfl ⟨Nat.le_of_ble_eq_true rfl, Nat.le_of_ble_eq_true rfl⟩ hyX11_leastTerms rfl rfl (Nat.le_of_ble_eq_true rfl) ⟨Nat.le_of_ble_eq_true rfl, Nat.le_of_ble_eq_true rfl⟩ dX11_meanOf_73 ?_
        obtain rfl := Option.some.inj h
        exact zr_lret hC hR ⟨rfl, rfl⟩ (Nat.le_refl _) (Nat.le_refl _) dX11_meanOf_76
      · replace h := zip h c9
        refine zr_aload_n (pc := 41) hC 0 rfl rfl dX11_meanOf_41 ?_
        refine zr_bipush (pc := 42) hC zkb_m3 dX11_meanOf_42 ?_
        obtain ⟨q14, hq14, h⟩ := zbd h
        refine zr_cVl (pc := 44) hC hEk [.int (-3 : Int32)] [] 76 1 (fun l D => tX11_refuseLong hEk hq14 l D) gX11_meanOf_X11_refuseLong rfl rfl rfl ⟨Nat.le_of_ble_eq_true rfl, Nat.le_of_ble_eq_true rfl⟩ hyX11_refuseLong (zNC (by decide)) entC_76 rfl rfl rfl (Nat.le_of_ble_eq_true rfl) ⟨Nat.le_of_ble_eq_true rfl, Nat.le_of_ble_eq_true rfl⟩ dX11_meanOf_44 ?_
        obtain rfl := Option.some.inj h
        exact zr_lret hC hR ⟨rfl, rfl⟩ (Nat.le_refl _) (Nat.le_refl _) dX11_meanOf_47
    · replace h := zin h c7
      refine zr_aload_n (pc := 24) hC 0 rfl rfl dX11_meanOf_24 ?_
      refine zr_bipush (pc := 25) hC zkb_m2 dX11_meanOf_25 ?_
      obtain ⟨q15, hq15, h⟩ := zbd h
      refine zr_cVl (pc := 27) hC hEk [.int (-2 : Int32)] [] 76 1 (fun l D => tX11_refuseLong hEk hq15 l D) gX11_meanOf_X11_refuseLong rfl rfl rfl ⟨Nat.le_of_ble_eq_true rfl, Nat.le_of_ble_eq_true rfl⟩ hyX11_refuseLong (zNC (by decide)) entC_76 rfl rfl rfl (Nat.le_of_ble_eq_true rfl) ⟨Nat.le_of_ble_eq_true rfl, Nat.le_of_ble_eq_true rfl⟩ dX11_meanOf_27 ?_
      obtain rfl := Option.some.inj h
      exact zr_lret hC hR ⟨rfl, rfl⟩ (Nat.le_refl _) (Nat.le_refl _) dX11_meanOf_30
  · replace h := zon_n e3 h
    subst e3
    show zV X 0 0 (zwC κ ad pT pR pX pF q5.2 pP) [(0, .ref (ad 76)), (1, .int v1), (2, .int v2), (3, .int v3)] [] 11
    refine zr_aload_n (pc := 11) hC 0 rfl rfl dX11_meanOf_11 ?_
    refine zr_iconst (pc := 12) hC zki_m1 dX11_meanOf_12 ?_
    obtain ⟨q5, hq5, h⟩ := zbd h
    refine zr_cVl (pc := 13) hC hEk [.int (-1 : Int32)] [] 76 1 (fun l D => tX11_refuseLong hEk hq5 l D) gX11_meanOf_X11_refuseLong rfl rfl rfl ⟨Nat.le_of_ble_eq_true rfl, Nat.le_of_ble_eq_true rfl⟩ hyX11_refuseLong (zNC (by decide)) entC_76 rfl rfl rfl (Nat.le_of_ble_eq_true rfl) ⟨Nat.le_of_ble_eq_true rfl, Nat.le_of_ble_eq_true rfl⟩ dX11_meanOf_13 ?_
    obtain rfl := Option.some.inj h
    exact zr_lret hC hR ⟨rfl, rfl⟩ (Nat.le_refl _) (Nat.le_refl _) dX11_meanOf_16
/-! X11_wins -/
theorem hyX11_wins : yX11_wins.cls = RX11 ∧ yX11_wins.cls ≠ "java/lang/invoke/MethodHandle" ∧ yX11_wins.cls ≠ "java/lang/invoke/VarHandle" ∧ (parseMethodDescriptor yX11_wins.desc).map (fun d => d.parameters.length) = some 2 := by decide +kernel
theorem hinX11_wins_X11 : ∀ w ∈ wsX110, w ∈ wsX11_wins := fun _ h => List.mem_cons_of_mem _ (List.mem_append_left _ (List.mem_append_left _ (List.mem_append_left _ (List.mem_append_left _ (List.mem_append_left _ (List.mem_append_left _ (List.mem_append_left _ (List.mem_append_left _ (List.mem_append_right _ h)))))))))
theorem hinX11_wins_X6 : ∀ w ∈ wsX60, w ∈ wsX11_wins := fun _ h => List.mem_cons_of_mem _ (List.mem_append_left _ (List.mem_append_left _ (List.mem_append_left _ (List.mem_append_left _ (List.mem_append_left _ (List.mem_append_left _ (List.mem_append_left _ (List.mem_append_right _ h))))))))
theorem hinX11_wins_X10 : ∀ w ∈ wsX100, w ∈ wsX11_wins := fun _ h => List.mem_cons_of_mem _ (List.mem_append_left _ (List.mem_append_left _ (List.mem_append_left _ (List.mem_append_left _ (List.mem_append_left _ (List.mem_append_left _ (List.mem_append_right _ h)))))))
theorem hinX11_wins_X0 : ∀ w ∈ wsX00, w ∈ wsX11_wins := fun _ h => List.mem_cons_of_mem _ (List.mem_append_left _ (List.mem_append_left _ (List.mem_append_left _ (List.mem_append_left _ (List.mem_append_left _ (List.mem_append_right _ h))))))
theorem hinX11_wins_X1 : ∀ w ∈ wsX10, w ∈ wsX11_wins := fun _ h => List.mem_cons_of_mem _ (List.mem_append_left _ (List.mem_append_left _ (List.mem_append_left _ (List.mem_append_left _ (List.mem_append_right _ h)))))
theorem hinX11_wins_X2 : ∀ w ∈ wsX20, w ∈ wsX11_wins := fun _ h => List.mem_cons_of_mem _ (List.mem_append_left _ (List.mem_append_left _ (List.mem_append_left _ (List.mem_append_right _ h))))
theorem hinX11_wins_X4 : ∀ w ∈ wsX40, w ∈ wsX11_wins := fun _ h => List.mem_cons_of_mem _ (List.mem_append_left _ (List.mem_append_left _ (List.mem_append_right _ h)))
theorem hinX11_wins_X7 : ∀ w ∈ wsX70, w ∈ wsX11_wins := fun _ h => List.mem_cons_of_mem _ (List.mem_append_left _ (List.mem_append_right _ h))
theorem hinX11_wins_X9 : ∀ w ∈ wsX90, w ∈ wsX11_wins := fun _ h => List.mem_cons_of_mem _ (List.mem_append_right _ h)
def xX11_wins (pT : zM) (pR : zM) (pB : zM) (pP : zP) (v1 : Int32) (v2 : Int32) : Option (Int64 × zM × zM) :=
  (xX11_meanOf pT pR pB pP (0 : Int32) v1 v2).bind fun q1 =>
  some (q1.1, q1.2.1, q1.2.2)
set_option maxHeartbeats 4000000 in
set_option maxRecDepth 100000 in
theorem tX11_wins {κ : Nat → ClassId} {tg : Nat} {S : zEn} {ad : Nat → Nat} (hEk : zEk (zE tg S)) {pT : zM} {pR : zM} {pX : zM} {pF : zM} {pB : zM} {pP : zP} {v1 : Int32} {v2 : Int32} {res : (Int64 × zM × zM)} (h : xX11_wins pT pR pB pP v1 v2 = some res) (l : Launch) (D : va_G) : zCT (zE tg S) D vwCl (zty κ) l yX11_wins wsX11_wins ({ frames := 7, cells := 0, slots := 0, locals := 164 } : Room) 0 0 [.ref (ad 76), .int v1, .int v2] (zwC κ ad pT pR pX pF pB pP) (zPd (some (.long res.1)) (zwC κ ad pT res.2.1 pX pF res.2.2 pP)) := by
  refine zCT.of (cc := cX11_wins) (maxL := 3) (ret := (some .long)) (by decide) rfl (Nat.le_of_ble_eq_true rfl) ?_
  intro X hC hR
  unfold xX11_wins at h
  refine zV.sub (lv' := [(0, .ref (ad 76)), (1, .int v1), (2, .int v2)]) [0, 1, 2] rfl ?_
  refine zr_aload_n (pc := 0) hC 0 rfl rfl dX11_wins_0 ?_
  refine zr_iconst (pc := 1) hC zki_0 dX11_wins_1 ?_
  refine zr_iload_n (pc := 2) hC 1 rfl rfl dX11_wins_2 ?_
  refine zr_iload_n (pc := 3) hC 2 rfl rfl dX11_wins_3 ?_
  obtain ⟨q1, hq1, h⟩ := zbd h
  refine zr_cVl (pc := 4) hC hEk [.int (0 : Int32), .int v1, .int v2] [] 76 3 (fun l D => tX11_meanOf hEk hq1 l D) gX11_wins_X11_meanOf rfl rfl rfl ⟨Nat.le_of_ble_eq_true rfl, Nat.le_of_ble_eq_true rfl⟩ hyX11_meanOf (zNC (by decide)) entC_76 rfl rfl rfl (Nat.le_of_ble_eq_true rfl) ⟨Nat.le_of_ble_eq_true rfl, Nat.le_of_ble_eq_true rfl⟩ dX11_wins_4 ?_
  obtain rfl := Option.some.inj h
  exact zr_lret hC hR ⟨rfl, rfl⟩ (Nat.le_refl _) (Nat.le_refl _) dX11_wins_7
/-! X11_worth -/
theorem hyX11_worth : yX11_worth.cls = RX11 ∧ yX11_worth.cls ≠ "java/lang/invoke/MethodHandle" ∧ yX11_worth.cls ≠ "java/lang/invoke/VarHandle" ∧ (parseMethodDescriptor yX11_worth.desc).map (fun d => d.parameters.length) = some 2 := by decide +kernel
theorem hinX11_worth_X11 : ∀ w ∈ wsX110, w ∈ wsX11_worth := fun _ h => List.mem_cons_of_mem _ (List.mem_append_left _ (List.mem_append_left _ (List.mem_append_left _ (List.mem_append_left _ (List.mem_append_left _ (List.mem_append_left _ (List.mem_append_left _ (List.mem_append_left _ (List.mem_append_right _ h)))))))))
theorem hinX11_worth_X6 : ∀ w ∈ wsX60, w ∈ wsX11_worth := fun _ h => List.mem_cons_of_mem _ (List.mem_append_left _ (List.mem_append_left _ (List.mem_append_left _ (List.mem_append_left _ (List.mem_append_left _ (List.mem_append_left _ (List.mem_append_left _ (List.mem_append_right _ h))))))))
theorem hinX11_worth_X10 : ∀ w ∈ wsX100, w ∈ wsX11_worth := fun _ h => List.mem_cons_of_mem _ (List.mem_append_left _ (List.mem_append_left _ (List.mem_append_left _ (List.mem_append_left _ (List.mem_append_left _ (List.mem_append_left _ (List.mem_append_right _ h)))))))
theorem hinX11_worth_X0 : ∀ w ∈ wsX00, w ∈ wsX11_worth := fun _ h => List.mem_cons_of_mem _ (List.mem_append_left _ (List.mem_append_left _ (List.mem_append_left _ (List.mem_append_left _ (List.mem_append_left _ (List.mem_append_right _ h))))))
theorem hinX11_worth_X1 : ∀ w ∈ wsX10, w ∈ wsX11_worth := fun _ h => List.mem_cons_of_mem _ (List.mem_append_left _ (List.mem_append_left _ (List.mem_append_left _ (List.mem_append_left _ (List.mem_append_right _ h)))))
theorem hinX11_worth_X2 : ∀ w ∈ wsX20, w ∈ wsX11_worth := fun _ h => List.mem_cons_of_mem _ (List.mem_append_left _ (List.mem_append_left _ (List.mem_append_left _ (List.mem_append_right _ h))))
theorem hinX11_worth_X4 : ∀ w ∈ wsX40, w ∈ wsX11_worth := fun _ h => List.mem_cons_of_mem _ (List.mem_append_left _ (List.mem_append_left _ (List.mem_append_right _ h)))
theorem hinX11_worth_X7 : ∀ w ∈ wsX70, w ∈ wsX11_worth := fun _ h => List.mem_cons_of_mem _ (List.mem_append_left _ (List.mem_append_right _ h))
theorem hinX11_worth_X9 : ∀ w ∈ wsX90, w ∈ wsX11_worth := fun _ h => List.mem_cons_of_mem _ (List.mem_append_right _ h)
def xX11_worth (pT : zM) (pR : zM) (pB : zM) (pP : zP) (v1 : Int32) (v2 : Int32) : Option (Int64 × zM × zM) :=
  (xX11_meanOf pT pR pB pP (1 : Int32) v1 v2).bind fun q1 =>
  some (q1.1, q1.2.1, q1.2.2)
set_option maxHeartbeats 4000000 in
set_option maxRecDepth 100000 in
theorem tX11_worth {κ : Nat → ClassId} {tg : Nat} {S : zEn} {ad : Nat → Nat} (hEk : zEk (zE tg S)) {pT : zM} {pR : zM} {pX : zM} {pF : zM} {pB : zM} {pP : zP} {v1 : Int32} {v2 : Int32} {res : (Int64 × zM × zM)} (h : xX11_worth pT pR pB pP v1 v2 = some res) (l : Launch) (D : va_G) : zCT (zE tg S) D vwCl (zty κ) l yX11_worth wsX11_worth ({ frames := 7, cells := 0, slots := 0, locals := 164 } : Room) 0 0 [.ref (ad 76), .int v1, .int v2] (zwC κ ad pT pR pX pF pB pP) (zPd (some (.long res.1)) (zwC κ ad pT res.2.1 pX pF res.2.2 pP)) := by
  refine zCT.of (cc := cX11_worth) (maxL := 3) (ret := (some .long)) (by decide) rfl (Nat.le_of_ble_eq_true rfl) ?_
  intro X hC hR
  unfold xX11_worth at h
  refine zV.sub (lv' := [(0, .ref (ad 76)), (1, .int v1), (2, .int v2)]) [0, 1, 2] rfl ?_
  refine zr_aload_n (pc := 0) hC 0 rfl rfl dX11_worth_0 ?_
  refine zr_iconst (pc := 1) hC zki_1 dX11_worth_1 ?_
  refine zr_iload_n (pc := 2) hC 1 rfl rfl dX11_worth_2 ?_
  refine zr_iload_n (pc := 3) hC 2 rfl rfl dX11_worth_3 ?_
  obtain ⟨q1, hq1, h⟩ := zbd h
  refine zr_cVl (pc := 4) hC hEk [.int (1 : Int32), .int v1, .int v2] [] 76 3 (fun l D => tX11_meanOf hEk hq1 l D) gX11_worth_X11_meanOf rfl rfl rfl ⟨Nat.le_of_ble_eq_true rfl, Nat.le_of_ble_eq_true rfl⟩ hyX11_meanOf (zNC (by decide)) entC_76 rfl rfl rfl (Nat.le_of_ble_eq_true rfl) ⟨Nat.le_of_ble_eq_true rfl, Nat.le_of_ble_eq_true rfl⟩ dX11_worth_4 ?_
  obtain rfl := Option.some.inj h
  exact zr_lret hC hR ⟨rfl, rfl⟩ (Nat.le_refl _) (Nat.le_refl _) dX11_worth_7
/-! X11_nobody -/
theorem hyX11_nobody : yX11_nobody.cls = RX11 ∧ yX11_nobody.cls ≠ "java/lang/invoke/MethodHandle" ∧ yX11_nobody.cls ≠ "java/lang/invoke/VarHandle" ∧ (parseMethodDescriptor yX11_nobody.desc).map (fun d => d.parameters.length) = some 1 := by decide +kernel
theorem flX11_nobody_59 : Cond.fieldLink RX11 59 "BeforeTheEnd" "tree" "LBeforeTheEnd$Tree;" ∈ wsX11_nobody := by decide +kernel
theorem flX11_nobody_68 : Cond.fieldLink RX11 68 "BeforeTheEnd" "race" "LBeforeTheEnd$Race;" ∈ wsX11_nobody := by decide +kernel
theorem hinX11_nobody_X11 : ∀ w ∈ wsX110, w ∈ wsX11_nobody := fun _ h => List.mem_cons_of_mem _ (List.mem_append_left _ (List.mem_append_left _ (List.mem_append_left _ (List.mem_append_left _ (List.mem_append_left _ (List.mem_append_left _ (List.mem_append_left _ (List.mem_append_left _ (List.mem_append_right _ h)))))))))
theorem hinX11_nobody_X10 : ∀ w ∈ wsX100, w ∈ wsX11_nobody := fun _ h => List.mem_cons_of_mem _ (List.mem_append_left _ (List.mem_append_left _ (List.mem_append_left _ (List.mem_append_left _ (List.mem_append_left _ (List.mem_append_left _ (List.mem_append_left _ (List.mem_append_right _ h))))))))
theorem hinX11_nobody_X6 : ∀ w ∈ wsX60, w ∈ wsX11_nobody := fun _ h => List.mem_cons_of_mem _ (List.mem_append_left _ (List.mem_append_left _ (List.mem_append_left _ (List.mem_append_left _ (List.mem_append_left _ (List.mem_append_left _ (List.mem_append_right _ h)))))))
theorem hinX11_nobody_X0 : ∀ w ∈ wsX00, w ∈ wsX11_nobody := fun _ h => List.mem_cons_of_mem _ (List.mem_append_left _ (List.mem_append_left _ (List.mem_append_left _ (List.mem_append_left _ (List.mem_append_left _ (List.mem_append_right _ h))))))
theorem hinX11_nobody_X1 : ∀ w ∈ wsX10, w ∈ wsX11_nobody := fun _ h => List.mem_cons_of_mem _ (List.mem_append_left _ (List.mem_append_left _ (List.mem_append_left _ (List.mem_append_left _ (List.mem_append_right _ h)))))
theorem hinX11_nobody_X2 : ∀ w ∈ wsX20, w ∈ wsX11_nobody := fun _ h => List.mem_cons_of_mem _ (List.mem_append_left _ (List.mem_append_left _ (List.mem_append_left _ (List.mem_append_right _ h))))
theorem hinX11_nobody_X4 : ∀ w ∈ wsX40, w ∈ wsX11_nobody := fun _ h => List.mem_cons_of_mem _ (List.mem_append_left _ (List.mem_append_left _ (List.mem_append_right _ h)))
theorem hinX11_nobody_X7 : ∀ w ∈ wsX70, w ∈ wsX11_nobody := fun _ h => List.mem_cons_of_mem _ (List.mem_append_left _ (List.mem_append_right _ h))
theorem hinX11_nobody_X9 : ∀ w ∈ wsX90, w ∈ wsX11_nobody := fun _ h => List.mem_cons_of_mem _ (List.mem_append_right _ h)
def xX11_nobody (pT : zM) (pR : zM) (pB : zM) (pP : zP) (v1 : Int32) : Option (Int64 × zM × zM) :=
  (xX11_isNoPart v1).bind fun q1 =>
  if q1 = 0 then
  ((xX10_isWhole pT).bind fun q3 =>
  if q3 = 0 then
  ((xX11_refuseLong pB (-3 : Int32)).bind fun q9 =>
  some (q9.1, pR, q9.2))
  else
  (xX6_prepare pT pR pP).bind fun q5 =>
  (xX6_total pT q5 pP (2 : Int32) (-9 : Int32)).bind fun q6 =>
  (xX10_belowOf pT (0 : Int32)).bind fun q7 =>
  (xX11_leastTerms q6.1 q7 v1).bind fun q8 =>
  some (q8, q6.2, pB))
  else
  (xX11_refuseLong pB (-2 : Int32)).bind fun q10 =>
  some (q10.1, pR, q10.2)
set_option maxHeartbeats 4000000 in
set_option maxRecDepth 100000 in
theorem tX11_nobody {κ : Nat → ClassId} {tg : Nat} {S : zEn} {ad : Nat → Nat} (hEk : zEk (zE tg S)) {pT : zM} {pR : zM} {pX : zM} {pF : zM} {pB : zM} {pP : zP} {v1 : Int32} {res : (Int64 × zM × zM)} (h : xX11_nobody pT pR pB pP v1 = some res) (l : Launch) (D : va_G) : zCT (zE tg S) D vwCl (zty κ) l yX11_nobody wsX11_nobody ({ frames := 6, cells := 0, slots := 0, locals := 141 } : Room) 0 0 [.ref (ad 76), .int v1] (zwC κ ad pT pR pX pF pB pP) (zPd (some (.long res.1)) (zwC κ ad pT res.2.1 pX pF res.2.2 pP)) := by
  refine zCT.of (cc := cX11_nobody) (maxL := 2) (ret := (some .long)) (by decide) rfl (Nat.le_of_ble_eq_true rfl) ?_
  intro X hC hR
  unfold xX11_nobody at h
  refine zV.sub (lv' := [(0, .ref (ad 76)), (1, .int v1)]) [0, 1] rfl ?_
  refine zr_iload_n (pc := 0) hC 1 rfl rfl dX11_nobody_0 ?_
  obtain ⟨q1, hq1, h⟩ := zbd h
  refine zr_cSi (pc := 1) hC hEk [.int v1] [] 1 (fun l D => tX11_isNoPart hEk hq1 l D) gX11_nobody_X11_isNoPart rfl rfl rfl ⟨Nat.le_of_ble_eq_true rfl, Nat.le_of_ble_eq_true rfl⟩ hyX11_isNoPart rfl rfl (Nat.le_of_ble_eq_true rfl) ⟨Nat.le_of_ble_eq_true rfl, Nat.le_of_ble_eq_true rfl⟩ dX11_nobody_1 ?_
  refine zr_if_eq (pc := 4) (tgt := 14) hC dX11_nobody_4 (by decide) (fun c2 => ?_) (fun c2 => ?_)
  · replace h := zip h c2
    refine zr_aload_n (pc := 14) hC 0 rfl rfl dX11_nobody_14 ?_
    refine zcg_76_0 (pc := 15) hC hinX11_nobody_X11 flX11_nobody_59 dX11_nobody_15 ?_
    obtain ⟨q3, hq3, h⟩ := zbd h
    refine zr_cVi (pc := 18) hC hEk [] [] 0 0 (fun l D => tX10_isWhole hEk hq3 l D) gX11_nobody_X10_isWhole rfl rfl rfl ⟨Nat.le_of_ble_eq_true rfl, Nat.le_of_ble_eq_true rfl⟩ hyX10_isWhole (zNC (by decide)) entC_0 rfl rfl rfl (Nat.le_of_ble_eq_true rfl) ⟨Nat.le_of_ble_eq_true rfl, Nat.le_of_ble_eq_true rfl⟩ dX11_nobody_18 ?_
    refine zr_if_ne (pc := 21) (tgt := 31) hC dX11_nobody_21 (by decide) (fun c4 => ?_) (fun c4 => ?_)
    · replace h := zin h c4
      refine zr_aload_n (pc := 31) hC 0 rfl rfl dX11_nobody_31 ?_
      refine zcg_76_1 (pc := 32) hC hinX11_nobody_X11 flX11_nobody_68 dX11_nobody_32 ?_
      obtain ⟨q5, hq5, h⟩ := zbd h
      refine zr_cVv (pc := 35) hC hEk [] [] 62 0 (fun l D => tX6_prepare hEk hq5 l D) gX11_nobody_X6_prepare rfl rfl rfl ⟨Nat.le_of_ble_eq_true rfl, Nat.le_of_ble_eq_true rfl⟩ hyX6_prepare (zNC (by decide)) entC_62 rfl rfl rfl (Nat.le_of_ble_eq_true rfl) ⟨Nat.le_of_ble_eq_true rfl, Nat.le_of_ble_eq_true rfl⟩ dX11_nobody_35 ?_
      refine zr_aload_n (pc := 38) hC 0 rfl rfl dX11_nobody_38 ?_
      refine zcg_76_1 (pc := 39) hC hinX11_nobody_X11 flX11_nobody_68 dX11_nobody_39 ?_
      refine zr_iconst (pc := 42) hC zki_2 dX11_nobody_42 ?_
      refine zr_bipush (pc := 43) hC zkb_m9 dX11_nobody_43 ?_
      obtain ⟨q6, hq6, h⟩ := zbd h
      refine zr_cVl (pc := 45) hC hEk [.int (2 : Int32), .int (-9 : Int32)] [] 62 2 (fun l D => tX6_total hEk hq6 l D) gX11_nobody_X6_total rfl rfl rfl ⟨Nat.le_of_ble_eq_true rfl, Nat.le_of_ble_eq_true rfl⟩ hyX6_total (zNC (by decide)) entC_62 rfl rfl rfl (Nat.le_of_ble_eq_true rfl) ⟨Nat.le_of_ble_eq_true rfl, Nat.le_of_ble_eq_true rfl⟩ dX11_nobody_45 ?_
      refine zr_aload_n (pc := 48) hC 0 rfl rfl dX11_nobody_48 ?_
      refine zcg_76_0 (pc := 49) hC hinX11_nobody_X11 flX11_nobody_59 dX11_nobody_49 ?_
      refine zr_iconst (pc := 52) hC zki_0 dX11_nobody_52 ?_
      obtain ⟨q7, hq7, h⟩ := zbd h
      refine zr_cVl (pc := 53) hC hEk [.int (0 : Int32)] [.long q6.1] 0 1 (fun l D => tX10_belowOf hEk hq7 l D) gX11_nobody_X10_belowOf rfl rfl rfl ⟨Nat.le_of_ble_eq_true rfl, Nat.le_of_ble_eq_true rfl⟩ hyX10_belowOf (zNC (by decide)) entC_0 rfl rfl rfl (Nat.le_of_ble_eq_true rfl) ⟨Nat.le_of_ble_eq_true rfl, Nat.le_of_ble_eq_true rfl⟩ dX11_nobody_53 ?_
      refine zr_iload_n (pc := 56) hC 1 rfl rfl dX11_nobody_56 ?_
      obtain ⟨q8, hq8, h⟩ := zbd h
      refine zr_cSl (pc := 57) hC hEk [.long q6.1, .long q7, .int v1] [] 3 (fun l D => tX11_leastTerms hEk hq8 l D) gX11_nobody_X11_leastTerms rfl rfl rfl ⟨Nat.le_of_ble_eq_true rfl, Nat.le_of_ble_eq_true rfl⟩ hyX11_leastTerms rfl rfl (Nat.le_of_ble_eq_true rfl) ⟨Nat.le_of_ble_eq_true rfl, Nat.le_of_ble_eq_true rfl⟩ dX11_nobody_57 ?_
      obtain rfl := Option.some.inj h
      exact zr_lret hC hR ⟨rfl, rfl⟩ (Nat.le_refl _) (Nat.le_refl _) dX11_nobody_60
    · replace h := zip h c4
      refine zr_aload_n (pc := 24) hC 0 rfl rfl dX11_nobody_24 ?_
      refine zr_bipush (pc := 25) hC zkb_m3 dX11_nobody_25 ?_
      obtain ⟨q9, hq9, h⟩ := zbd h
      refine zr_cVl (pc := 27) hC hEk [.int (-3 : Int32)] [] 76 1 (fun l D => tX11_refuseLong hEk hq9 l D) gX11_nobody_X11_refuseLong rfl rfl rfl ⟨Nat.le_of_ble_eq_true rfl, Nat.le_of_ble_eq_true rfl⟩ hyX11_refuseLong (zNC (by decide)) entC_76 rfl rfl rfl (Nat.le_of_ble_eq_true rfl) ⟨Nat.le_of_ble_eq_true rfl, Nat.le_of_ble_eq_true rfl⟩ dX11_nobody_27 ?_
      obtain rfl := Option.some.inj h
      exact zr_lret hC hR ⟨rfl, rfl⟩ (Nat.le_refl _) (Nat.le_refl _) dX11_nobody_30
  · replace h := zin h c2
    refine zr_aload_n (pc := 7) hC 0 rfl rfl dX11_nobody_7 ?_
    refine zr_bipush (pc := 8) hC zkb_m2 dX11_nobody_8 ?_
    obtain ⟨q10, hq10, h⟩ := zbd h
    refine zr_cVl (pc := 10) hC hEk [.int (-2 : Int32)] [] 76 1 (fun l D => tX11_refuseLong hEk hq10 l D) gX11_nobody_X11_refuseLong rfl rfl rfl ⟨Nat.le_of_ble_eq_true rfl, Nat.le_of_ble_eq_true rfl⟩ hyX11_refuseLong (zNC (by decide)) entC_76 rfl rfl rfl (Nat.le_of_ble_eq_true rfl) ⟨Nat.le_of_ble_eq_true rfl, Nat.le_of_ble_eq_true rfl⟩ dX11_nobody_10 ?_
    obtain rfl := Option.some.inj h
    exact zr_lret hC hR ⟨rfl, rfl⟩ (Nat.le_refl _) (Nat.le_refl _) dX11_nobody_13
/-! X11_dull -/
theorem hyX11_dull : yX11_dull.cls = RX11 ∧ yX11_dull.cls ≠ "java/lang/invoke/MethodHandle" ∧ yX11_dull.cls ≠ "java/lang/invoke/VarHandle" ∧ (parseMethodDescriptor yX11_dull.desc).map (fun d => d.parameters.length) = some 1 := by decide +kernel
theorem flX11_dull_59 : Cond.fieldLink RX11 59 "BeforeTheEnd" "tree" "LBeforeTheEnd$Tree;" ∈ wsX11_dull := by decide +kernel
theorem flX11_dull_68 : Cond.fieldLink RX11 68 "BeforeTheEnd" "race" "LBeforeTheEnd$Race;" ∈ wsX11_dull := by decide +kernel
theorem hinX11_dull_X11 : ∀ w ∈ wsX110, w ∈ wsX11_dull := fun _ h => List.mem_cons_of_mem _ (List.mem_append_left _ (List.mem_append_left _ (List.mem_append_left _ (List.mem_append_left _ (List.mem_append_left _ (List.mem_append_left _ (List.mem_append_left _ (List.mem_append_left _ (List.mem_append_right _ h)))))))))
theorem hinX11_dull_X10 : ∀ w ∈ wsX100, w ∈ wsX11_dull := fun _ h => List.mem_cons_of_mem _ (List.mem_append_left _ (List.mem_append_left _ (List.mem_append_left _ (List.mem_append_left _ (List.mem_append_left _ (List.mem_append_left _ (List.mem_append_left _ (List.mem_append_right _ h))))))))
theorem hinX11_dull_X6 : ∀ w ∈ wsX60, w ∈ wsX11_dull := fun _ h => List.mem_cons_of_mem _ (List.mem_append_left _ (List.mem_append_left _ (List.mem_append_left _ (List.mem_append_left _ (List.mem_append_left _ (List.mem_append_left _ (List.mem_append_right _ h)))))))
theorem hinX11_dull_X0 : ∀ w ∈ wsX00, w ∈ wsX11_dull := fun _ h => List.mem_cons_of_mem _ (List.mem_append_left _ (List.mem_append_left _ (List.mem_append_left _ (List.mem_append_left _ (List.mem_append_left _ (List.mem_append_right _ h))))))
theorem hinX11_dull_X1 : ∀ w ∈ wsX10, w ∈ wsX11_dull := fun _ h => List.mem_cons_of_mem _ (List.mem_append_left _ (List.mem_append_left _ (List.mem_append_left _ (List.mem_append_left _ (List.mem_append_right _ h)))))
theorem hinX11_dull_X2 : ∀ w ∈ wsX20, w ∈ wsX11_dull := fun _ h => List.mem_cons_of_mem _ (List.mem_append_left _ (List.mem_append_left _ (List.mem_append_left _ (List.mem_append_right _ h))))
theorem hinX11_dull_X4 : ∀ w ∈ wsX40, w ∈ wsX11_dull := fun _ h => List.mem_cons_of_mem _ (List.mem_append_left _ (List.mem_append_left _ (List.mem_append_right _ h)))
theorem hinX11_dull_X7 : ∀ w ∈ wsX70, w ∈ wsX11_dull := fun _ h => List.mem_cons_of_mem _ (List.mem_append_left _ (List.mem_append_right _ h))
theorem hinX11_dull_X9 : ∀ w ∈ wsX90, w ∈ wsX11_dull := fun _ h => List.mem_cons_of_mem _ (List.mem_append_right _ h)
def xX11_dull (pT : zM) (pR : zM) (pB : zM) (pP : zP) (v1 : Int32) : Option (Int64 × zM × zM) :=
  (xX11_isNoPart v1).bind fun q1 =>
  if q1 = 0 then
  ((xX10_isWhole pT).bind fun q3 =>
  if q3 = 0 then
  ((xX11_refuseLong pB (-3 : Int32)).bind fun q9 =>
  some (q9.1, pR, q9.2))
  else
  (xX6_prepare pT pR pP).bind fun q5 =>
  (xX6_dullTotal pT q5).bind fun q6 =>
  (xX10_belowOf pT (0 : Int32)).bind fun q7 =>
  (xX11_leastTerms q6 q7 v1).bind fun q8 =>
  some (q8, q5, pB))
  else
  (xX11_refuseLong pB (-2 : Int32)).bind fun q10 =>
  some (q10.1, pR, q10.2)
set_option maxHeartbeats 4000000 in
set_option maxRecDepth 100000 in
theorem tX11_dull {κ : Nat → ClassId} {tg : Nat} {S : zEn} {ad : Nat → Nat} (hEk : zEk (zE tg S)) {pT : zM} {pR : zM} {pX : zM} {pF : zM} {pB : zM} {pP : zP} {v1 : Int32} {res : (Int64 × zM × zM)} (h : xX11_dull pT pR pB pP v1 = some res) (l : Launch) (D : va_G) : zCT (zE tg S) D vwCl (zty κ) l yX11_dull wsX11_dull ({ frames := 6, cells := 0, slots := 0, locals := 141 } : Room) 0 0 [.ref (ad 76), .int v1] (zwC κ ad pT pR pX pF pB pP) (zPd (some (.long res.1)) (zwC κ ad pT res.2.1 pX pF res.2.2 pP)) := by
  refine zCT.of (cc := cX11_dull) (maxL := 2) (ret := (some .long)) (by decide) rfl (Nat.le_of_ble_eq_true rfl) ?_
  intro X hC hR
  unfold xX11_dull at h
  refine zV.sub (lv' := [(0, .ref (ad 76)), (1, .int v1)]) [0, 1] rfl ?_
  refine zr_iload_n (pc := 0) hC 1 rfl rfl dX11_dull_0 ?_
  obtain ⟨q1, hq1, h⟩ := zbd h
  refine zr_cSi (pc := 1) hC hEk [.int v1] [] 1 (fun l D => tX11_isNoPart hEk hq1 l D) gX11_dull_X11_isNoPart rfl rfl rfl ⟨Nat.le_of_ble_eq_true rfl, Nat.le_of_ble_eq_true rfl⟩ hyX11_isNoPart rfl rfl (Nat.le_of_ble_eq_true rfl) ⟨Nat.le_of_ble_eq_true rfl, Nat.le_of_ble_eq_true rfl⟩ dX11_dull_1 ?_
  refine zr_if_eq (pc := 4) (tgt := 14) hC dX11_dull_4 (by decide) (fun c2 => ?_) (fun c2 => ?_)
  · replace h := zip h c2
    refine zr_aload_n (pc := 14) hC 0 rfl rfl dX11_dull_14 ?_
    refine zcg_76_0 (pc := 15) hC hinX11_dull_X11 flX11_dull_59 dX11_dull_15 ?_
    obtain ⟨q3, hq3, h⟩ := zbd h
    refine zr_cVi (pc := 18) hC hEk [] [] 0 0 (fun l D => tX10_isWhole hEk hq3 l D) gX11_dull_X10_isWhole rfl rfl rfl ⟨Nat.le_of_ble_eq_true rfl, Nat.le_of_ble_eq_true rfl⟩ hyX10_isWhole (zNC (by decide)) entC_0 rfl rfl rfl (Nat.le_of_ble_eq_true rfl) ⟨Nat.le_of_ble_eq_true rfl, Nat.le_of_ble_eq_true rfl⟩ dX11_dull_18 ?_
    refine zr_if_ne (pc := 21) (tgt := 31) hC dX11_dull_21 (by decide) (fun c4 => ?_) (fun c4 => ?_)
    · replace h := zin h c4
      refine zr_aload_n (pc := 31) hC 0 rfl rfl dX11_dull_31 ?_
      refine zcg_76_1 (pc := 32) hC hinX11_dull_X11 flX11_dull_68 dX11_dull_32 ?_
      obtain ⟨q5, hq5, h⟩ := zbd h
      refine zr_cVv (pc := 35) hC hEk [] [] 62 0 (fun l D => tX6_prepare hEk hq5 l D) gX11_dull_X6_prepare rfl rfl rfl ⟨Nat.le_of_ble_eq_true rfl, Nat.le_of_ble_eq_true rfl⟩ hyX6_prepare (zNC (by decide)) entC_62 rfl rfl rfl (Nat.le_of_ble_eq_true rfl) ⟨Nat.le_of_ble_eq_true rfl, Nat.le_of_ble_eq_true rfl⟩ dX11_dull_35 ?_
      refine zr_aload_n (pc := 38) hC 0 rfl rfl dX11_dull_38 ?_
      refine zcg_76_1 (pc := 39) hC hinX11_dull_X11 flX11_dull_68 dX11_dull_39 ?_
      obtain ⟨q6, hq6, h⟩ := zbd h
      refine zr_cVl (pc := 42) hC hEk [] [] 62 0 (fun l D => tX6_dullTotal hEk hq6 l D) gX11_dull_X6_dullTotal rfl rfl rfl ⟨Nat.le_of_ble_eq_true rfl, Nat.le_of_ble_eq_true rfl⟩ hyX6_dullTotal (zNC (by decide)) entC_62 rfl rfl rfl (Nat.le_of_ble_eq_true rfl) ⟨Nat.le_of_ble_eq_true rfl, Nat.le_of_ble_eq_true rfl⟩ dX11_dull_42 ?_
      refine zr_aload_n (pc := 45) hC 0 rfl rfl dX11_dull_45 ?_
      refine zcg_76_0 (pc := 46) hC hinX11_dull_X11 flX11_dull_59 dX11_dull_46 ?_
      refine zr_iconst (pc := 49) hC zki_0 dX11_dull_49 ?_
      obtain ⟨q7, hq7, h⟩ := zbd h
      refine zr_cVl (pc := 50) hC hEk [.int (0 : Int32)] [.long q6] 0 1 (fun l D => tX10_belowOf hEk hq7 l D) gX11_dull_X10_belowOf rfl rfl rfl ⟨Nat.le_of_ble_eq_true rfl, Nat.le_of_ble_eq_true rfl⟩ hyX10_belowOf (zNC (by decide)) entC_0 rfl rfl rfl (Nat.le_of_ble_eq_true rfl) ⟨Nat.le_of_ble_eq_true rfl, Nat.le_of_ble_eq_true rfl⟩ dX11_dull_50 ?_
      refine zr_iload_n (pc := 53) hC 1 rfl rfl dX11_dull_53 ?_
      obtain ⟨q8, hq8, h⟩ := zbd h
      refine zr_cSl (pc := 54) hC hEk [.long q6, .long q7, .int v1] [] 3 (fun l D => tX11_leastTerms hEk hq8 l D) gX11_dull_X11_leastTerms rfl rfl rfl ⟨Nat.le_of_ble_eq_true rfl, Nat.le_of_ble_eq_true rfl⟩ hyX11_leastTerms rfl rfl (Nat.le_of_ble_eq_true rfl) ⟨Nat.le_of_ble_eq_true rfl, Nat.le_of_ble_eq_true rfl⟩ dX11_dull_54 ?_
      obtain rfl := Option.some.inj h
      exact zr_lret hC hR ⟨rfl, rfl⟩ (Nat.le_refl _) (Nat.le_refl _) dX11_dull_57
    · replace h := zip h c4
      refine zr_aload_n (pc := 24) hC 0 rfl rfl dX11_dull_24 ?_
      refine zr_bipush (pc := 25) hC zkb_m3 dX11_dull_25 ?_
      obtain ⟨q9, hq9, h⟩ := zbd h
      refine zr_cVl (pc := 27) hC hEk [.int (-3 : Int32)] [] 76 1 (fun l D => tX11_refuseLong hEk hq9 l D) gX11_dull_X11_refuseLong rfl rfl rfl ⟨Nat.le_of_ble_eq_true rfl, Nat.le_of_ble_eq_true rfl⟩ hyX11_refuseLong (zNC (by decide)) entC_76 rfl rfl rfl (Nat.le_of_ble_eq_true rfl) ⟨Nat.le_of_ble_eq_true rfl, Nat.le_of_ble_eq_true rfl⟩ dX11_dull_27 ?_
      obtain rfl := Option.some.inj h
      exact zr_lret hC hR ⟨rfl, rfl⟩ (Nat.le_refl _) (Nat.le_refl _) dX11_dull_30
  · replace h := zin h c2
    refine zr_aload_n (pc := 7) hC 0 rfl rfl dX11_dull_7 ?_
    refine zr_bipush (pc := 8) hC zkb_m2 dX11_dull_8 ?_
    obtain ⟨q10, hq10, h⟩ := zbd h
    refine zr_cVl (pc := 10) hC hEk [.int (-2 : Int32)] [] 76 1 (fun l D => tX11_refuseLong hEk hq10 l D) gX11_dull_X11_refuseLong rfl rfl rfl ⟨Nat.le_of_ble_eq_true rfl, Nat.le_of_ble_eq_true rfl⟩ hyX11_refuseLong (zNC (by decide)) entC_76 rfl rfl rfl (Nat.le_of_ble_eq_true rfl) ⟨Nat.le_of_ble_eq_true rfl, Nat.le_of_ble_eq_true rfl⟩ dX11_dull_10 ?_
    obtain rfl := Option.some.inj h
    exact zr_lret hC hR ⟨rfl, rfl⟩ (Nat.le_refl _) (Nat.le_refl _) dX11_dull_13
/-! X11_value -/
theorem hyX11_value : yX11_value.cls = RX11 ∧ yX11_value.cls ≠ "java/lang/invoke/MethodHandle" ∧ yX11_value.cls ≠ "java/lang/invoke/VarHandle" ∧ (parseMethodDescriptor yX11_value.desc).map (fun d => d.parameters.length) = some 3 := by decide +kernel
theorem flX11_value_130 : Cond.fieldLink RX11 130 "BeforeTheEnd$Player" "knows" "I" ∈ wsX11_value := by decide +kernel
theorem flX11_value_59 : Cond.fieldLink RX11 59 "BeforeTheEnd" "tree" "LBeforeTheEnd$Tree;" ∈ wsX11_value := by decide +kernel
theorem flX11_value_68 : Cond.fieldLink RX11 68 "BeforeTheEnd" "race" "LBeforeTheEnd$Race;" ∈ wsX11_value := by decide +kernel
theorem hinX11_value_X11 : ∀ w ∈ wsX110, w ∈ wsX11_value := fun _ h => List.mem_cons_of_mem _ (List.mem_append_left _ (List.mem_append_left _ (List.mem_append_left _ (List.mem_append_left _ (List.mem_append_left _ (List.mem_append_left _ (List.mem_append_left _ (List.mem_append_left _ (List.mem_append_right _ h)))))))))
theorem hinX11_value_X0 : ∀ w ∈ wsX00, w ∈ wsX11_value := fun _ h => List.mem_cons_of_mem _ (List.mem_append_left _ (List.mem_append_left _ (List.mem_append_left _ (List.mem_append_left _ (List.mem_append_left _ (List.mem_append_left _ (List.mem_append_left _ (List.mem_append_right _ h))))))))
theorem hinX11_value_X1 : ∀ w ∈ wsX10, w ∈ wsX11_value := fun _ h => List.mem_cons_of_mem _ (List.mem_append_left _ (List.mem_append_left _ (List.mem_append_left _ (List.mem_append_left _ (List.mem_append_left _ (List.mem_append_left _ (List.mem_append_right _ h)))))))
theorem hinX11_value_X2 : ∀ w ∈ wsX20, w ∈ wsX11_value := fun _ h => List.mem_cons_of_mem _ (List.mem_append_left _ (List.mem_append_left _ (List.mem_append_left _ (List.mem_append_left _ (List.mem_append_left _ (List.mem_append_right _ h))))))
theorem hinX11_value_X4 : ∀ w ∈ wsX40, w ∈ wsX11_value := fun _ h => List.mem_cons_of_mem _ (List.mem_append_left _ (List.mem_append_left _ (List.mem_append_left _ (List.mem_append_left _ (List.mem_append_right _ h)))))
theorem hinX11_value_X7 : ∀ w ∈ wsX70, w ∈ wsX11_value := fun _ h => List.mem_cons_of_mem _ (List.mem_append_left _ (List.mem_append_left _ (List.mem_append_left _ (List.mem_append_right _ h))))
theorem hinX11_value_X9 : ∀ w ∈ wsX90, w ∈ wsX11_value := fun _ h => List.mem_cons_of_mem _ (List.mem_append_left _ (List.mem_append_left _ (List.mem_append_right _ h)))
theorem hinX11_value_X6 : ∀ w ∈ wsX60, w ∈ wsX11_value := fun _ h => List.mem_cons_of_mem _ (List.mem_append_left _ (List.mem_append_right _ h))
theorem hinX11_value_X10 : ∀ w ∈ wsX100, w ∈ wsX11_value := fun _ h => List.mem_cons_of_mem _ (List.mem_append_right _ h)
def xX11_value (pT : zM) (pR : zM) (pB : zM) (pP : zP) (v1 : Int32) (v2 : Int32) (v3 : Int32) : Option (Int64 × zM × zM) :=
  (xX6_playerAt pR pP v1).bind fun q1 =>
  zon q1
  ((xX11_refuseLong pB (-1 : Int32)).bind fun q5 =>
  some (q5.1, pR, q5.2))
  (fun a2 => if pP.2.2.2 ≤ a2 then none else
  (xX10_has pT v2).bind fun q6 =>
  if q6 = 0 then
  ((xX11_refuseLong pB (-1 : Int32)).bind fun q18 =>
  some (q18.1, pR, q18.2))
  else
  (xX11_isNoPart v3).bind fun q8 =>
  if q8 = 0 then
  ((xX10_isWhole pT).bind fun q10 =>
  if q10 = 0 then
  ((xX11_refuseLong pB (-3 : Int32)).bind fun q16 =>
  some (q16.1, pR, q16.2))
  else
  (xX6_aloneSet pT pR (pP.2.2.1 a2 2)).bind fun q12 =>
  (xX6_valueOf q12.2 v2).bind fun q13 =>
  (xX10_belowOf pT v2).bind fun q14 =>
  (xX11_leastTerms q13 q14 v3).bind fun q15 =>
  some (q15, q12.2, pB))
  else
  (xX11_refuseLong pB (-2 : Int32)).bind fun q17 =>
  some (q17.1, pR, q17.2))
set_option maxHeartbeats 4000000 in
set_option maxRecDepth 100000 in
theorem tX11_value {κ : Nat → ClassId} {tg : Nat} {S : zEn} {ad : Nat → Nat} (hEk : zEk (zE tg S)) {pT : zM} {pR : zM} {pX : zM} {pF : zM} {pB : zM} {pP : zP} {v1 : Int32} {v2 : Int32} {v3 : Int32} {res : (Int64 × zM × zM)} (h : xX11_value pT pR pB pP v1 v2 v3 = some res) (l : Launch) (D : va_G) : zCT (zE tg S) D vwCl (zty κ) l yX11_value wsX11_value ({ frames := 3, cells := 0, slots := 0, locals := 75 } : Room) 0 0 [.ref (ad 76), .int v1, .int v2, .int v3] (zwC κ ad pT pR pX pF pB pP) (zPd (some (.long res.1)) (zwC κ ad pT res.2.1 pX pF res.2.2 pP)) := by
  refine zCT.of (cc := cX11_value) (maxL := 5) (ret := (some .long)) (by decide) rfl (Nat.le_of_ble_eq_true rfl) ?_
  intro X hC hR
  unfold xX11_value at h
  refine zV.sub (lv' := [(0, .ref (ad 76)), (1, .int v1), (2, .int v2), (3, .int v3)]) [0, 1, 2, 3] rfl ?_
  refine zr_aload_n (pc := 0) hC 0 rfl rfl dX11_value_0 ?_
  refine zcg_76_1 (pc := 1) hC hinX11_value_X11 flX11_value_68 dX11_value_1 ?_
  refine zr_iload_n (pc := 4) hC 1 rfl rfl dX11_value_4 ?_
  obtain ⟨q1, hq1, h⟩ := zbd h
  refine zr_cVr (pc := 5) hC hEk [.int v1] [] 62 1 (fun l D => tX6_playerAt hEk hq1 l D) gX11_value_X6_playerAt rfl rfl rfl ⟨Nat.le_of_ble_eq_true rfl, Nat.le_of_ble_eq_true rfl⟩ hyX6_playerAt (zNC (by decide)) entC_62 rfl rfl rfl (Nat.le_of_ble_eq_true rfl) ⟨Nat.le_of_ble_eq_true rfl, Nat.le_of_ble_eq_true rfl⟩ dX11_value_5 ?_
  refine zr_astoreO (pc := 8) (lv' := [(4, va_rf (q1.map (fun a => ad (81 + a)))), (0, .ref (ad 76)), (1, .int v1), (2, .int v2), (3, .int v3)]) hC (by decide) rfl dX11_value_8 ?_
  refine zr_aloadO (pc := 10) hC 0 rfl dX11_value_10 ?_
  refine zr_ifnullM (pc := 12) (tgt := 26) hC dX11_value_12 (by decide) (fun e3 => ?_) (fun a2 e3 => ?_)
  · replace h := zon_n e3 h
    subst e3
    show zV X 0 0 (zwC κ ad pT pR pX pF q5.2 pP) [(4, va_rf ((none : Option Nat).map (fun a => ad (81 + a)))), (0, .ref (ad 76)), (1, .int v1), (2, .int v2), (3, .int v3)] [] 26
    refine zr_aload_n (pc := 26) hC 1 rfl rfl dX11_value_26 ?_
    refine zr_iconst (pc := 27) hC zki_m1 dX11_value_27 ?_
    obtain ⟨q5, hq5, h⟩ := zbd h
    refine zr_cVl (pc := 28) hC hEk [.int (-1 : Int32)] [] 76 1 (fun l D => tX11_refuseLong hEk hq5 l D) gX11_value_X11_refuseLong rfl rfl rfl ⟨Nat.le_of_ble_eq_true rfl, Nat.le_of_ble_eq_true rfl⟩ hyX11_refuseLong (zNC (by decide)) entC_76 rfl rfl rfl (Nat.le_of_ble_eq_true rfl) ⟨Nat.le_of_ble_eq_true rfl, Nat.le_of_ble_eq_true rfl⟩ dX11_value_28 ?_
    obtain rfl := Option.some.inj h
    exact zr_lret hC hR ⟨rfl, rfl⟩ (Nat.le_refl _) (Nat.le_refl _) dX11_value_31
  · replace h := zon_s e3 h
    subst e3
    obtain ⟨i4, h⟩ := zgd h
    show zV X 0 0 (zwC κ ad pT pR pX pF q18.2 pP) [(4, .ref (ad (81 + a2))), (0, .ref (ad 76)), (1, .int v1), (2, .int v2), (3, .int v3)] [] 15
    refine zr_aload_n (pc := 15) hC 1 rfl rfl dX11_value_15 ?_
    refine zcg_76_0 (pc := 16) hC hinX11_value_X11 flX11_value_59 dX11_value_16 ?_
    refine zr_iload_n (pc := 19) hC 3 rfl rfl dX11_value_19 ?_
    obtain ⟨q6, hq6, h⟩ := zbd h
    refine zr_cVi (pc := 20) hC hEk [.int v2] [] 0 1 (fun l D => tX10_has hEk hq6 l D) gX11_value_X10_has rfl rfl rfl ⟨Nat.le_of_ble_eq_true rfl, Nat.le_of_ble_eq_true rfl⟩ hyX10_has (zNC (by decide)) entC_0 rfl rfl rfl (Nat.le_of_ble_eq_true rfl) ⟨Nat.le_of_ble_eq_true rfl, Nat.le_of_ble_eq_true rfl⟩ dX11_value_20 ?_
    refine zr_if_ne (pc := 23) (tgt := 32) hC dX11_value_23 (by decide) (fun c7 => ?_) (fun c7 => ?_)
    · replace h := zin h c7
      refine zr_iload_n (pc := 32) hC 4 rfl rfl dX11_value_32 ?_
      obtain ⟨q8, hq8, h⟩ := zbd h
      refine zr_cSi (pc := 33) hC hEk [.int v3] [] 1 (fun l D => tX11_isNoPart hEk hq8 l D) gX11_value_X11_isNoPart rfl rfl rfl ⟨Nat.le_of_ble_eq_true rfl, Nat.le_of_ble_eq_true rfl⟩ hyX11_isNoPart rfl rfl (Nat.le_of_ble_eq_true rfl) ⟨Nat.le_of_ble_eq_true rfl, Nat.le_of_ble_eq_true rfl⟩ dX11_value_33 ?_
      refine zr_if_eq (pc := 36) (tgt := 46) hC dX11_value_36 (by decide) (fun c9 => ?_) (fun c9 => ?_)
      · replace h := zip h c9
        refine zr_aload_n (pc := 46) hC 1 rfl rfl dX11_value_46 ?_
        refine zcg_76_0 (pc := 47) hC hinX11_value_X11 flX11_value_59 dX11_value_47 ?_
        obtain ⟨q10, hq10, h⟩ := zbd h
        refine zr_cVi (pc := 50) hC hEk [] [] 0 0 (fun l D => tX10_isWhole hEk hq10 l D) gX11_value_X10_isWhole rfl rfl rfl ⟨Nat.le_of_ble_eq_true rfl, Nat.le_of_ble_eq_true rfl⟩ hyX10_isWhole (zNC (by decide)) entC_0 rfl rfl rfl (Nat.le_of_ble_eq_true rfl) ⟨Nat.le_of_ble_eq_true rfl, Nat.le_of_ble_eq_true rfl⟩ dX11_value_50 ?_
        refine zr_if_ne (pc := 53) (tgt := 63) hC dX11_value_53 (by decide) (fun c11 => ?_) (fun c11 => ?_)
        · replace h := zin h c11
          refine zr_aload_n (pc := 63) hC 1 rfl rfl dX11_value_63 ?_
          refine zcg_76_1 (pc := 64) hC hinX11_value_X11 flX11_value_68 dX11_value_64 ?_
          refine zr_aload (pc := 67) hC 0 rfl dX11_value_67 ?_
          refine zpg_2 (pc := 69) hC hinX11_value_X2 hinX11_value_X7 hinX11_value_X1 hinX11_value_X4 hinX11_value_X9 hinX11_value_X0 flX11_value_130 i4 dX11_value_69 ?_
          obtain ⟨q12, hq12, h⟩ := zbd h
          refine zr_cVi (pc := 72) hC hEk [.int (pP.2.2.1 a2 2)] [] 62 1 (fun l D => tX6_aloneSet hEk hq12 l D) gX11_value_X6_aloneSet rfl rfl rfl ⟨Nat.le_of_ble_eq_true rfl, Nat.le_of_ble_eq_true rfl⟩ hyX6_aloneSet (zNC (by decide)) entC_62 rfl rfl rfl (Nat.le_of_ble_eq_true rfl) ⟨Nat.le_of_ble_eq_true rfl, Nat.le_of_ble_eq_true rfl⟩ dX11_value_72 ?_
          refine zr_pop (pc := 75) hC rfl dX11_value_75 ?_
          refine zr_aload_n (pc := 76) hC 1 rfl rfl dX11_value_76 ?_
          refine zcg_76_1 (pc := 77) hC hinX11_value_X11 flX11_value_68 dX11_value_77 ?_
          refine zr_iload_n (pc := 80) hC 3 rfl rfl dX11_value_80 ?_
          obtain ⟨q13, hq13, h⟩ := zbd h
          refine zr_cVl (pc := 81) hC hEk [.int v2] [] 62 1 (fun l D => tX6_valueOf hEk hq13 l D) gX11_value_X6_valueOf rfl rfl rfl ⟨Nat.le_of_ble_eq_true rfl, Nat.le_of_ble_eq_true rfl⟩ hyX6_valueOf (zNC (by decide)) entC_62 rfl rfl rfl (Nat.le_of_ble_eq_true rfl) ⟨Nat.le_of_ble_eq_true rfl, Nat.le_of_ble_eq_true rfl⟩ dX11_value_81 ?_
          refine zr_aload_n (pc := 84) hC 1 rfl rfl dX11_value_84 ?_
          refine zcg_76_0 (pc := 85) hC hinX11_value_X11 flX11_value_59 dX11_value_85 ?_
          refine zr_iload_n (pc := 88) hC 3 rfl rfl dX11_value_88 ?_
          obtain ⟨q14, hq14, h⟩ := zbd h
          refine zr_cVl (pc := 89) hC hEk [.int v2] [.long q13] 0 1 (fun l D => tX10_belowOf hEk hq14 l D) gX11_value_X10_belowOf rfl rfl rfl ⟨Nat.le_of_ble_eq_true rfl, Nat.le_of_ble_eq_true rfl⟩ hyX10_belowOf (zNC (by decide)) entC_0 rfl rfl rfl (Nat.le_of_ble_eq_true rfl) ⟨Nat.le_of_ble_eq_true rfl, Nat.le_of_ble_eq_true rfl⟩ dX11_value_89 ?_
          refine zr_iload_n (pc := 92) hC 4 rfl rfl dX11_value_92 ?_
          obtain ⟨q15, hq15, h⟩ := zbd h
          refine zr_cSl (pc := 93) hC hEk [.long q13, .long q14, .int v3] [] 3 (fun l D => tX11_leastTerms hEk hq15 l D) gX11_value_X11_leastTerms rfl rfl rfl ⟨Nat.le_of_ble_eq_true rfl, Nat.le_of_ble_eq_true rfl⟩ hyX11_leastTerms rfl rfl (Nat.le_of_ble_eq_true rfl) ⟨Nat.le_of_ble_eq_true rfl, Nat.le_of_ble_eq_true rfl⟩ dX11_value_93 ?_
          obtain rfl := Option.some.inj h
          exact zr_lret hC hR ⟨rfl, rfl⟩ (Nat.le_refl _) (Nat.le_refl _) dX11_value_96
        · replace h := zip h c11
          refine zr_aload_n (pc := 56) hC 1 rfl rfl dX11_value_56 ?_
          refine zr_bipush (pc := 57) hC zkb_m3 dX11_value_57 ?_
          obtain ⟨q16, hq16, h⟩ := zbd h
          refine zr_cVl (pc := 59) hC hEk [.int (-3 : Int32)] [] 76 1 (fun l D => tX11_refuseLong hEk hq16 l D) gX11_value_X11_refuseLong rfl rfl rfl ⟨Nat.le_of_ble_eq_true rfl, Nat.le_of_ble_eq_true rfl⟩ hyX11_refuseLong (zNC (by decide)) entC_76 rfl rfl rfl (Nat.le_of_ble_eq_true rfl) ⟨Nat.le_of_ble_eq_true rfl, Nat.le_of_ble_eq_true rfl⟩ dX11_value_59 ?_
          obtain rfl := Option.some.inj h
          exact zr_lret hC hR ⟨rfl, rfl⟩ (Nat.le_refl _) (Nat.le_refl _) dX11_value_62
      · replace h := zin h c9
        refine zr_aload_n (pc := 39) hC 1 rfl rfl dX11_value_39 ?_
        refine zr_bipush (pc := 40) hC zkb_m2 dX11_value_40 ?_
        obtain ⟨q17, hq17, h⟩ := zbd h
        refine zr_cVl (pc := 42) hC hEk [.int (-2 : Int32)] [] 76 1 (fun l D => tX11_refuseLong hEk hq17 l D) gX11_value_X11_refuseLong rfl rfl rfl ⟨Nat.le_of_ble_eq_true rfl, Nat.le_of_ble_eq_true rfl⟩ hyX11_refuseLong (zNC (by decide)) entC_76 rfl rfl rfl (Nat.le_of_ble_eq_true rfl) ⟨Nat.le_of_ble_eq_true rfl, Nat.le_of_ble_eq_true rfl⟩ dX11_value_42 ?_
        obtain rfl := Option.some.inj h
        exact zr_lret hC hR ⟨rfl, rfl⟩ (Nat.le_refl _) (Nat.le_refl _) dX11_value_45
    · replace h := zip h c7
      refine zr_aload_n (pc := 26) hC 1 rfl rfl dX11_value_26 ?_
      refine zr_iconst (pc := 27) hC zki_m1 dX11_value_27 ?_
      obtain ⟨q18, hq18, h⟩ := zbd h
      refine zr_cVl (pc := 28) hC hEk [.int (-1 : Int32)] [] 76 1 (fun l D => tX11_refuseLong hEk hq18 l D) gX11_value_X11_refuseLong rfl rfl rfl ⟨Nat.le_of_ble_eq_true rfl, Nat.le_of_ble_eq_true rfl⟩ hyX11_refuseLong (zNC (by decide)) entC_76 rfl rfl rfl (Nat.le_of_ble_eq_true rfl) ⟨Nat.le_of_ble_eq_true rfl, Nat.le_of_ble_eq_true rfl⟩ dX11_value_28 ?_
      obtain rfl := Option.some.inj h
      exact zr_lret hC hR ⟨rfl, rfl⟩ (Nat.le_refl _) (Nat.le_refl _) dX11_value_31
/-! X11_alone -/
theorem hyX11_alone : yX11_alone.cls = RX11 ∧ yX11_alone.cls ≠ "java/lang/invoke/MethodHandle" ∧ yX11_alone.cls ≠ "java/lang/invoke/VarHandle" ∧ (parseMethodDescriptor yX11_alone.desc).map (fun d => d.parameters.length) = some 1 := by decide +kernel
theorem flX11_alone_130 : Cond.fieldLink RX11 130 "BeforeTheEnd$Player" "knows" "I" ∈ wsX11_alone := by decide +kernel
theorem flX11_alone_59 : Cond.fieldLink RX11 59 "BeforeTheEnd" "tree" "LBeforeTheEnd$Tree;" ∈ wsX11_alone := by decide +kernel
theorem flX11_alone_68 : Cond.fieldLink RX11 68 "BeforeTheEnd" "race" "LBeforeTheEnd$Race;" ∈ wsX11_alone := by decide +kernel
theorem hinX11_alone_X11 : ∀ w ∈ wsX110, w ∈ wsX11_alone := fun _ h => List.mem_cons_of_mem _ (List.mem_append_left _ (List.mem_append_left _ (List.mem_append_left _ (List.mem_append_left _ (List.mem_append_left _ (List.mem_append_left _ (List.mem_append_left _ (List.mem_append_left _ (List.mem_append_right _ h)))))))))
theorem hinX11_alone_X0 : ∀ w ∈ wsX00, w ∈ wsX11_alone := fun _ h => List.mem_cons_of_mem _ (List.mem_append_left _ (List.mem_append_left _ (List.mem_append_left _ (List.mem_append_left _ (List.mem_append_left _ (List.mem_append_left _ (List.mem_append_left _ (List.mem_append_right _ h))))))))
theorem hinX11_alone_X1 : ∀ w ∈ wsX10, w ∈ wsX11_alone := fun _ h => List.mem_cons_of_mem _ (List.mem_append_left _ (List.mem_append_left _ (List.mem_append_left _ (List.mem_append_left _ (List.mem_append_left _ (List.mem_append_left _ (List.mem_append_right _ h)))))))
theorem hinX11_alone_X2 : ∀ w ∈ wsX20, w ∈ wsX11_alone := fun _ h => List.mem_cons_of_mem _ (List.mem_append_left _ (List.mem_append_left _ (List.mem_append_left _ (List.mem_append_left _ (List.mem_append_left _ (List.mem_append_right _ h))))))
theorem hinX11_alone_X4 : ∀ w ∈ wsX40, w ∈ wsX11_alone := fun _ h => List.mem_cons_of_mem _ (List.mem_append_left _ (List.mem_append_left _ (List.mem_append_left _ (List.mem_append_left _ (List.mem_append_right _ h)))))
theorem hinX11_alone_X7 : ∀ w ∈ wsX70, w ∈ wsX11_alone := fun _ h => List.mem_cons_of_mem _ (List.mem_append_left _ (List.mem_append_left _ (List.mem_append_left _ (List.mem_append_right _ h))))
theorem hinX11_alone_X9 : ∀ w ∈ wsX90, w ∈ wsX11_alone := fun _ h => List.mem_cons_of_mem _ (List.mem_append_left _ (List.mem_append_left _ (List.mem_append_right _ h)))
theorem hinX11_alone_X6 : ∀ w ∈ wsX60, w ∈ wsX11_alone := fun _ h => List.mem_cons_of_mem _ (List.mem_append_left _ (List.mem_append_right _ h))
theorem hinX11_alone_X10 : ∀ w ∈ wsX100, w ∈ wsX11_alone := fun _ h => List.mem_cons_of_mem _ (List.mem_append_right _ h)
def xX11_alone (pT : zM) (pR : zM) (pB : zM) (pP : zP) (v1 : Int32) : Option (Int32 × zM × zM) :=
  (xX6_playerAt pR pP v1).bind fun q1 =>
  zon q1
  ((xX11_refuse pB (-1 : Int32)).bind fun q5 =>
  some (q5.1, pR, q5.2))
  (fun a2 => if pP.2.2.2 ≤ a2 then none else
  (xX10_isWhole pT).bind fun q6 =>
  if q6 = 0 then
  ((xX11_refuse pB (-3 : Int32)).bind fun q9 =>
  some (q9.1, pR, q9.2))
  else
  (xX6_aloneSet pT pR (pP.2.2.1 a2 2)).bind fun q8 =>
  some (q8.1, q8.2, pB))
set_option maxHeartbeats 4000000 in
set_option maxRecDepth 100000 in
theorem tX11_alone {κ : Nat → ClassId} {tg : Nat} {S : zEn} {ad : Nat → Nat} (hEk : zEk (zE tg S)) {pT : zM} {pR : zM} {pX : zM} {pF : zM} {pB : zM} {pP : zP} {v1 : Int32} {res : (Int32 × zM × zM)} (h : xX11_alone pT pR pB pP v1 = some res) (l : Launch) (D : va_G) : zCT (zE tg S) D vwCl (zty κ) l yX11_alone wsX11_alone ({ frames := 3, cells := 0, slots := 0, locals := 73 } : Room) 0 0 [.ref (ad 76), .int v1] (zwC κ ad pT pR pX pF pB pP) (zPd (some (.int res.1)) (zwC κ ad pT res.2.1 pX pF res.2.2 pP)) := by
  refine zCT.of (cc := cX11_alone) (maxL := 3) (ret := (some .int)) (by decide) rfl (Nat.le_of_ble_eq_true rfl) ?_
  intro X hC hR
  unfold xX11_alone at h
  refine zV.sub (lv' := [(0, .ref (ad 76)), (1, .int v1)]) [0, 1] rfl ?_
  refine zr_aload_n (pc := 0) hC 0 rfl rfl dX11_alone_0 ?_
  refine zcg_76_1 (pc := 1) hC hinX11_alone_X11 flX11_alone_68 dX11_alone_1 ?_
  refine zr_iload_n (pc := 4) hC 1 rfl rfl dX11_alone_4 ?_
  obtain ⟨q1, hq1, h⟩ := zbd h
  refine zr_cVr (pc := 5) hC hEk [.int v1] [] 62 1 (fun l D => tX6_playerAt hEk hq1 l D) gX11_alone_X6_playerAt rfl rfl rfl ⟨Nat.le_of_ble_eq_true rfl, Nat.le_of_ble_eq_true rfl⟩ hyX6_playerAt (zNC (by decide)) entC_62 rfl rfl rfl (Nat.le_of_ble_eq_true rfl) ⟨Nat.le_of_ble_eq_true rfl, Nat.le_of_ble_eq_true rfl⟩ dX11_alone_5 ?_
  refine zr_astore_nO (pc := 8) (lv' := [(2, va_rf (q1.map (fun a => ad (81 + a)))), (0, .ref (ad 76)), (1, .int v1)]) hC rfl (by decide) rfl dX11_alone_8 ?_
  refine zr_aload_nO (pc := 9) hC 0 rfl rfl dX11_alone_9 ?_
  refine zr_ifnonnullM (pc := 10) (tgt := 19) hC dX11_alone_10 (by decide) (fun a2 e3 => ?_) (fun e3 => ?_)
  · replace h := zon_s e3 h
    subst e3
    obtain ⟨i4, h⟩ := zgd h
    show zV X 0 0 (zwC κ ad pT pR pX pF q9.2 pP) [(2, .ref (ad (81 + a2))), (0, .ref (ad 76)), (1, .int v1)] [] 19
    refine zr_aload_n (pc := 19) hC 1 rfl rfl dX11_alone_19 ?_
    refine zcg_76_0 (pc := 20) hC hinX11_alone_X11 flX11_alone_59 dX11_alone_20 ?_
    obtain ⟨q6, hq6, h⟩ := zbd h
    refine zr_cVi (pc := 23) hC hEk [] [] 0 0 (fun l D => tX10_isWhole hEk hq6 l D) gX11_alone_X10_isWhole rfl rfl rfl ⟨Nat.le_of_ble_eq_true rfl, Nat.le_of_ble_eq_true rfl⟩ hyX10_isWhole (zNC (by decide)) entC_0 rfl rfl rfl (Nat.le_of_ble_eq_true rfl) ⟨Nat.le_of_ble_eq_true rfl, Nat.le_of_ble_eq_true rfl⟩ dX11_alone_23 ?_
    refine zr_if_ne (pc := 26) (tgt := 36) hC dX11_alone_26 (by decide) (fun c7 => ?_) (fun c7 => ?_)
    · replace h := zin h c7
      refine zr_aload_n (pc := 36) hC 1 rfl rfl dX11_alone_36 ?_
      refine zcg_76_1 (pc := 37) hC hinX11_alone_X11 flX11_alone_68 dX11_alone_37 ?_
      refine zr_aload_n (pc := 40) hC 0 rfl rfl dX11_alone_40 ?_
      refine zpg_2 (pc := 41) hC hinX11_alone_X2 hinX11_alone_X7 hinX11_alone_X1 hinX11_alone_X4 hinX11_alone_X9 hinX11_alone_X0 flX11_alone_130 i4 dX11_alone_41 ?_
      obtain ⟨q8, hq8, h⟩ := zbd h
      refine zr_cVi (pc := 44) hC hEk [.int (pP.2.2.1 a2 2)] [] 62 1 (fun l D => tX6_aloneSet hEk hq8 l D) gX11_alone_X6_aloneSet rfl rfl rfl ⟨Nat.le_of_ble_eq_true rfl, Nat.le_of_ble_eq_true rfl⟩ hyX6_aloneSet (zNC (by decide)) entC_62 rfl rfl rfl (Nat.le_of_ble_eq_true rfl) ⟨Nat.le_of_ble_eq_true rfl, Nat.le_of_ble_eq_true rfl⟩ dX11_alone_44 ?_
      obtain rfl := Option.some.inj h
      exact zr_iret hC hR ⟨rfl, rfl⟩ (Nat.le_refl _) (Nat.le_refl _) dX11_alone_47
    · replace h := zip h c7
      refine zr_aload_n (pc := 29) hC 1 rfl rfl dX11_alone_29 ?_
      refine zr_bipush (pc := 30) hC zkb_m3 dX11_alone_30 ?_
      obtain ⟨q9, hq9, h⟩ := zbd h
      refine zr_cVi (pc := 32) hC hEk [.int (-3 : Int32)] [] 76 1 (fun l D => tX11_refuse hEk hq9 l D) gX11_alone_X11_refuse rfl rfl rfl ⟨Nat.le_of_ble_eq_true rfl, Nat.le_of_ble_eq_true rfl⟩ hyX11_refuse (zNC (by decide)) entC_76 rfl rfl rfl (Nat.le_of_ble_eq_true rfl) ⟨Nat.le_of_ble_eq_true rfl, Nat.le_of_ble_eq_true rfl⟩ dX11_alone_32 ?_
      obtain rfl := Option.some.inj h
      exact zr_iret hC hR ⟨rfl, rfl⟩ (Nat.le_refl _) (Nat.le_refl _) dX11_alone_35
  · replace h := zon_n e3 h
    subst e3
    show zV X 0 0 (zwC κ ad pT pR pX pF q5.2 pP) [(2, va_rf ((none : Option Nat).map (fun a => ad (81 + a)))), (0, .ref (ad 76)), (1, .int v1)] [] 13
    refine zr_aload_n (pc := 13) hC 1 rfl rfl dX11_alone_13 ?_
    refine zr_iconst (pc := 14) hC zki_m1 dX11_alone_14 ?_
    obtain ⟨q5, hq5, h⟩ := zbd h
    refine zr_cVi (pc := 15) hC hEk [.int (-1 : Int32)] [] 76 1 (fun l D => tX11_refuse hEk hq5 l D) gX11_alone_X11_refuse rfl rfl rfl ⟨Nat.le_of_ble_eq_true rfl, Nat.le_of_ble_eq_true rfl⟩ hyX11_refuse (zNC (by decide)) entC_76 rfl rfl rfl (Nat.le_of_ble_eq_true rfl) ⟨Nat.le_of_ble_eq_true rfl, Nat.le_of_ble_eq_true rfl⟩ dX11_alone_15 ?_
    obtain rfl := Option.some.inj h
    exact zr_iret hC hR ⟨rfl, rfl⟩ (Nat.le_refl _) (Nat.le_refl _) dX11_alone_18
/-! X11_reply -/
theorem hyX11_reply : yX11_reply.cls = RX11 ∧ yX11_reply.cls ≠ "java/lang/invoke/MethodHandle" ∧ yX11_reply.cls ≠ "java/lang/invoke/VarHandle" ∧ (parseMethodDescriptor yX11_reply.desc).map (fun d => d.parameters.length) = some 2 := by decide +kernel
theorem flX11_reply_59 : Cond.fieldLink RX11 59 "BeforeTheEnd" "tree" "LBeforeTheEnd$Tree;" ∈ wsX11_reply := by decide +kernel
theorem flX11_reply_68 : Cond.fieldLink RX11 68 "BeforeTheEnd" "race" "LBeforeTheEnd$Race;" ∈ wsX11_reply := by decide +kernel
theorem hinX11_reply_X11 : ∀ w ∈ wsX110, w ∈ wsX11_reply := fun _ h => List.mem_cons_of_mem _ (List.mem_append_left _ (List.mem_append_left _ (List.mem_append_left _ (List.mem_append_left _ (List.mem_append_left _ (List.mem_append_left _ (List.mem_append_left _ (List.mem_append_left _ (List.mem_append_right _ h)))))))))
theorem hinX11_reply_X6 : ∀ w ∈ wsX60, w ∈ wsX11_reply := fun _ h => List.mem_cons_of_mem _ (List.mem_append_left _ (List.mem_append_left _ (List.mem_append_left _ (List.mem_append_left _ (List.mem_append_left _ (List.mem_append_left _ (List.mem_append_left _ (List.mem_append_right _ h))))))))
theorem hinX11_reply_X10 : ∀ w ∈ wsX100, w ∈ wsX11_reply := fun _ h => List.mem_cons_of_mem _ (List.mem_append_left _ (List.mem_append_left _ (List.mem_append_left _ (List.mem_append_left _ (List.mem_append_left _ (List.mem_append_left _ (List.mem_append_right _ h)))))))
theorem hinX11_reply_X0 : ∀ w ∈ wsX00, w ∈ wsX11_reply := fun _ h => List.mem_cons_of_mem _ (List.mem_append_left _ (List.mem_append_left _ (List.mem_append_left _ (List.mem_append_left _ (List.mem_append_left _ (List.mem_append_right _ h))))))
theorem hinX11_reply_X1 : ∀ w ∈ wsX10, w ∈ wsX11_reply := fun _ h => List.mem_cons_of_mem _ (List.mem_append_left _ (List.mem_append_left _ (List.mem_append_left _ (List.mem_append_left _ (List.mem_append_right _ h)))))
theorem hinX11_reply_X2 : ∀ w ∈ wsX20, w ∈ wsX11_reply := fun _ h => List.mem_cons_of_mem _ (List.mem_append_left _ (List.mem_append_left _ (List.mem_append_left _ (List.mem_append_right _ h))))
theorem hinX11_reply_X4 : ∀ w ∈ wsX40, w ∈ wsX11_reply := fun _ h => List.mem_cons_of_mem _ (List.mem_append_left _ (List.mem_append_left _ (List.mem_append_right _ h)))
theorem hinX11_reply_X7 : ∀ w ∈ wsX70, w ∈ wsX11_reply := fun _ h => List.mem_cons_of_mem _ (List.mem_append_left _ (List.mem_append_right _ h))
theorem hinX11_reply_X9 : ∀ w ∈ wsX90, w ∈ wsX11_reply := fun _ h => List.mem_cons_of_mem _ (List.mem_append_right _ h)
def xX11_reply (pT : zM) (pR : zM) (pB : zM) (pP : zP) (v1 : Int32) (v2 : Int32) : Option (Int32 × zM × zM) :=
  (xX6_playerAt pR pP v1).bind fun q1 =>
  zon q1
  ((xX11_refuse pB (-1 : Int32)).bind fun q5 =>
  some (q5.1, pR, q5.2))
  (fun a2 => if pP.2.2.2 ≤ a2 then none else
  if 0 ≤ v2 then
  (if v2 ≤ (2 : Int32) then
  ((xX10_isWhole pT).bind fun q8 =>
  if q8 = 0 then
  ((xX11_refuse pB (-3 : Int32)).bind fun q11 =>
  some (q11.1, pR, q11.2))
  else
  (xX6_bestReply pT pR pP v1 v2).bind fun q10 =>
  some (q10.1, q10.2, pB))
  else
  (xX11_refuse pB (-6 : Int32)).bind fun q12 =>
  some (q12.1, pR, q12.2))
  else
  (xX11_refuse pB (-4 : Int32)).bind fun q13 =>
  some (q13.1, pR, q13.2))
set_option maxHeartbeats 4000000 in
set_option maxRecDepth 100000 in
theorem tX11_reply {κ : Nat → ClassId} {tg : Nat} {S : zEn} {ad : Nat → Nat} (hEk : zEk (zE tg S)) {pT : zM} {pR : zM} {pX : zM} {pF : zM} {pB : zM} {pP : zP} {v1 : Int32} {v2 : Int32} {res : (Int32 × zM × zM)} (h : xX11_reply pT pR pB pP v1 v2 = some res) (l : Launch) (D : va_G) : zCT (zE tg S) D vwCl (zty κ) l yX11_reply wsX11_reply ({ frames := 7, cells := 0, slots := 0, locals := 171 } : Room) 0 0 [.ref (ad 76), .int v1, .int v2] (zwC κ ad pT pR pX pF pB pP) (zPd (some (.int res.1)) (zwC κ ad pT res.2.1 pX pF res.2.2 pP)) := by
  refine zCT.of (cc := cX11_reply) (maxL := 3) (ret := (some .int)) (by decide) rfl (Nat.le_of_ble_eq_true rfl) ?_
  intro X hC hR
  unfold xX11_reply at h
  refine zV.sub (lv' := [(0, .ref (ad 76)), (1, .int v1), (2, .int v2)]) [0, 1, 2] rfl ?_
  refine zr_aload_n (pc := 0) hC 0 rfl rfl dX11_reply_0 ?_
  refine zcg_76_1 (pc := 1) hC hinX11_reply_X11 flX11_reply_68 dX11_reply_1 ?_
  refine zr_iload_n (pc := 4) hC 1 rfl rfl dX11_reply_4 ?_
  obtain ⟨q1, hq1, h⟩ := zbd h
  refine zr_cVr (pc := 5) hC hEk [.int v1] [] 62 1 (fun l D => tX6_playerAt hEk hq1 l D) gX11_reply_X6_playerAt rfl rfl rfl ⟨Nat.le_of_ble_eq_true rfl, Nat.le_of_ble_eq_true rfl⟩ hyX6_playerAt (zNC (by decide)) entC_62 rfl rfl rfl (Nat.le_of_ble_eq_true rfl) ⟨Nat.le_of_ble_eq_true rfl, Nat.le_of_ble_eq_true rfl⟩ dX11_reply_5 ?_
  refine zr_ifnonnullM (pc := 8) (tgt := 17) hC dX11_reply_8 (by decide) (fun a2 e3 => ?_) (fun e3 => ?_)
  · replace h := zon_s e3 h
    subst e3
    obtain ⟨i4, h⟩ := zgd h
    show zV X 0 0 (zwC κ ad pT pR pX pF q13.2 pP) [(0, .ref (ad 76)), (1, .int v1), (2, .int v2)] [] 17
    refine zr_iload_n (pc := 17) hC 2 rfl rfl dX11_reply_17 ?_
    refine zr_if_ge (pc := 18) (tgt := 28) hC dX11_reply_18 (by decide) (fun c6 => ?_) (fun c6 => ?_)
    · replace h := zip h c6
      refine zr_iload_n (pc := 28) hC 2 rfl rfl dX11_reply_28 ?_
      refine zr_iconst (pc := 29) hC zki_2 dX11_reply_29 ?_
      refine zr_icmp_le (pc := 30) (tgt := 40) hC dX11_reply_30 (by decide) (fun c7 => ?_) (fun c7 => ?_)
      · replace h := zip h c7
        refine zr_aload_n (pc := 40) hC 0 rfl rfl dX11_reply_40 ?_
        refine zcg_76_0 (pc := 41) hC hinX11_reply_X11 flX11_reply_59 dX11_reply_41 ?_
        obtain ⟨q8, hq8, h⟩ := zbd h
        refine zr_cVi (pc := 44) hC hEk [] [] 0 0 (fun l D => tX10_isWhole hEk hq8 l D) gX11_reply_X10_isWhole rfl rfl rfl ⟨Nat.le_of_ble_eq_true rfl, Nat.le_of_ble_eq_true rfl⟩ hyX10_isWhole (zNC (by decide)) entC_0 rfl rfl rfl (Nat.le_of_ble_eq_true rfl) ⟨Nat.le_of_ble_eq_true rfl, Nat.le_of_ble_eq_true rfl⟩ dX11_reply_44 ?_
        refine zr_if_ne (pc := 47) (tgt := 57) hC dX11_reply_47 (by decide) (fun c9 => ?_) (fun c9 => ?_)
        · replace h := zin h c9
          refine zr_aload_n (pc := 57) hC 0 rfl rfl dX11_reply_57 ?_
          refine zcg_76_1 (pc := 58) hC hinX11_reply_X11 flX11_reply_68 dX11_reply_58 ?_
          refine zr_iload_n (pc := 61) hC 1 rfl rfl dX11_reply_61 ?_
          refine zr_iload_n (pc := 62) hC 2 rfl rfl dX11_reply_62 ?_
          obtain ⟨q10, hq10, h⟩ := zbd h
          refine zr_cVi (pc := 63) hC hEk [.int v1, .int v2] [] 62 2 (fun l D => tX6_bestReply hEk hq10 l D) gX11_reply_X6_bestReply rfl rfl rfl ⟨Nat.le_of_ble_eq_true rfl, Nat.le_of_ble_eq_true rfl⟩ hyX6_bestReply (zNC (by decide)) entC_62 rfl rfl rfl (Nat.le_of_ble_eq_true rfl) ⟨Nat.le_of_ble_eq_true rfl, Nat.le_of_ble_eq_true rfl⟩ dX11_reply_63 ?_
          obtain rfl := Option.some.inj h
          exact zr_iret hC hR ⟨rfl, rfl⟩ (Nat.le_refl _) (Nat.le_refl _) dX11_reply_66
        · replace h := zip h c9
          refine zr_aload_n (pc := 50) hC 0 rfl rfl dX11_reply_50 ?_
          refine zr_bipush (pc := 51) hC zkb_m3 dX11_reply_51 ?_
          obtain ⟨q11, hq11, h⟩ := zbd h
          refine zr_cVi (pc := 53) hC hEk [.int (-3 : Int32)] [] 76 1 (fun l D => tX11_refuse hEk hq11 l D) gX11_reply_X11_refuse rfl rfl rfl ⟨Nat.le_of_ble_eq_true rfl, Nat.le_of_ble_eq_true rfl⟩ hyX11_refuse (zNC (by decide)) entC_76 rfl rfl rfl (Nat.le_of_ble_eq_true rfl) ⟨Nat.le_of_ble_eq_true rfl, Nat.le_of_ble_eq_true rfl⟩ dX11_reply_53 ?_
          obtain rfl := Option.some.inj h
          exact zr_iret hC hR ⟨rfl, rfl⟩ (Nat.le_refl _) (Nat.le_refl _) dX11_reply_56
      · replace h := zin h c7
        refine zr_aload_n (pc := 33) hC 0 rfl rfl dX11_reply_33 ?_
        refine zr_bipush (pc := 34) hC zkb_m6 dX11_reply_34 ?_
        obtain ⟨q12, hq12, h⟩ := zbd h
        refine zr_cVi (pc := 36) hC hEk [.int (-6 : Int32)] [] 76 1 (fun l D => tX11_refuse hEk hq12 l D) gX11_reply_X11_refuse rfl rfl rfl ⟨Nat.le_of_ble_eq_true rfl, Nat.le_of_ble_eq_true rfl⟩ hyX11_refuse (zNC (by decide)) entC_76 rfl rfl rfl (Nat.le_of_ble_eq_true rfl) ⟨Nat.le_of_ble_eq_true rfl, Nat.le_of_ble_eq_true rfl⟩ dX11_reply_36 ?_
        obtain rfl := Option.some.inj h
        exact zr_iret hC hR ⟨rfl, rfl⟩ (Nat.le_refl _) (Nat.le_refl _) dX11_reply_39
    · replace h := zin h c6
      refine zr_aload_n (pc := 21) hC 0 rfl rfl dX11_reply_21 ?_
      refine zr_bipush (pc := 22) hC zkb_m4 dX11_reply_22 ?_
      obtain ⟨q13, hq13, h⟩ := zbd h
      refine zr_cVi (pc := 24) hC hEk [.int (-4 : Int32)] [] 76 1 (fun l D => tX11_refuse hEk hq13 l D) gX11_reply_X11_refuse rfl rfl rfl ⟨Nat.le_of_ble_eq_true rfl, Nat.le_of_ble_eq_true rfl⟩ hyX11_refuse (zNC (by decide)) entC_76 rfl rfl rfl (Nat.le_of_ble_eq_true rfl) ⟨Nat.le_of_ble_eq_true rfl, Nat.le_of_ble_eq_true rfl⟩ dX11_reply_24 ?_
      obtain rfl := Option.some.inj h
      exact zr_iret hC hR ⟨rfl, rfl⟩ (Nat.le_refl _) (Nat.le_refl _) dX11_reply_27
  · replace h := zon_n e3 h
    subst e3
    show zV X 0 0 (zwC κ ad pT pR pX pF q5.2 pP) [(0, .ref (ad 76)), (1, .int v1), (2, .int v2)] [] 11
    refine zr_aload_n (pc := 11) hC 0 rfl rfl dX11_reply_11 ?_
    refine zr_iconst (pc := 12) hC zki_m1 dX11_reply_12 ?_
    obtain ⟨q5, hq5, h⟩ := zbd h
    refine zr_cVi (pc := 13) hC hEk [.int (-1 : Int32)] [] 76 1 (fun l D => tX11_refuse hEk hq5 l D) gX11_reply_X11_refuse rfl rfl rfl ⟨Nat.le_of_ble_eq_true rfl, Nat.le_of_ble_eq_true rfl⟩ hyX11_refuse (zNC (by decide)) entC_76 rfl rfl rfl (Nat.le_of_ble_eq_true rfl) ⟨Nat.le_of_ble_eq_true rfl, Nat.le_of_ble_eq_true rfl⟩ dX11_reply_13 ?_
    obtain rfl := Option.some.inj h
    exact zr_iret hC hR ⟨rfl, rfl⟩ (Nat.le_refl _) (Nat.le_refl _) dX11_reply_16
/-! X11_rest -/
set_option maxHeartbeats 4000000 in
theorem vrX11_rest_119 {κ : Nat → ClassId} {tg : Nat} {S : zEn} {ad : Nat → Nat} {X : zX} {cells slots nL pc a : Nat} {lv : zLv} {rm : Room} {pT pR pX pF pB : zM} {pP : zP}  {q : Int32} (hC : zC X cX11_rest RX11 wsX11_rest vwCl (zty κ) (zE tg S) nL rm) (hEk : zEk (zE tg S)) (ha : ¬ pP.2.2.2 ≤ a) (hq : xv_kind pP a  = some q) {rest : List Value} (hcat : (rest.map fun v => v.category).sum ≤ 8) (hf : 1 ≤ rm.frames) (hl : 20 ≤ rm.locals) (hfit : cells + 0 ≤ rm.cells ∧ slots + 0 ≤ rm.slots) (hd : decode cX11_rest pc = .ok (.invokevirtual 119, 3)) (kk : zV X cells slots (zwC κ ad pT pR pX pF pB pP) lv (.int q :: rest) (pc + 3)) : zV X cells slots (zwC κ ad pT pR pX pF pB pP) lv (.ref (ad (81 + a)) :: rest) pc := by
  have ha2 : a < pP.2.2.2 := by omega
  unfold xv_kind at hq
  by_cases k0 : pP.2.1 a = 0
  · replace hq := zip hq k0
    obtain ⟨q2, hq2, hq⟩ := zbd hq
    obtain rfl := Option.some.inj hq
    exact zr_cAi hC hEk [] rest (81 + a) 0 (fun l D => tX2_kind_k0 hEk k0 ha2 hq2 l D) gX11_rest_X2_kind_u119X2 zE_kind rfl rfl rfl ⟨Nat.le_trans (Nat.le_of_ble_eq_true rfl) hf, Nat.le_trans (Nat.le_of_ble_eq_true rfl) hl⟩ hxv_kind (by omega) (entC_p0 k0) rfl rfl rfl hcat hfit hd kk
  replace hq := zin hq k0
  by_cases k1 : pP.2.1 a = 1
  · replace hq := zip hq k1
    obtain ⟨q2, hq2, hq⟩ := zbd hq
    obtain rfl := Option.some.inj hq
    exact zr_cAi hC hEk [] rest (81 + a) 0 (fun l D => tX7_kind_k1 hEk k1 ha2 hq2 l D) gX11_rest_X7_kind_u119X7 zE_kind rfl rfl rfl ⟨Nat.le_trans (Nat.le_of_ble_eq_true rfl) hf, Nat.le_trans (Nat.le_of_ble_eq_true rfl) hl⟩ hxv_kind (by omega) (entC_p1 k1) rfl rfl rfl hcat hfit hd kk
  replace hq := zin hq k1
  by_cases k2 : pP.2.1 a = 2
  · replace hq := zip hq k2
    obtain ⟨q2, hq2, hq⟩ := zbd hq
    obtain rfl := Option.some.inj hq
    exact zr_cAi hC hEk [] rest (81 + a) 0 (fun l D => tX1_kind_k2 hEk k2 ha2 hq2 l D) gX11_rest_X1_kind_u119X1 zE_kind rfl rfl rfl ⟨Nat.le_trans (Nat.le_of_ble_eq_true rfl) hf, Nat.le_trans (Nat.le_of_ble_eq_true rfl) hl⟩ hxv_kind (by omega) (entC_p2 k2) rfl rfl rfl hcat hfit hd kk
  replace hq := zin hq k2
  by_cases k3 : pP.2.1 a = 3
  · replace hq := zip hq k3
    obtain ⟨q2, hq2, hq⟩ := zbd hq
    obtain rfl := Option.some.inj hq
    exact zr_cAi hC hEk [] rest (81 + a) 0 (fun l D => tX4_kind_k3 hEk k3 ha2 hq2 l D) gX11_rest_X4_kind_u119X4 zE_kind rfl rfl rfl ⟨Nat.le_trans (Nat.le_of_ble_eq_true rfl) hf, Nat.le_trans (Nat.le_of_ble_eq_true rfl) hl⟩ hxv_kind (by omega) (entC_p3 k3) rfl rfl rfl hcat hfit hd kk
  replace hq := zin hq k3
  by_cases k4 : pP.2.1 a = 4
  · replace hq := zip hq k4
    obtain ⟨q2, hq2, hq⟩ := zbd hq
    obtain rfl := Option.some.inj hq
    exact zr_cAi hC hEk [] rest (81 + a) 0 (fun l D => tX9_kind_k4 hEk k4 ha2 hq2 l D) gX11_rest_X9_kind_u119X9 zE_kind rfl rfl rfl ⟨Nat.le_trans (Nat.le_of_ble_eq_true rfl) hf, Nat.le_trans (Nat.le_of_ble_eq_true rfl) hl⟩ hxv_kind (by omega) (entC_p4 k4) rfl rfl rfl hcat hfit hd kk
  replace hq := zin hq k4
  obtain ⟨q2, hq2, hq⟩ := zbd hq
  obtain rfl := Option.some.inj hq
  exact zr_cAi hC hEk [] rest (81 + a) 0 (fun l D => tX0_kind_k5 hEk ⟨k0, k1, k2, k3, k4⟩ ha2 hq2 l D) gX11_rest_X0_kind_u119X0 zE_kind rfl rfl rfl ⟨Nat.le_trans (Nat.le_of_ble_eq_true rfl) hf, Nat.le_trans (Nat.le_of_ble_eq_true rfl) hl⟩ hxv_kind (by omega) (entC_p5 ⟨k0, k1, k2, k3, k4⟩) rfl rfl rfl hcat hfit hd kk
theorem h0X11_rest_toldSet : Cond.code ⟨"BeforeTheEnd$Player", "toldSet", "()I"⟩ cX5_toldSet 1 (some .int) ∈ wsX11_rest := by decide +kernel
set_option maxHeartbeats 4000000 in
theorem vrX11_rest_133 {κ : Nat → ClassId} {tg : Nat} {S : zEn} {ad : Nat → Nat} {X : zX} {cells slots nL pc a : Nat} {lv : zLv} {rm : Room} {pT pR pX pF pB : zM} {pP : zP}  {q : Int32} (hC : zC X cX11_rest RX11 wsX11_rest vwCl (zty κ) (zE tg S) nL rm) (hEk : zEk (zE tg S)) (ha : ¬ pP.2.2.2 ≤ a) (hq : xv_toldSet pP a  = some q) {rest : List Value} (hcat : (rest.map fun v => v.category).sum ≤ 8) (hf : 1 ≤ rm.frames) (hl : 20 ≤ rm.locals) (hfit : cells + 0 ≤ rm.cells ∧ slots + 0 ≤ rm.slots) (hd : decode cX11_rest pc = .ok (.invokevirtual 133, 3)) (kk : zV X cells slots (zwC κ ad pT pR pX pF pB pP) lv (.int q :: rest) (pc + 3)) : zV X cells slots (zwC κ ad pT pR pX pF pB pP) lv (.ref (ad (81 + a)) :: rest) pc := by
  have ha2 : a < pP.2.2.2 := by omega
  unfold xv_toldSet at hq
  by_cases k0 : pP.2.1 a = 0
  · replace hq := zip hq k0
    obtain ⟨q2, hq2, hq⟩ := zbd hq
    obtain rfl := Option.some.inj hq
    exact zr_cUi hC hEk [] rest (81 + a) 0 (fun l D => tX5_toldSet_k0 hEk k0 ha2 hq2 l D) gX11_rest_X5_toldSet_u133X2 rfl rfl rfl rfl ⟨Nat.le_trans (Nat.le_of_ble_eq_true rfl) hf, Nat.le_trans (Nat.le_of_ble_eq_true rfl) hl⟩ hxv_toldSet (by omega) (entC_p0 k0) rfl rfl rfl hcat hfit hd kk
  replace hq := zin hq k0
  by_cases k1 : pP.2.1 a = 1
  · replace hq := zip hq k1
    obtain ⟨q2, hq2, hq⟩ := zbd hq
    obtain rfl := Option.some.inj hq
    exact zr_cUi hC hEk [] rest (81 + a) 0 (fun l D => tX5_toldSet_k1 hEk k1 ha2 hq2 l D) gX11_rest_X5_toldSet_u133X7 rfl rfl rfl rfl ⟨Nat.le_trans (Nat.le_of_ble_eq_true rfl) hf, Nat.le_trans (Nat.le_of_ble_eq_true rfl) hl⟩ hxv_toldSet (by omega) (entC_p1 k1) rfl rfl rfl hcat hfit hd kk
  replace hq := zin hq k1
  by_cases k2 : pP.2.1 a = 2
  · replace hq := zip hq k2
    obtain ⟨q2, hq2, hq⟩ := zbd hq
    obtain rfl := Option.some.inj hq
    exact zr_cUi hC hEk [] rest (81 + a) 0 (fun l D => tX5_toldSet_k2 hEk k2 ha2 hq2 l D) gX11_rest_X5_toldSet_u133X1 rfl rfl rfl rfl ⟨Nat.le_trans (Nat.le_of_ble_eq_true rfl) hf, Nat.le_trans (Nat.le_of_ble_eq_true rfl) hl⟩ hxv_toldSet (by omega) (entC_p2 k2) rfl rfl rfl hcat hfit hd kk
  replace hq := zin hq k2
  by_cases k3 : pP.2.1 a = 3
  · replace hq := zip hq k3
    obtain ⟨q2, hq2, hq⟩ := zbd hq
    obtain rfl := Option.some.inj hq
    exact zr_cUi hC hEk [] rest (81 + a) 0 (fun l D => tX5_toldSet_k3 hEk k3 ha2 hq2 l D) gX11_rest_X5_toldSet_u133X4 rfl rfl rfl rfl ⟨Nat.le_trans (Nat.le_of_ble_eq_true rfl) hf, Nat.le_trans (Nat.le_of_ble_eq_true rfl) hl⟩ hxv_toldSet (by omega) (entC_p3 k3) rfl rfl rfl hcat hfit hd kk
  replace hq := zin hq k3
  by_cases k4 : pP.2.1 a = 4
  · replace hq := zip hq k4
    obtain ⟨q2, hq2, hq⟩ := zbd hq
    obtain rfl := Option.some.inj hq
    exact zr_cOi hC hEk [] rest (81 + a) 0 (fun l D => tX9_toldSet_k4 hEk k4 ha2 hq2 l D) gX11_rest_X9_toldSet_u133X9 h0X11_rest_toldSet rfl rfl rfl ⟨Nat.le_trans (Nat.le_of_ble_eq_true rfl) hf, Nat.le_trans (Nat.le_of_ble_eq_true rfl) hl⟩ hxv_toldSet (by omega) (entC_p4 k4) rfl rfl rfl hcat hfit hd kk
  replace hq := zin hq k4
  obtain ⟨q2, hq2, hq⟩ := zbd hq
  obtain rfl := Option.some.inj hq
  exact zr_cOi hC hEk [] rest (81 + a) 0 (fun l D => tX9_toldSet_k5 hEk ⟨k0, k1, k2, k3, k4⟩ ha2 hq2 l D) gX11_rest_X9_toldSet_u133X0 h0X11_rest_toldSet rfl rfl rfl ⟨Nat.le_trans (Nat.le_of_ble_eq_true rfl) hf, Nat.le_trans (Nat.le_of_ble_eq_true rfl) hl⟩ hxv_toldSet (by omega) (entC_p5 ⟨k0, k1, k2, k3, k4⟩) rfl rfl rfl hcat hfit hd kk
theorem h0X11_rest_tell : Cond.code ⟨"BeforeTheEnd$Player", "tell", "(I)V"⟩ cX5_tell 2 none ∈ wsX11_rest := by decide +kernel
set_option maxHeartbeats 4000000 in
theorem vrX11_rest_175 {κ : Nat → ClassId} {tg : Nat} {S : zEn} {ad : Nat → Nat} {X : zX} {cells slots nL pc a : Nat} {lv : zLv} {rm : Room} {pT pR pX pF pB : zM} {pP : zP} {v1 : Int32} {q : zP} (hC : zC X cX11_rest RX11 wsX11_rest vwCl (zty κ) (zE tg S) nL rm) (hEk : zEk (zE tg S)) (ha : ¬ pP.2.2.2 ≤ a) (hq : xv_tell pP a v1 = some q) {rest : List Value} (hcat : (rest.map fun v => v.category).sum ≤ 8) (hf : 1 ≤ rm.frames) (hl : 21 ≤ rm.locals) (hfit : cells + 0 ≤ rm.cells ∧ slots + 0 ≤ rm.slots) (hd : decode cX11_rest pc = .ok (.invokevirtual 175, 3)) (kk : zV X cells slots (zwC κ ad pT pR pX pF pB q) lv rest (pc + 3)) : zV X cells slots (zwC κ ad pT pR pX pF pB pP) lv (.int v1 :: .ref (ad (81 + a)) :: rest) pc := by
  have ha2 : a < pP.2.2.2 := by omega
  unfold xv_tell at hq
  by_cases k0 : pP.2.1 a = 0
  · replace hq := zip hq k0
    obtain ⟨q2, hq2, hq⟩ := zbd hq
    obtain rfl := Option.some.inj hq
    exact zr_cUv hC hEk [.int v1] rest (81 + a) 1 (fun l D => tX5_tell_k0 hEk k0 ha2 hq2 l D) gX11_rest_X5_tell_u175X2 rfl rfl rfl rfl ⟨Nat.le_trans (Nat.le_of_ble_eq_true rfl) hf, Nat.le_trans (Nat.le_of_ble_eq_true rfl) hl⟩ hxv_tell (by omega) (entC_p0 k0) rfl rfl rfl hcat hfit hd kk
  replace hq := zin hq k0
  by_cases k1 : pP.2.1 a = 1
  · replace hq := zip hq k1
    obtain ⟨q2, hq2, hq⟩ := zbd hq
    obtain rfl := Option.some.inj hq
    exact zr_cUv hC hEk [.int v1] rest (81 + a) 1 (fun l D => tX5_tell_k1 hEk k1 ha2 hq2 l D) gX11_rest_X5_tell_u175X7 rfl rfl rfl rfl ⟨Nat.le_trans (Nat.le_of_ble_eq_true rfl) hf, Nat.le_trans (Nat.le_of_ble_eq_true rfl) hl⟩ hxv_tell (by omega) (entC_p1 k1) rfl rfl rfl hcat hfit hd kk
  replace hq := zin hq k1
  by_cases k2 : pP.2.1 a = 2
  · replace hq := zip hq k2
    obtain ⟨q2, hq2, hq⟩ := zbd hq
    obtain rfl := Option.some.inj hq
    exact zr_cUv hC hEk [.int v1] rest (81 + a) 1 (fun l D => tX5_tell_k2 hEk k2 ha2 hq2 l D) gX11_rest_X5_tell_u175X1 rfl rfl rfl rfl ⟨Nat.le_trans (Nat.le_of_ble_eq_true rfl) hf, Nat.le_trans (Nat.le_of_ble_eq_true rfl) hl⟩ hxv_tell (by omega) (entC_p2 k2) rfl rfl rfl hcat hfit hd kk
  replace hq := zin hq k2
  by_cases k3 : pP.2.1 a = 3
  · replace hq := zip hq k3
    obtain ⟨q2, hq2, hq⟩ := zbd hq
    obtain rfl := Option.some.inj hq
    exact zr_cUv hC hEk [.int v1] rest (81 + a) 1 (fun l D => tX5_tell_k3 hEk k3 ha2 hq2 l D) gX11_rest_X5_tell_u175X4 rfl rfl rfl rfl ⟨Nat.le_trans (Nat.le_of_ble_eq_true rfl) hf, Nat.le_trans (Nat.le_of_ble_eq_true rfl) hl⟩ hxv_tell (by omega) (entC_p3 k3) rfl rfl rfl hcat hfit hd kk
  replace hq := zin hq k3
  by_cases k4 : pP.2.1 a = 4
  · replace hq := zip hq k4
    obtain ⟨q2, hq2, hq⟩ := zbd hq
    obtain rfl := Option.some.inj hq
    exact zr_cOv hC hEk [.int v1] rest (81 + a) 1 (fun l D => tX9_tell_k4 hEk k4 ha2 hq2 l D) gX11_rest_X9_tell_u175X9 h0X11_rest_tell rfl rfl rfl ⟨Nat.le_trans (Nat.le_of_ble_eq_true rfl) hf, Nat.le_trans (Nat.le_of_ble_eq_true rfl) hl⟩ hxv_tell (by omega) (entC_p4 k4) rfl rfl rfl hcat hfit hd kk
  replace hq := zin hq k4
  obtain ⟨q2, hq2, hq⟩ := zbd hq
  obtain rfl := Option.some.inj hq
  exact zr_cOv hC hEk [.int v1] rest (81 + a) 1 (fun l D => tX9_tell_k5 hEk ⟨k0, k1, k2, k3, k4⟩ ha2 hq2 l D) gX11_rest_X9_tell_u175X0 h0X11_rest_tell rfl rfl rfl ⟨Nat.le_trans (Nat.le_of_ble_eq_true rfl) hf, Nat.le_trans (Nat.le_of_ble_eq_true rfl) hl⟩ hxv_tell (by omega) (entC_p5 ⟨k0, k1, k2, k3, k4⟩) rfl rfl rfl hcat hfit hd kk
theorem hyX11_rest : yX11_rest.cls = RX11 ∧ yX11_rest.cls ≠ "java/lang/invoke/MethodHandle" ∧ yX11_rest.cls ≠ "java/lang/invoke/VarHandle" ∧ (parseMethodDescriptor yX11_rest.desc).map (fun d => d.parameters.length) = some 2 := by decide +kernel
theorem flX11_rest_59 : Cond.fieldLink RX11 59 "BeforeTheEnd" "tree" "LBeforeTheEnd$Tree;" ∈ wsX11_rest := by decide +kernel
theorem flX11_rest_68 : Cond.fieldLink RX11 68 "BeforeTheEnd" "race" "LBeforeTheEnd$Race;" ∈ wsX11_rest := by decide +kernel
theorem hinX11_rest_X11 : ∀ w ∈ wsX110, w ∈ wsX11_rest := fun _ h => List.mem_cons_of_mem _ (List.mem_append_left _ (List.mem_append_left _ (List.mem_append_left _ (List.mem_append_left _ (List.mem_append_left _ (List.mem_append_left _ (List.mem_append_left _ (List.mem_append_left _ (List.mem_append_right _ h)))))))))
theorem hinX11_rest_X6 : ∀ w ∈ wsX60, w ∈ wsX11_rest := fun _ h => List.mem_cons_of_mem _ (List.mem_append_left _ (List.mem_append_left _ (List.mem_append_left _ (List.mem_append_left _ (List.mem_append_left _ (List.mem_append_left _ (List.mem_append_left _ (List.mem_append_right _ h))))))))
theorem hinX11_rest_X10 : ∀ w ∈ wsX100, w ∈ wsX11_rest := fun _ h => List.mem_cons_of_mem _ (List.mem_append_left _ (List.mem_append_left _ (List.mem_append_left _ (List.mem_append_left _ (List.mem_append_left _ (List.mem_append_left _ (List.mem_append_right _ h)))))))
theorem hinX11_rest_X0 : ∀ w ∈ wsX00, w ∈ wsX11_rest := fun _ h => List.mem_cons_of_mem _ (List.mem_append_left _ (List.mem_append_left _ (List.mem_append_left _ (List.mem_append_left _ (List.mem_append_left _ (List.mem_append_right _ h))))))
theorem hinX11_rest_X9 : ∀ w ∈ wsX90, w ∈ wsX11_rest := fun _ h => List.mem_cons_of_mem _ (List.mem_append_left _ (List.mem_append_left _ (List.mem_append_left _ (List.mem_append_left _ (List.mem_append_right _ h)))))
theorem hinX11_rest_X1 : ∀ w ∈ wsX10, w ∈ wsX11_rest := fun _ h => List.mem_cons_of_mem _ (List.mem_append_left _ (List.mem_append_left _ (List.mem_append_left _ (List.mem_append_right _ h))))
theorem hinX11_rest_X2 : ∀ w ∈ wsX20, w ∈ wsX11_rest := fun _ h => List.mem_cons_of_mem _ (List.mem_append_left _ (List.mem_append_left _ (List.mem_append_right _ h)))
theorem hinX11_rest_X4 : ∀ w ∈ wsX40, w ∈ wsX11_rest := fun _ h => List.mem_cons_of_mem _ (List.mem_append_left _ (List.mem_append_right _ h))
theorem hinX11_rest_X7 : ∀ w ∈ wsX70, w ∈ wsX11_rest := fun _ h => List.mem_cons_of_mem _ (List.mem_append_right _ h)
def xX11_rest_L83 (pT : zM) (pB : zM) (v1 : Int32) (v2 : Int32) (v3 : Nat) (v4 : Nat) (a : (zM × zP × Int32)) : Option ((zM × zP × Int32) ⊕ ((zM × zP × Int32) ⊕ (zM × zP))) :=
  if (10 : Int32) < a.2.2 then
  (some (.inr (.inr (a.1, a.2.1))))
  else
  if a.2.1.2.2.2 ≤ v3 then none else
  (xv_toldSet a.2.1 v3).bind fun q3 =>
  if a.2.1.2.2.2 ≤ v4 then none else
  (xv_toldSet a.2.1 v4).bind fun q5 =>
  (xX6_bestReply pT a.1 a.2.1 v1 (2 : Int32)).bind fun q6 =>
  (xv_tell a.2.1 v3 q6.1).bind fun q7 =>
  (xX6_bestReply pT q6.2 q7 v2 (2 : Int32)).bind fun q8 =>
  (xv_tell q7 v4 q8.1).bind fun q9 =>
  (xv_toldSet q9 v3).bind fun q10 =>
  if q10 = q3 then
  ((xv_toldSet q9 v4).bind fun q12 =>
  if q12 = q5 then
  (some (.inr (.inl (q8.2, q9, a.2.2))))
  else
  some (.inl (q8.2, q9, (a.2.2 + (1 : Int32)))))
  else
  some (.inl (q8.2, q9, (a.2.2 + (1 : Int32))))
set_option maxHeartbeats 4000000 in
set_option maxRecDepth 100000 in
theorem tX11_rest_L83 {κ : Nat → ClassId} {tg : Nat} {S : zEn} {ad : Nat → Nat} {X : zX} {pR : zM} {pX : zM} {pF : zM} {pP : zP} {pT : zM} {pB : zM} {v1 : Int32} {v2 : Int32} {v3 : Nat} {v4 : Nat} {a : (zM × zP × Int32)} {r : ((zM × zP × Int32) ⊕ ((zM × zP × Int32) ⊕ (zM × zP)))} (hC : zC X cX11_rest RX11 wsX11_rest vwCl (zty κ) (zE tg S) 8 ({ frames := 7, cells := 0, slots := 0, locals := 171 } : Room)) (hEk : zEk (zE tg S)) (hin : ∀ a', r = .inl a' → zV X 0 0 (zwC κ ad pT a'.1 pX pF pB a'.2.1) [(0, .ref (ad 76)), (1, .int v1), (2, .int v2), (3, .ref (ad (81 + v3))), (4, .ref (ad (81 + v4))), (5, .int a'.2.2)] [] 83) (hout : ∀ b', r = .inr b' → Sum.elim (fun b0 => zV X 0 0 (zwC κ ad pT b0.1 pX pF pB b0.2.1) [(5, .int b0.2.2)] [] 149) (fun c0 => zV X 0 0 (zwC κ ad pT c0.1 pX pF pB c0.2) [] [] 158) b') (h : xX11_rest_L83 pT pB v1 v2 v3 v4 a = some r) : zV X 0 0 (zwC κ ad pT a.1 pX pF pB a.2.1) [(0, .ref (ad 76)), (1, .int v1), (2, .int v2), (3, .ref (ad (81 + v3))), (4, .ref (ad (81 + v4))), (5, .int a.2.2)] [] 83 := by
  unfold xX11_rest_L83 at h
  refine zr_iload (pc := 83) hC 5 rfl dX11_rest_83 ?_
  refine zr_bipush (pc := 85) hC zkb_10 dX11_rest_85 ?_
  refine zr_icmp_gt (pc := 87) (tgt := 158) hC dX11_rest_87 (by decide) (fun c1 => ?_) (fun c1 => ?_)
  · replace h := zip h c1
    obtain rfl := Option.some.inj h
    exact zV.sub (lv' := []) [] rfl (hout _ rfl)
  · replace h := zin h c1
    refine zr_aload_n (pc := 90) hC 3 rfl rfl dX11_rest_90 ?_
    obtain ⟨i2, h⟩ := zgd h
    obtain ⟨q3, hq3, h⟩ := zbd h
    refine vrX11_rest_133 (pc := 91) hC hEk i2 hq3 (rest := []) (Nat.le_of_ble_eq_true rfl) (Nat.le_of_ble_eq_true rfl) (Nat.le_of_ble_eq_true rfl) ⟨Nat.le_of_ble_eq_true rfl, Nat.le_of_ble_eq_true rfl⟩ dX11_rest_91 ?_
    refine zr_istore (pc := 94) (lv' := [(6, .int q3), (0, .ref (ad 76)), (1, .int v1), (2, .int v2), (3, .ref (ad (81 + v3))), (4, .ref (ad (81 + v4))), (5, .int a.2.2)]) hC (by decide) rfl dX11_rest_94 ?_
    refine zr_aload (pc := 96) hC 5 rfl dX11_rest_96 ?_
    obtain ⟨i4, h⟩ := zgd h
    obtain ⟨q5, hq5, h⟩ := zbd h
    refine vrX11_rest_133 (pc := 98) hC hEk i4 hq5 (rest := []) (Nat.le_of_ble_eq_true rfl) (Nat.le_of_ble_eq_true rfl) (Nat.le_of_ble_eq_true rfl) ⟨Nat.le_of_ble_eq_true rfl, Nat.le_of_ble_eq_true rfl⟩ dX11_rest_98 ?_
    refine zr_istore (pc := 101) (lv' := [(7, .int q5), (6, .int q3), (0, .ref (ad 76)), (1, .int v1), (2, .int v2), (3, .ref (ad (81 + v3))), (4, .ref (ad (81 + v4))), (5, .int a.2.2)]) hC (by decide) rfl dX11_rest_101 ?_
    refine zr_aload_n (pc := 103) hC 5 rfl rfl dX11_rest_103 ?_
    refine zr_aload_n (pc := 104) hC 2 rfl rfl dX11_rest_104 ?_
    refine zcg_76_1 (pc := 105) hC hinX11_rest_X11 flX11_rest_68 dX11_rest_105 ?_
    refine zr_iload_n (pc := 108) hC 3 rfl rfl dX11_rest_108 ?_
    refine zr_iconst (pc := 109) hC zki_2 dX11_rest_109 ?_
    obtain ⟨q6, hq6, h⟩ := zbd h
    refine zr_cVi (pc := 110) hC hEk [.int v1, .int (2 : Int32)] [.ref (ad (81 + v3))] 62 2 (fun l D => tX6_bestReply hEk hq6 l D) gX11_rest_X6_bestReply rfl rfl rfl ⟨Nat.le_of_ble_eq_true rfl, Nat.le_of_ble_eq_true rfl⟩ hyX6_bestReply (zNC (by decide)) entC_62 rfl rfl rfl (Nat.le_of_ble_eq_true rfl) ⟨Nat.le_of_ble_eq_true rfl, Nat.le_of_ble_eq_true rfl⟩ dX11_rest_110 ?_
    obtain ⟨q7, hq7, h⟩ := zbd h
    refine vrX11_rest_175 (pc := 113) hC hEk i2 hq7 (rest := []) (Nat.le_of_ble_eq_true rfl) (Nat.le_of_ble_eq_true rfl) (Nat.le_of_ble_eq_true rfl) ⟨Nat.le_of_ble_eq_true rfl, Nat.le_of_ble_eq_true rfl⟩ dX11_rest_113 ?_
    refine zr_aload (pc := 116) hC 6 rfl dX11_rest_116 ?_
    refine zr_aload_n (pc := 118) hC 2 rfl rfl dX11_rest_118 ?_
    refine zcg_76_1 (pc := 119) hC hinX11_rest_X11 flX11_rest_68 dX11_rest_119 ?_
    refine zr_iload_n (pc := 122) hC 4 rfl rfl dX11_rest_122 ?_
    refine zr_iconst (pc := 123) hC zki_2 dX11_rest_123 ?_
    obtain ⟨q8, hq8, h⟩ := zbd h
    refine zr_cVi (pc := 124) hC hEk [.int v2, .int (2 : Int32)] [.ref (ad (81 + v4))] 62 2 (fun l D => tX6_bestReply hEk hq8 l D) gX11_rest_X6_bestReply rfl rfl rfl ⟨Nat.le_of_ble_eq_true rfl, Nat.le_of_ble_eq_true rfl⟩ hyX6_bestReply (zNC (by decide)) entC_62 rfl rfl rfl (Nat.le_of_ble_eq_true rfl) ⟨Nat.le_of_ble_eq_true rfl, Nat.le_of_ble_eq_true rfl⟩ dX11_rest_124 ?_
    obtain ⟨q9, hq9, h⟩ := zbd h
    refine vrX11_rest_175 (pc := 127) hC hEk i4 hq9 (rest := []) (Nat.le_of_ble_eq_true rfl) (Nat.le_of_ble_eq_true rfl) (Nat.le_of_ble_eq_true rfl) ⟨Nat.le_of_ble_eq_true rfl, Nat.le_of_ble_eq_true rfl⟩ dX11_rest_127 ?_
    refine zr_aload_n (pc := 130) hC 5 rfl rfl dX11_rest_130 ?_
    obtain ⟨q10, hq10, h⟩ := zbd h
    refine vrX11_rest_133 (pc := 131) hC hEk i2 hq10 (rest := []) (Nat.le_of_ble_eq_true rfl) (Nat.le_of_ble_eq_true rfl) (Nat.le_of_ble_eq_true rfl) ⟨Nat.le_of_ble_eq_true rfl, Nat.le_of_ble_eq_true rfl⟩ dX11_rest_131 ?_
    refine zr_iload (pc := 134) hC 1 rfl dX11_rest_134 ?_
    refine zr_icmp_ne (pc := 136) (tgt := 152) hC dX11_rest_136 (by decide) (fun c11 => ?_) (fun c11 => ?_)
    · replace h := zin h c11
      refine zr_iinc (pc := 152) (k := 7) (lv' := [(5, .int (a.2.2 + (1 : Int32))), (7, .int q5), (6, .int q3), (0, .ref (ad 76)), (1, .int v1), (2, .int v2), (3, .ref (ad (81 + v3))), (4, .ref (ad (81 + v4)))]) hC zki_1 (by decide) rfl rfl dX11_rest_152 ?_
      refine zr_goto (pc := 155) (tgt := 83) hC dX11_rest_155 (by decide) ?_
      obtain rfl := Option.some.inj h
      exact zV.sub (lv' := [(0, .ref (ad 76)), (1, .int v1), (2, .int v2), (3, .ref (ad (81 + v3))), (4, .ref (ad (81 + v4))), (5, .int (a.2.2 + (1 : Int32)))]) [3, 4, 5, 6, 7, 0] rfl (hin _ rfl)
    · replace h := zip h c11
      refine zr_aload (pc := 139) hC 6 rfl dX11_rest_139 ?_
      obtain ⟨q12, hq12, h⟩ := zbd h
      refine vrX11_rest_133 (pc := 141) hC hEk i4 hq12 (rest := []) (Nat.le_of_ble_eq_true rfl) (Nat.le_of_ble_eq_true rfl) (Nat.le_of_ble_eq_true rfl) ⟨Nat.le_of_ble_eq_true rfl, Nat.le_of_ble_eq_true rfl⟩ dX11_rest_141 ?_
      refine zr_iload (pc := 144) hC 0 rfl dX11_rest_144 ?_
      refine zr_icmp_ne (pc := 146) (tgt := 152) hC dX11_rest_146 (by decide) (fun c13 => ?_) (fun c13 => ?_)
      · replace h := zin h c13
        refine zr_iinc (pc := 152) (k := 7) (lv' := [(5, .int (a.2.2 + (1 : Int32))), (7, .int q5), (6, .int q3), (0, .ref (ad 76)), (1, .int v1), (2, .int v2), (3, .ref (ad (81 + v3))), (4, .ref (ad (81 + v4)))]) hC zki_1 (by decide) rfl rfl dX11_rest_152 ?_
        refine zr_goto (pc := 155) (tgt := 83) hC dX11_rest_155 (by decide) ?_
        obtain rfl := Option.some.inj h
        exact zV.sub (lv' := [(0, .ref (ad 76)), (1, .int v1), (2, .int v2), (3, .ref (ad (81 + v3))), (4, .ref (ad (81 + v4))), (5, .int (a.2.2 + (1 : Int32)))]) [3, 4, 5, 6, 7, 0] rfl (hin _ rfl)
      · replace h := zip h c13
        obtain rfl := Option.some.inj h
        exact zV.sub (lv' := [(5, .int a.2.2)]) [7] rfl (hout _ rfl)
def xX11_rest (pT : zM) (pR : zM) (pB : zM) (pP : zP) (v1 : Int32) (v2 : Int32) : Option (Int32 × zM × zM × zP) :=
  (xX6_playerAt pR pP v1).bind fun q1 =>
  (xX6_playerAt pR pP v2).bind fun q2 =>
  zon q1
  ((xX11_refuse pB (-1 : Int32)).bind fun q6 =>
  some (q6.1, pR, q6.2, pP))
  (fun a3 => if pP.2.2.2 ≤ a3 then none else
  zon q2
  ((xX11_refuse pB (-1 : Int32)).bind fun q10 =>
  some (q10.1, pR, q10.2, pP))
  (fun a7 => if pP.2.2.2 ≤ a7 then none else
  if v1 = v2 then
  ((xX11_refuse pB (-1 : Int32)).bind fun q24 =>
  some (q24.1, pR, q24.2, pP))
  else
  (xv_kind pP a3).bind fun q12 =>
  if q12 = (4 : Int32) then
  ((xv_kind pP a7).bind fun q15 =>
  if q15 = (4 : Int32) then
  ((xX10_isWhole pT).bind fun q17 =>
  if q17 = 0 then
  ((xX11_refuse pB (-3 : Int32)).bind fun q22 =>
  some (q22.1, pR, q22.2, pP))
  else
  (x_it (xX11_rest_L83 pT pB v1 v2 a3 a7) zFU (pR, pP, (1 : Int32))).bind fun q19 =>
  Sum.elim (fun b20 => some (b20.2.2, b20.1, pB, b20.2.1)) (fun c21 => some ((-9 : Int32), c21.1, pB, c21.2)) q19)
  else
  (xX11_refuse pB (-2 : Int32)).bind fun q23 =>
  some (q23.1, pR, q23.2, pP))
  else
  (xX11_refuse pB (-2 : Int32)).bind fun q14 =>
  some (q14.1, pR, q14.2, pP)))
set_option maxHeartbeats 4000000 in
set_option maxRecDepth 100000 in
theorem tX11_rest {κ : Nat → ClassId} {tg : Nat} {S : zEn} {ad : Nat → Nat} (hEk : zEk (zE tg S)) {pT : zM} {pR : zM} {pX : zM} {pF : zM} {pB : zM} {pP : zP} {v1 : Int32} {v2 : Int32} {res : (Int32 × zM × zM × zP)} (h : xX11_rest pT pR pB pP v1 v2 = some res) (l : Launch) (D : va_G) : zCT (zE tg S) D vwCl (zty κ) l yX11_rest wsX11_rest ({ frames := 7, cells := 0, slots := 0, locals := 171 } : Room) 0 0 [.ref (ad 76), .int v1, .int v2] (zwC κ ad pT pR pX pF pB pP) (zPd (some (.int res.1)) (zwC κ ad pT res.2.1 pX pF res.2.2.1 res.2.2.2)) := by
  refine zCT.of (cc := cX11_rest) (maxL := 8) (ret := (some .int)) (by decide) rfl (Nat.le_of_ble_eq_true rfl) ?_
  intro X hC hR
  unfold xX11_rest at h
  refine zV.sub (lv' := [(0, .ref (ad 76)), (1, .int v1), (2, .int v2)]) [0, 1, 2] rfl ?_
  refine zr_aload_n (pc := 0) hC 0 rfl rfl dX11_rest_0 ?_
  refine zcg_76_1 (pc := 1) hC hinX11_rest_X11 flX11_rest_68 dX11_rest_1 ?_
  refine zr_iload_n (pc := 4) hC 1 rfl rfl dX11_rest_4 ?_
  obtain ⟨q1, hq1, h⟩ := zbd h
  refine zr_cVr (pc := 5) hC hEk [.int v1] [] 62 1 (fun l D => tX6_playerAt hEk hq1 l D) gX11_rest_X6_playerAt rfl rfl rfl ⟨Nat.le_of_ble_eq_true rfl, Nat.le_of_ble_eq_true rfl⟩ hyX6_playerAt (zNC (by decide)) entC_62 rfl rfl rfl (Nat.le_of_ble_eq_true rfl) ⟨Nat.le_of_ble_eq_true rfl, Nat.le_of_ble_eq_true rfl⟩ dX11_rest_5 ?_
  refine zr_astore_nO (pc := 8) (lv' := [(3, va_rf (q1.map (fun a => ad (81 + a)))), (0, .ref (ad 76)), (1, .int v1), (2, .int v2)]) hC rfl (by decide) rfl dX11_rest_8 ?_
  refine zr_aload_n (pc := 9) hC 1 rfl rfl dX11_rest_9 ?_
  refine zcg_76_1 (pc := 10) hC hinX11_rest_X11 flX11_rest_68 dX11_rest_10 ?_
  refine zr_iload_n (pc := 13) hC 3 rfl rfl dX11_rest_13 ?_
  obtain ⟨q2, hq2, h⟩ := zbd h
  refine zr_cVr (pc := 14) hC hEk [.int v2] [] 62 1 (fun l D => tX6_playerAt hEk hq2 l D) gX11_rest_X6_playerAt rfl rfl rfl ⟨Nat.le_of_ble_eq_true rfl, Nat.le_of_ble_eq_true rfl⟩ hyX6_playerAt (zNC (by decide)) entC_62 rfl rfl rfl (Nat.le_of_ble_eq_true rfl) ⟨Nat.le_of_ble_eq_true rfl, Nat.le_of_ble_eq_true rfl⟩ dX11_rest_14 ?_
  refine zr_astoreO (pc := 17) (lv' := [(4, va_rf (q2.map (fun a => ad (81 + a)))), (3, va_rf (q1.map (fun a => ad (81 + a)))), (0, .ref (ad 76)), (1, .int v1), (2, .int v2)]) hC (by decide) rfl dX11_rest_17 ?_
  refine zr_aload_nO (pc := 19) hC 1 rfl rfl dX11_rest_19 ?_
  refine zr_ifnullM (pc := 20) (tgt := 33) hC dX11_rest_20 (by decide) (fun e4 => ?_) (fun a3 e4 => ?_)
  · replace h := zon_n e4 h
    subst e4
    show zV X 0 0 (zwC κ ad pT pR pX pF q6.2 pP) [(4, va_rf (q2.map (fun a => ad (81 + a)))), (3, va_rf ((none : Option Nat).map (fun a => ad (81 + a)))), (0, .ref (ad 76)), (1, .int v1), (2, .int v2)] [] 33
    refine zr_aload_n (pc := 33) hC 2 rfl rfl dX11_rest_33 ?_
    refine zr_iconst (pc := 34) hC zki_m1 dX11_rest_34 ?_
    obtain ⟨q6, hq6, h⟩ := zbd h
    refine zr_cVi (pc := 35) hC hEk [.int (-1 : Int32)] [] 76 1 (fun l D => tX11_refuse hEk hq6 l D) gX11_rest_X11_refuse rfl rfl rfl ⟨Nat.le_of_ble_eq_true rfl, Nat.le_of_ble_eq_true rfl⟩ hyX11_refuse (zNC (by decide)) entC_76 rfl rfl rfl (Nat.le_of_ble_eq_true rfl) ⟨Nat.le_of_ble_eq_true rfl, Nat.le_of_ble_eq_true rfl⟩ dX11_rest_35 ?_
    obtain rfl := Option.some.inj h
    exact zr_iret hC hR ⟨rfl, rfl⟩ (Nat.le_refl _) (Nat.le_refl _) dX11_rest_38
  · replace h := zon_s e4 h
    subst e4
    obtain ⟨i5, h⟩ := zgd h
    show zV X 0 0 (zwC κ ad pT pR pX pF q24.2 pP) [(4, .ref (ad (81 + a7))), (3, .ref (ad (81 + a3))), (0, .ref (ad 76)), (1, .int v1), (2, .int v2)] [] 23
    refine zr_aloadO (pc := 23) hC 0 rfl dX11_rest_23 ?_
    refine zr_ifnullM (pc := 25) (tgt := 33) hC dX11_rest_25 (by decide) (fun e8 => ?_) (fun a7 e8 => ?_)
    · replace h := zon_n e8 h
      subst e8
      show zV X 0 0 (zwC κ ad pT pR pX pF q10.2 pP) [(4, va_rf ((none : Option Nat).map (fun a => ad (81 + a)))), (3, .ref (ad (81 + a3))), (0, .ref (ad 76)), (1, .int v1), (2, .int v2)] [] 33
      refine zr_aload_n (pc := 33) hC 2 rfl rfl dX11_rest_33 ?_
      refine zr_iconst (pc := 34) hC zki_m1 dX11_rest_34 ?_
      obtain ⟨q10, hq10, h⟩ := zbd h
      refine zr_cVi (pc := 35) hC hEk [.int (-1 : Int32)] [] 76 1 (fun l D => tX11_refuse hEk hq10 l D) gX11_rest_X11_refuse rfl rfl rfl ⟨Nat.le_of_ble_eq_true rfl, Nat.le_of_ble_eq_true rfl⟩ hyX11_refuse (zNC (by decide)) entC_76 rfl rfl rfl (Nat.le_of_ble_eq_true rfl) ⟨Nat.le_of_ble_eq_true rfl, Nat.le_of_ble_eq_true rfl⟩ dX11_rest_35 ?_
      obtain rfl := Option.some.inj h
      exact zr_iret hC hR ⟨rfl, rfl⟩ (Nat.le_refl _) (Nat.le_refl _) dX11_rest_38
    · replace h := zon_s e8 h
      subst e8
      obtain ⟨i9, h⟩ := zgd h
      show zV X 0 0 (zwC κ ad pT pR pX pF q24.2 pP) [(4, .ref (ad (81 + a7))), (3, .ref (ad (81 + a3))), (0, .ref (ad 76)), (1, .int v1), (2, .int v2)] [] 28
      refine zr_iload_n (pc := 28) hC 3 rfl rfl dX11_rest_28 ?_
      refine zr_iload_n (pc := 29) hC 4 rfl rfl dX11_rest_29 ?_
      refine zr_icmp_ne (pc := 30) (tgt := 39) hC dX11_rest_30 (by decide) (fun c11 => ?_) (fun c11 => ?_)
      · replace h := zin h c11
        refine zr_aload_n (pc := 39) hC 1 rfl rfl dX11_rest_39 ?_
        obtain ⟨q12, hq12, h⟩ := zbd h
        refine vrX11_rest_119 (pc := 40) hC hEk i5 hq12 (rest := []) (Nat.le_of_ble_eq_true rfl) (Nat.le_of_ble_eq_true rfl) (Nat.le_of_ble_eq_true rfl) ⟨Nat.le_of_ble_eq_true rfl, Nat.le_of_ble_eq_true rfl⟩ dX11_rest_40 ?_
        refine zr_iconst (pc := 43) hC zki_4 dX11_rest_43 ?_
        refine zr_icmp_ne (pc := 44) (tgt := 56) hC dX11_rest_44 (by decide) (fun c13 => ?_) (fun c13 => ?_)
        · replace h := zin h c13
          refine zr_aload_n (pc := 56) hC 2 rfl rfl dX11_rest_56 ?_
          refine zr_bipush (pc := 57) hC zkb_m2 dX11_rest_57 ?_
          obtain ⟨q14, hq14, h⟩ := zbd h
          refine zr_cVi (pc := 59) hC hEk [.int (-2 : Int32)] [] 76 1 (fun l D => tX11_refuse hEk hq14 l D) gX11_rest_X11_refuse rfl rfl rfl ⟨Nat.le_of_ble_eq_true rfl, Nat.le_of_ble_eq_true rfl⟩ hyX11_refuse (zNC (by decide)) entC_76 rfl rfl rfl (Nat.le_of_ble_eq_true rfl) ⟨Nat.le_of_ble_eq_true rfl, Nat.le_of_ble_eq_true rfl⟩ dX11_rest_59 ?_
          obtain rfl := Option.some.inj h
          exact zr_iret hC hR ⟨rfl, rfl⟩ (Nat.le_refl _) (Nat.le_refl _) dX11_rest_62
        · replace h := zip h c13
          refine zr_aload (pc := 47) hC 0 rfl dX11_rest_47 ?_
          obtain ⟨q15, hq15, h⟩ := zbd h
          refine vrX11_rest_119 (pc := 49) hC hEk i9 hq15 (rest := []) (Nat.le_of_ble_eq_true rfl) (Nat.le_of_ble_eq_true rfl) (Nat.le_of_ble_eq_true rfl) ⟨Nat.le_of_ble_eq_true rfl, Nat.le_of_ble_eq_true rfl⟩ dX11_rest_49 ?_
          refine zr_iconst (pc := 52) hC zki_4 dX11_rest_52 ?_
          refine zr_icmp_eq (pc := 53) (tgt := 63) hC dX11_rest_53 (by decide) (fun c16 => ?_) (fun c16 => ?_)
          · replace h := zip h c16
            refine zr_aload_n (pc := 63) hC 2 rfl rfl dX11_rest_63 ?_
            refine zcg_76_0 (pc := 64) hC hinX11_rest_X11 flX11_rest_59 dX11_rest_64 ?_
            obtain ⟨q17, hq17, h⟩ := zbd h
            refine zr_cVi (pc := 67) hC hEk [] [] 0 0 (fun l D => tX10_isWhole hEk hq17 l D) gX11_rest_X10_isWhole rfl rfl rfl ⟨Nat.le_of_ble_eq_true rfl, Nat.le_of_ble_eq_true rfl⟩ hyX10_isWhole (zNC (by decide)) entC_0 rfl rfl rfl (Nat.le_of_ble_eq_true rfl) ⟨Nat.le_of_ble_eq_true rfl, Nat.le_of_ble_eq_true rfl⟩ dX11_rest_67 ?_
            refine zr_if_ne (pc := 70) (tgt := 80) hC dX11_rest_70 (by decide) (fun c18 => ?_) (fun c18 => ?_)
            · replace h := zin h c18
              refine zr_iconst (pc := 80) hC zki_1 dX11_rest_80 ?_
              refine zr_istore (pc := 81) (lv' := [(5, .int (1 : Int32)), (4, .ref (ad (81 + a7))), (3, .ref (ad (81 + a3))), (0, .ref (ad 76)), (1, .int v1), (2, .int v2)]) hC (by decide) rfl dX11_rest_81 ?_
              obtain ⟨q19, hq19, h⟩ := zbd h
              refine zV.sub (lv' := [(0, .ref (ad 76)), (1, .int v1), (2, .int v2), (3, .ref (ad (81 + a3))), (4, .ref (ad (81 + a7))), (5, .int (1 : Int32))]) [3, 4, 5, 2, 1, 0] rfl ?_
              refine zit (Wp := fun (a : (zM × zP × Int32)) => zV X 0 0 (zwC κ ad pT a.1 pX pF pB a.2.1) [(0, .ref (ad 76)), (1, .int v1), (2, .int v2), (3, .ref (ad (81 + a3))), (4, .ref (ad (81 + a7))), (5, .int a.2.2)] [] 83) (Ex := fun (b : ((zM × zP × Int32) ⊕ (zM × zP))) => Sum.elim (fun b0 => zV X 0 0 (zwC κ ad pT b0.1 pX pF pB b0.2.1) [(5, .int b0.2.2)] [] 149) (fun c0 => zV X 0 0 (zwC κ ad pT c0.1 pX pF pB c0.2) [] [] 158) b) (fun a r hr hin hout => tX11_rest_L83 hC hEk hin hout hr) zFU (pR, pP, (1 : Int32)) q19 hq19 ?_
              rcases q19 with b20 | c21
              · replace h := zel h
                show zV X 0 0 (zwC κ ad pT b20.1 pX pF pB b20.2.1) [(5, .int b20.2.2)] [] 149
                refine zr_iload (pc := 149) hC 0 rfl dX11_rest_149 ?_
                obtain rfl := Option.some.inj h
                exact zr_iret hC hR ⟨rfl, rfl⟩ (Nat.le_refl _) (Nat.le_refl _) dX11_rest_151
              · replace h := zer h
                show zV X 0 0 (zwC κ ad pT c21.1 pX pF pB c21.2) [] [] 158
                refine zr_bipush (pc := 158) hC zkb_m9 dX11_rest_158 ?_
                obtain rfl := Option.some.inj h
                exact zr_iret hC hR ⟨rfl, rfl⟩ (Nat.le_refl _) (Nat.le_refl _) dX11_rest_160
            · replace h := zip h c18
              refine zr_aload_n (pc := 73) hC 2 rfl rfl dX11_rest_73 ?_
              refine zr_bipush (pc := 74) hC zkb_m3 dX11_rest_74 ?_
              obtain ⟨q22, hq22, h⟩ := zbd h
              refine zr_cVi (pc := 76) hC hEk [.int (-3 : Int32)] [] 76 1 (fun l D => tX11_refuse hEk hq22 l D) gX11_rest_X11_refuse rfl rfl rfl ⟨Nat.le_of_ble_eq_true rfl, Nat.le_of_ble_eq_true rfl⟩ hyX11_refuse (zNC (by decide)) entC_76 rfl rfl rfl (Nat.le_of_ble_eq_true rfl) ⟨Nat.le_of_ble_eq_true rfl, Nat.le_of_ble_eq_true rfl⟩ dX11_rest_76 ?_
              obtain rfl := Option.some.inj h
              exact zr_iret hC hR ⟨rfl, rfl⟩ (Nat.le_refl _) (Nat.le_refl _) dX11_rest_79
          · replace h := zin h c16
            refine zr_aload_n (pc := 56) hC 2 rfl rfl dX11_rest_56 ?_
            refine zr_bipush (pc := 57) hC zkb_m2 dX11_rest_57 ?_
            obtain ⟨q23, hq23, h⟩ := zbd h
            refine zr_cVi (pc := 59) hC hEk [.int (-2 : Int32)] [] 76 1 (fun l D => tX11_refuse hEk hq23 l D) gX11_rest_X11_refuse rfl rfl rfl ⟨Nat.le_of_ble_eq_true rfl, Nat.le_of_ble_eq_true rfl⟩ hyX11_refuse (zNC (by decide)) entC_76 rfl rfl rfl (Nat.le_of_ble_eq_true rfl) ⟨Nat.le_of_ble_eq_true rfl, Nat.le_of_ble_eq_true rfl⟩ dX11_rest_59 ?_
            obtain rfl := Option.some.inj h
            exact zr_iret hC hR ⟨rfl, rfl⟩ (Nat.le_refl _) (Nat.le_refl _) dX11_rest_62
      · replace h := zip h c11
        refine zr_aload_n (pc := 33) hC 2 rfl rfl dX11_rest_33 ?_
        refine zr_iconst (pc := 34) hC zki_m1 dX11_rest_34 ?_
        obtain ⟨q24, hq24, h⟩ := zbd h
        refine zr_cVi (pc := 35) hC hEk [.int (-1 : Int32)] [] 76 1 (fun l D => tX11_refuse hEk hq24 l D) gX11_rest_X11_refuse rfl rfl rfl ⟨Nat.le_of_ble_eq_true rfl, Nat.le_of_ble_eq_true rfl⟩ hyX11_refuse (zNC (by decide)) entC_76 rfl rfl rfl (Nat.le_of_ble_eq_true rfl) ⟨Nat.le_of_ble_eq_true rfl, Nat.le_of_ble_eq_true rfl⟩ dX11_rest_35 ?_
        obtain rfl := Option.some.inj h
        exact zr_iret hC hR ⟨rfl, rfl⟩ (Nat.le_refl _) (Nat.le_refl _) dX11_rest_38
/-! X11_law -/
theorem hyX11_law : yX11_law.cls = RX11 ∧ yX11_law.cls ≠ "java/lang/invoke/MethodHandle" ∧ yX11_law.cls ≠ "java/lang/invoke/VarHandle" ∧ (parseMethodDescriptor yX11_law.desc).map (fun d => d.parameters.length) = some 1 := by decide +kernel
theorem flX11_law_59 : Cond.fieldLink RX11 59 "BeforeTheEnd" "tree" "LBeforeTheEnd$Tree;" ∈ wsX11_law := by decide +kernel
theorem flX11_law_68 : Cond.fieldLink RX11 68 "BeforeTheEnd" "race" "LBeforeTheEnd$Race;" ∈ wsX11_law := by decide +kernel
theorem hinX11_law_X11 : ∀ w ∈ wsX110, w ∈ wsX11_law := fun _ h => List.mem_cons_of_mem _ (List.mem_append_left _ (List.mem_append_left _ (List.mem_append_left _ (List.mem_append_left _ (List.mem_append_left _ (List.mem_append_left _ (List.mem_append_left _ (List.mem_append_left _ (List.mem_append_right _ h)))))))))
theorem hinX11_law_X10 : ∀ w ∈ wsX100, w ∈ wsX11_law := fun _ h => List.mem_cons_of_mem _ (List.mem_append_left _ (List.mem_append_left _ (List.mem_append_left _ (List.mem_append_left _ (List.mem_append_left _ (List.mem_append_left _ (List.mem_append_left _ (List.mem_append_right _ h))))))))
theorem hinX11_law_X6 : ∀ w ∈ wsX60, w ∈ wsX11_law := fun _ h => List.mem_cons_of_mem _ (List.mem_append_left _ (List.mem_append_left _ (List.mem_append_left _ (List.mem_append_left _ (List.mem_append_left _ (List.mem_append_left _ (List.mem_append_right _ h)))))))
theorem hinX11_law_X0 : ∀ w ∈ wsX00, w ∈ wsX11_law := fun _ h => List.mem_cons_of_mem _ (List.mem_append_left _ (List.mem_append_left _ (List.mem_append_left _ (List.mem_append_left _ (List.mem_append_left _ (List.mem_append_right _ h))))))
theorem hinX11_law_X1 : ∀ w ∈ wsX10, w ∈ wsX11_law := fun _ h => List.mem_cons_of_mem _ (List.mem_append_left _ (List.mem_append_left _ (List.mem_append_left _ (List.mem_append_left _ (List.mem_append_right _ h)))))
theorem hinX11_law_X2 : ∀ w ∈ wsX20, w ∈ wsX11_law := fun _ h => List.mem_cons_of_mem _ (List.mem_append_left _ (List.mem_append_left _ (List.mem_append_left _ (List.mem_append_right _ h))))
theorem hinX11_law_X4 : ∀ w ∈ wsX40, w ∈ wsX11_law := fun _ h => List.mem_cons_of_mem _ (List.mem_append_left _ (List.mem_append_left _ (List.mem_append_right _ h)))
theorem hinX11_law_X7 : ∀ w ∈ wsX70, w ∈ wsX11_law := fun _ h => List.mem_cons_of_mem _ (List.mem_append_left _ (List.mem_append_right _ h))
theorem hinX11_law_X9 : ∀ w ∈ wsX90, w ∈ wsX11_law := fun _ h => List.mem_cons_of_mem _ (List.mem_append_right _ h)
def xX11_law (pT : zM) (pR : zM) (pB : zM) (pP : zP) (v1 : Int32) : Option (Int32 × zM × zM) :=
  if 0 ≤ v1 then
  (if v1 ≤ (100 : Int32) then
  ((xX10_isWhole pT).bind fun q3 =>
  if q3 = 0 then
  ((xX11_refuse pB (-3 : Int32)).bind fun q6 =>
  some (q6.1, pR, q6.2))
  else
  (xX6_leastWrong pT pR pP v1).bind fun q5 =>
  some (q5.1, q5.2, pB))
  else
  (xX11_refuse pB (-6 : Int32)).bind fun q7 =>
  some (q7.1, pR, q7.2))
  else
  (xX11_refuse pB (-4 : Int32)).bind fun q8 =>
  some (q8.1, pR, q8.2)
set_option maxHeartbeats 4000000 in
set_option maxRecDepth 100000 in
theorem tX11_law {κ : Nat → ClassId} {tg : Nat} {S : zEn} {ad : Nat → Nat} (hEk : zEk (zE tg S)) {pT : zM} {pR : zM} {pX : zM} {pF : zM} {pB : zM} {pP : zP} {v1 : Int32} {res : (Int32 × zM × zM)} (h : xX11_law pT pR pB pP v1 = some res) (l : Launch) (D : va_G) : zCT (zE tg S) D vwCl (zty κ) l yX11_law wsX11_law ({ frames := 7, cells := 0, slots := 0, locals := 165 } : Room) 0 0 [.ref (ad 76), .int v1] (zwC κ ad pT pR pX pF pB pP) (zPd (some (.int res.1)) (zwC κ ad pT res.2.1 pX pF res.2.2 pP)) := by
  refine zCT.of (cc := cX11_law) (maxL := 2) (ret := (some .int)) (by decide) rfl (Nat.le_of_ble_eq_true rfl) ?_
  intro X hC hR
  unfold xX11_law at h
  refine zV.sub (lv' := [(0, .ref (ad 76)), (1, .int v1)]) [0, 1] rfl ?_
  refine zr_iload_n (pc := 0) hC 1 rfl rfl dX11_law_0 ?_
  refine zr_if_ge (pc := 1) (tgt := 11) hC dX11_law_1 (by decide) (fun c1 => ?_) (fun c1 => ?_)
  · replace h := zip h c1
    refine zr_iload_n (pc := 11) hC 1 rfl rfl dX11_law_11 ?_
    refine zr_bipush (pc := 12) hC zkb_100 dX11_law_12 ?_
    refine zr_icmp_le (pc := 14) (tgt := 24) hC dX11_law_14 (by decide) (fun c2 => ?_) (fun c2 => ?_)
    · replace h := zip h c2
      refine zr_aload_n (pc := 24) hC 0 rfl rfl dX11_law_24 ?_
      refine zcg_76_0 (pc := 25) hC hinX11_law_X11 flX11_law_59 dX11_law_25 ?_
      obtain ⟨q3, hq3, h⟩ := zbd h
      refine zr_cVi (pc := 28) hC hEk [] [] 0 0 (fun l D => tX10_isWhole hEk hq3 l D) gX11_law_X10_isWhole rfl rfl rfl ⟨Nat.le_of_ble_eq_true rfl, Nat.le_of_ble_eq_true rfl⟩ hyX10_isWhole (zNC (by decide)) entC_0 rfl rfl rfl (Nat.le_of_ble_eq_true rfl) ⟨Nat.le_of_ble_eq_true rfl, Nat.le_of_ble_eq_true rfl⟩ dX11_law_28 ?_
      refine zr_if_ne (pc := 31) (tgt := 41) hC dX11_law_31 (by decide) (fun c4 => ?_) (fun c4 => ?_)
      · replace h := zin h c4
        refine zr_aload_n (pc := 41) hC 0 rfl rfl dX11_law_41 ?_
        refine zcg_76_1 (pc := 42) hC hinX11_law_X11 flX11_law_68 dX11_law_42 ?_
        refine zr_iload_n (pc := 45) hC 1 rfl rfl dX11_law_45 ?_
        obtain ⟨q5, hq5, h⟩ := zbd h
        refine zr_cVi (pc := 46) hC hEk [.int v1] [] 62 1 (fun l D => tX6_leastWrong hEk hq5 l D) gX11_law_X6_leastWrong rfl rfl rfl ⟨Nat.le_of_ble_eq_true rfl, Nat.le_of_ble_eq_true rfl⟩ hyX6_leastWrong (zNC (by decide)) entC_62 rfl rfl rfl (Nat.le_of_ble_eq_true rfl) ⟨Nat.le_of_ble_eq_true rfl, Nat.le_of_ble_eq_true rfl⟩ dX11_law_46 ?_
        obtain rfl := Option.some.inj h
        exact zr_iret hC hR ⟨rfl, rfl⟩ (Nat.le_refl _) (Nat.le_refl _) dX11_law_49
      · replace h := zip h c4
        refine zr_aload_n (pc := 34) hC 0 rfl rfl dX11_law_34 ?_
        refine zr_bipush (pc := 35) hC zkb_m3 dX11_law_35 ?_
        obtain ⟨q6, hq6, h⟩ := zbd h
        refine zr_cVi (pc := 37) hC hEk [.int (-3 : Int32)] [] 76 1 (fun l D => tX11_refuse hEk hq6 l D) gX11_law_X11_refuse rfl rfl rfl ⟨Nat.le_of_ble_eq_true rfl, Nat.le_of_ble_eq_true rfl⟩ hyX11_refuse (zNC (by decide)) entC_76 rfl rfl rfl (Nat.le_of_ble_eq_true rfl) ⟨Nat.le_of_ble_eq_true rfl, Nat.le_of_ble_eq_true rfl⟩ dX11_law_37 ?_
        obtain rfl := Option.some.inj h
        exact zr_iret hC hR ⟨rfl, rfl⟩ (Nat.le_refl _) (Nat.le_refl _) dX11_law_40
    · replace h := zin h c2
      refine zr_aload_n (pc := 17) hC 0 rfl rfl dX11_law_17 ?_
      refine zr_bipush (pc := 18) hC zkb_m6 dX11_law_18 ?_
      obtain ⟨q7, hq7, h⟩ := zbd h
      refine zr_cVi (pc := 20) hC hEk [.int (-6 : Int32)] [] 76 1 (fun l D => tX11_refuse hEk hq7 l D) gX11_law_X11_refuse rfl rfl rfl ⟨Nat.le_of_ble_eq_true rfl, Nat.le_of_ble_eq_true rfl⟩ hyX11_refuse (zNC (by decide)) entC_76 rfl rfl rfl (Nat.le_of_ble_eq_true rfl) ⟨Nat.le_of_ble_eq_true rfl, Nat.le_of_ble_eq_true rfl⟩ dX11_law_20 ?_
      obtain rfl := Option.some.inj h
      exact zr_iret hC hR ⟨rfl, rfl⟩ (Nat.le_refl _) (Nat.le_refl _) dX11_law_23
  · replace h := zin h c1
    refine zr_aload_n (pc := 4) hC 0 rfl rfl dX11_law_4 ?_
    refine zr_bipush (pc := 5) hC zkb_m4 dX11_law_5 ?_
    obtain ⟨q8, hq8, h⟩ := zbd h
    refine zr_cVi (pc := 7) hC hEk [.int (-4 : Int32)] [] 76 1 (fun l D => tX11_refuse hEk hq8 l D) gX11_law_X11_refuse rfl rfl rfl ⟨Nat.le_of_ble_eq_true rfl, Nat.le_of_ble_eq_true rfl⟩ hyX11_refuse (zNC (by decide)) entC_76 rfl rfl rfl (Nat.le_of_ble_eq_true rfl) ⟨Nat.le_of_ble_eq_true rfl, Nat.le_of_ble_eq_true rfl⟩ dX11_law_7 ?_
    obtain rfl := Option.some.inj h
    exact zr_iret hC hR ⟨rfl, rfl⟩ (Nat.le_refl _) (Nat.le_refl _) dX11_law_10
/-! X11_mostEarly -/
theorem hyX11_mostEarly : yX11_mostEarly.cls = RX11 ∧ yX11_mostEarly.cls ≠ "java/lang/invoke/MethodHandle" ∧ yX11_mostEarly.cls ≠ "java/lang/invoke/VarHandle" ∧ (parseMethodDescriptor yX11_mostEarly.desc).map (fun d => d.parameters.length) = some 1 := by decide +kernel
theorem flX11_mostEarly_59 : Cond.fieldLink RX11 59 "BeforeTheEnd" "tree" "LBeforeTheEnd$Tree;" ∈ wsX11_mostEarly := by decide +kernel
theorem flX11_mostEarly_68 : Cond.fieldLink RX11 68 "BeforeTheEnd" "race" "LBeforeTheEnd$Race;" ∈ wsX11_mostEarly := by decide +kernel
theorem hinX11_mostEarly_X11 : ∀ w ∈ wsX110, w ∈ wsX11_mostEarly := fun _ h => List.mem_cons_of_mem _ (List.mem_append_left _ (List.mem_append_left _ (List.mem_append_left _ (List.mem_append_left _ (List.mem_append_left _ (List.mem_append_left _ (List.mem_append_left _ (List.mem_append_left _ (List.mem_append_right _ h)))))))))
theorem hinX11_mostEarly_X6 : ∀ w ∈ wsX60, w ∈ wsX11_mostEarly := fun _ h => List.mem_cons_of_mem _ (List.mem_append_left _ (List.mem_append_left _ (List.mem_append_left _ (List.mem_append_left _ (List.mem_append_left _ (List.mem_append_left _ (List.mem_append_left _ (List.mem_append_right _ h))))))))
theorem hinX11_mostEarly_X10 : ∀ w ∈ wsX100, w ∈ wsX11_mostEarly := fun _ h => List.mem_cons_of_mem _ (List.mem_append_left _ (List.mem_append_left _ (List.mem_append_left _ (List.mem_append_left _ (List.mem_append_left _ (List.mem_append_left _ (List.mem_append_right _ h)))))))
theorem hinX11_mostEarly_X0 : ∀ w ∈ wsX00, w ∈ wsX11_mostEarly := fun _ h => List.mem_cons_of_mem _ (List.mem_append_left _ (List.mem_append_left _ (List.mem_append_left _ (List.mem_append_left _ (List.mem_append_left _ (List.mem_append_right _ h))))))
theorem hinX11_mostEarly_X1 : ∀ w ∈ wsX10, w ∈ wsX11_mostEarly := fun _ h => List.mem_cons_of_mem _ (List.mem_append_left _ (List.mem_append_left _ (List.mem_append_left _ (List.mem_append_left _ (List.mem_append_right _ h)))))
theorem hinX11_mostEarly_X2 : ∀ w ∈ wsX20, w ∈ wsX11_mostEarly := fun _ h => List.mem_cons_of_mem _ (List.mem_append_left _ (List.mem_append_left _ (List.mem_append_left _ (List.mem_append_right _ h))))
theorem hinX11_mostEarly_X4 : ∀ w ∈ wsX40, w ∈ wsX11_mostEarly := fun _ h => List.mem_cons_of_mem _ (List.mem_append_left _ (List.mem_append_left _ (List.mem_append_right _ h)))
theorem hinX11_mostEarly_X7 : ∀ w ∈ wsX70, w ∈ wsX11_mostEarly := fun _ h => List.mem_cons_of_mem _ (List.mem_append_left _ (List.mem_append_right _ h))
theorem hinX11_mostEarly_X9 : ∀ w ∈ wsX90, w ∈ wsX11_mostEarly := fun _ h => List.mem_cons_of_mem _ (List.mem_append_right _ h)
def xX11_mostEarly (pT : zM) (pR : zM) (pB : zM) (pP : zP) (v1 : Int32) : Option (Int32 × zM × zM) :=
  (xX6_playerAt pR pP v1).bind fun q1 =>
  zon q1
  ((xX11_refuse pB (-1 : Int32)).bind fun q5 =>
  some (q5.1, pR, q5.2))
  (fun a2 => if pP.2.2.2 ≤ a2 then none else
  (xX10_isWhole pT).bind fun q6 =>
  if q6 = 0 then
  ((xX11_refuse pB (-3 : Int32)).bind fun q9 =>
  some (q9.1, pR, q9.2))
  else
  (xX6_bestEarly pT pR pP v1).bind fun q8 =>
  some (q8.1, q8.2, pB))
set_option maxHeartbeats 4000000 in
set_option maxRecDepth 100000 in
theorem tX11_mostEarly {κ : Nat → ClassId} {tg : Nat} {S : zEn} {ad : Nat → Nat} (hEk : zEk (zE tg S)) {pT : zM} {pR : zM} {pX : zM} {pF : zM} {pB : zM} {pP : zP} {v1 : Int32} {res : (Int32 × zM × zM)} (h : xX11_mostEarly pT pR pB pP v1 = some res) (l : Launch) (D : va_G) : zCT (zE tg S) D vwCl (zty κ) l yX11_mostEarly wsX11_mostEarly ({ frames := 7, cells := 0, slots := 0, locals := 169 } : Room) 0 0 [.ref (ad 76), .int v1] (zwC κ ad pT pR pX pF pB pP) (zPd (some (.int res.1)) (zwC κ ad pT res.2.1 pX pF res.2.2 pP)) := by
  refine zCT.of (cc := cX11_mostEarly) (maxL := 2) (ret := (some .int)) (by decide) rfl (Nat.le_of_ble_eq_true rfl) ?_
  intro X hC hR
  unfold xX11_mostEarly at h
  refine zV.sub (lv' := [(0, .ref (ad 76)), (1, .int v1)]) [0, 1] rfl ?_
  refine zr_aload_n (pc := 0) hC 0 rfl rfl dX11_mostEarly_0 ?_
  refine zcg_76_1 (pc := 1) hC hinX11_mostEarly_X11 flX11_mostEarly_68 dX11_mostEarly_1 ?_
  refine zr_iload_n (pc := 4) hC 1 rfl rfl dX11_mostEarly_4 ?_
  obtain ⟨q1, hq1, h⟩ := zbd h
  refine zr_cVr (pc := 5) hC hEk [.int v1] [] 62 1 (fun l D => tX6_playerAt hEk hq1 l D) gX11_mostEarly_X6_playerAt rfl rfl rfl ⟨Nat.le_of_ble_eq_true rfl, Nat.le_of_ble_eq_true rfl⟩ hyX6_playerAt (zNC (by decide)) entC_62 rfl rfl rfl (Nat.le_of_ble_eq_true rfl) ⟨Nat.le_of_ble_eq_true rfl, Nat.le_of_ble_eq_true rfl⟩ dX11_mostEarly_5 ?_
  refine zr_ifnonnullM (pc := 8) (tgt := 17) hC dX11_mostEarly_8 (by decide) (fun a2 e3 => ?_) (fun e3 => ?_)
  · replace h := zon_s e3 h
    subst e3
    obtain ⟨i4, h⟩ := zgd h
    show zV X 0 0 (zwC κ ad pT pR pX pF q9.2 pP) [(0, .ref (ad 76)), (1, .int v1)] [] 17
    refine zr_aload_n (pc := 17) hC 0 rfl rfl dX11_mostEarly_17 ?_
    refine zcg_76_0 (pc := 18) hC hinX11_mostEarly_X11 flX11_mostEarly_59 dX11_mostEarly_18 ?_
    obtain ⟨q6, hq6, h⟩ := zbd h
    refine zr_cVi (pc := 21) hC hEk [] [] 0 0 (fun l D => tX10_isWhole hEk hq6 l D) gX11_mostEarly_X10_isWhole rfl rfl rfl ⟨Nat.le_of_ble_eq_true rfl, Nat.le_of_ble_eq_true rfl⟩ hyX10_isWhole (zNC (by decide)) entC_0 rfl rfl rfl (Nat.le_of_ble_eq_true rfl) ⟨Nat.le_of_ble_eq_true rfl, Nat.le_of_ble_eq_true rfl⟩ dX11_mostEarly_21 ?_
    refine zr_if_ne (pc := 24) (tgt := 34) hC dX11_mostEarly_24 (by decide) (fun c7 => ?_) (fun c7 => ?_)
    · replace h := zin h c7
      refine zr_aload_n (pc := 34) hC 0 rfl rfl dX11_mostEarly_34 ?_
      refine zcg_76_1 (pc := 35) hC hinX11_mostEarly_X11 flX11_mostEarly_68 dX11_mostEarly_35 ?_
      refine zr_iload_n (pc := 38) hC 1 rfl rfl dX11_mostEarly_38 ?_
      obtain ⟨q8, hq8, h⟩ := zbd h
      refine zr_cVi (pc := 39) hC hEk [.int v1] [] 62 1 (fun l D => tX6_bestEarly hEk hq8 l D) gX11_mostEarly_X6_bestEarly rfl rfl rfl ⟨Nat.le_of_ble_eq_true rfl, Nat.le_of_ble_eq_true rfl⟩ hyX6_bestEarly (zNC (by decide)) entC_62 rfl rfl rfl (Nat.le_of_ble_eq_true rfl) ⟨Nat.le_of_ble_eq_true rfl, Nat.le_of_ble_eq_true rfl⟩ dX11_mostEarly_39 ?_
      obtain rfl := Option.some.inj h
      exact zr_iret hC hR ⟨rfl, rfl⟩ (Nat.le_refl _) (Nat.le_refl _) dX11_mostEarly_42
    · replace h := zip h c7
      refine zr_aload_n (pc := 27) hC 0 rfl rfl dX11_mostEarly_27 ?_
      refine zr_bipush (pc := 28) hC zkb_m3 dX11_mostEarly_28 ?_
      obtain ⟨q9, hq9, h⟩ := zbd h
      refine zr_cVi (pc := 30) hC hEk [.int (-3 : Int32)] [] 76 1 (fun l D => tX11_refuse hEk hq9 l D) gX11_mostEarly_X11_refuse rfl rfl rfl ⟨Nat.le_of_ble_eq_true rfl, Nat.le_of_ble_eq_true rfl⟩ hyX11_refuse (zNC (by decide)) entC_76 rfl rfl rfl (Nat.le_of_ble_eq_true rfl) ⟨Nat.le_of_ble_eq_true rfl, Nat.le_of_ble_eq_true rfl⟩ dX11_mostEarly_30 ?_
      obtain rfl := Option.some.inj h
      exact zr_iret hC hR ⟨rfl, rfl⟩ (Nat.le_refl _) (Nat.le_refl _) dX11_mostEarly_33
  · replace h := zon_n e3 h
    subst e3
    show zV X 0 0 (zwC κ ad pT pR pX pF q5.2 pP) [(0, .ref (ad 76)), (1, .int v1)] [] 11
    refine zr_aload_n (pc := 11) hC 0 rfl rfl dX11_mostEarly_11 ?_
    refine zr_iconst (pc := 12) hC zki_m1 dX11_mostEarly_12 ?_
    obtain ⟨q5, hq5, h⟩ := zbd h
    refine zr_cVi (pc := 13) hC hEk [.int (-1 : Int32)] [] 76 1 (fun l D => tX11_refuse hEk hq5 l D) gX11_mostEarly_X11_refuse rfl rfl rfl ⟨Nat.le_of_ble_eq_true rfl, Nat.le_of_ble_eq_true rfl⟩ hyX11_refuse (zNC (by decide)) entC_76 rfl rfl rfl (Nat.le_of_ble_eq_true rfl) ⟨Nat.le_of_ble_eq_true rfl, Nat.le_of_ble_eq_true rfl⟩ dX11_mostEarly_13 ?_
    obtain rfl := Option.some.inj h
    exact zr_iret hC hR ⟨rfl, rfl⟩ (Nat.le_refl _) (Nat.le_refl _) dX11_mostEarly_16
/-! X11_silent -/
set_option maxHeartbeats 4000000 in
theorem vrX11_silent_119 {κ : Nat → ClassId} {tg : Nat} {S : zEn} {ad : Nat → Nat} {X : zX} {cells slots nL pc a : Nat} {lv : zLv} {rm : Room} {pT pR pX pF pB : zM} {pP : zP}  {q : Int32} (hC : zC X cX11_silent RX11 wsX11_silent vwCl (zty κ) (zE tg S) nL rm) (hEk : zEk (zE tg S)) (ha : ¬ pP.2.2.2 ≤ a) (hq : xv_kind pP a  = some q) {rest : List Value} (hcat : (rest.map fun v => v.category).sum ≤ 8) (hf : 1 ≤ rm.frames) (hl : 20 ≤ rm.locals) (hfit : cells + 0 ≤ rm.cells ∧ slots + 0 ≤ rm.slots) (hd : decode cX11_silent pc = .ok (.invokevirtual 119, 3)) (kk : zV X cells slots (zwC κ ad pT pR pX pF pB pP) lv (.int q :: rest) (pc + 3)) : zV X cells slots (zwC κ ad pT pR pX pF pB pP) lv (.ref (ad (81 + a)) :: rest) pc := by
  have ha2 : a < pP.2.2.2 := by omega
  unfold xv_kind at hq
  by_cases k0 : pP.2.1 a = 0
  · replace hq := zip hq k0
    obtain ⟨q2, hq2, hq⟩ := zbd hq
    obtain rfl := Option.some.inj hq
    exact zr_cAi hC hEk [] rest (81 + a) 0 (fun l D => tX2_kind_k0 hEk k0 ha2 hq2 l D) gX11_silent_X2_kind_u119X2 zE_kind rfl rfl rfl ⟨Nat.le_trans (Nat.le_of_ble_eq_true rfl) hf, Nat.le_trans (Nat.le_of_ble_eq_true rfl) hl⟩ hxv_kind (by omega) (entC_p0 k0) rfl rfl rfl hcat hfit hd kk
  replace hq := zin hq k0
  by_cases k1 : pP.2.1 a = 1
  · replace hq := zip hq k1
    obtain ⟨q2, hq2, hq⟩ := zbd hq
    obtain rfl := Option.some.inj hq
    exact zr_cAi hC hEk [] rest (81 + a) 0 (fun l D => tX7_kind_k1 hEk k1 ha2 hq2 l D) gX11_silent_X7_kind_u119X7 zE_kind rfl rfl rfl ⟨Nat.le_trans (Nat.le_of_ble_eq_true rfl) hf, Nat.le_trans (Nat.le_of_ble_eq_true rfl) hl⟩ hxv_kind (by omega) (entC_p1 k1) rfl rfl rfl hcat hfit hd kk
  replace hq := zin hq k1
  by_cases k2 : pP.2.1 a = 2
  · replace hq := zip hq k2
    obtain ⟨q2, hq2, hq⟩ := zbd hq
    obtain rfl := Option.some.inj hq
    exact zr_cAi hC hEk [] rest (81 + a) 0 (fun l D => tX1_kind_k2 hEk k2 ha2 hq2 l D) gX11_silent_X1_kind_u119X1 zE_kind rfl rfl rfl ⟨Nat.le_trans (Nat.le_of_ble_eq_true rfl) hf, Nat.le_trans (Nat.le_of_ble_eq_true rfl) hl⟩ hxv_kind (by omega) (entC_p2 k2) rfl rfl rfl hcat hfit hd kk
  replace hq := zin hq k2
  by_cases k3 : pP.2.1 a = 3
  · replace hq := zip hq k3
    obtain ⟨q2, hq2, hq⟩ := zbd hq
    obtain rfl := Option.some.inj hq
    exact zr_cAi hC hEk [] rest (81 + a) 0 (fun l D => tX4_kind_k3 hEk k3 ha2 hq2 l D) gX11_silent_X4_kind_u119X4 zE_kind rfl rfl rfl ⟨Nat.le_trans (Nat.le_of_ble_eq_true rfl) hf, Nat.le_trans (Nat.le_of_ble_eq_true rfl) hl⟩ hxv_kind (by omega) (entC_p3 k3) rfl rfl rfl hcat hfit hd kk
  replace hq := zin hq k3
  by_cases k4 : pP.2.1 a = 4
  · replace hq := zip hq k4
    obtain ⟨q2, hq2, hq⟩ := zbd hq
    obtain rfl := Option.some.inj hq
    exact zr_cAi hC hEk [] rest (81 + a) 0 (fun l D => tX9_kind_k4 hEk k4 ha2 hq2 l D) gX11_silent_X9_kind_u119X9 zE_kind rfl rfl rfl ⟨Nat.le_trans (Nat.le_of_ble_eq_true rfl) hf, Nat.le_trans (Nat.le_of_ble_eq_true rfl) hl⟩ hxv_kind (by omega) (entC_p4 k4) rfl rfl rfl hcat hfit hd kk
  replace hq := zin hq k4
  obtain ⟨q2, hq2, hq⟩ := zbd hq
  obtain rfl := Option.some.inj hq
  exact zr_cAi hC hEk [] rest (81 + a) 0 (fun l D => tX0_kind_k5 hEk ⟨k0, k1, k2, k3, k4⟩ ha2 hq2 l D) gX11_silent_X0_kind_u119X0 zE_kind rfl rfl rfl ⟨Nat.le_trans (Nat.le_of_ble_eq_true rfl) hf, Nat.le_trans (Nat.le_of_ble_eq_true rfl) hl⟩ hxv_kind (by omega) (entC_p5 ⟨k0, k1, k2, k3, k4⟩) rfl rfl rfl hcat hfit hd kk
theorem hyX11_silent : yX11_silent.cls = RX11 ∧ yX11_silent.cls ≠ "java/lang/invoke/MethodHandle" ∧ yX11_silent.cls ≠ "java/lang/invoke/VarHandle" ∧ (parseMethodDescriptor yX11_silent.desc).map (fun d => d.parameters.length) = some 2 := by decide +kernel
theorem flX11_silent_59 : Cond.fieldLink RX11 59 "BeforeTheEnd" "tree" "LBeforeTheEnd$Tree;" ∈ wsX11_silent := by decide +kernel
theorem flX11_silent_68 : Cond.fieldLink RX11 68 "BeforeTheEnd" "race" "LBeforeTheEnd$Race;" ∈ wsX11_silent := by decide +kernel
theorem hinX11_silent_X11 : ∀ w ∈ wsX110, w ∈ wsX11_silent := fun _ h => List.mem_cons_of_mem _ (List.mem_append_left _ (List.mem_append_left _ (List.mem_append_left _ (List.mem_append_left _ (List.mem_append_left _ (List.mem_append_left _ (List.mem_append_left _ (List.mem_append_left _ (List.mem_append_right _ h)))))))))
theorem hinX11_silent_X6 : ∀ w ∈ wsX60, w ∈ wsX11_silent := fun _ h => List.mem_cons_of_mem _ (List.mem_append_left _ (List.mem_append_left _ (List.mem_append_left _ (List.mem_append_left _ (List.mem_append_left _ (List.mem_append_left _ (List.mem_append_left _ (List.mem_append_right _ h))))))))
theorem hinX11_silent_X10 : ∀ w ∈ wsX100, w ∈ wsX11_silent := fun _ h => List.mem_cons_of_mem _ (List.mem_append_left _ (List.mem_append_left _ (List.mem_append_left _ (List.mem_append_left _ (List.mem_append_left _ (List.mem_append_left _ (List.mem_append_right _ h)))))))
theorem hinX11_silent_X0 : ∀ w ∈ wsX00, w ∈ wsX11_silent := fun _ h => List.mem_cons_of_mem _ (List.mem_append_left _ (List.mem_append_left _ (List.mem_append_left _ (List.mem_append_left _ (List.mem_append_left _ (List.mem_append_right _ h))))))
theorem hinX11_silent_X1 : ∀ w ∈ wsX10, w ∈ wsX11_silent := fun _ h => List.mem_cons_of_mem _ (List.mem_append_left _ (List.mem_append_left _ (List.mem_append_left _ (List.mem_append_left _ (List.mem_append_right _ h)))))
theorem hinX11_silent_X2 : ∀ w ∈ wsX20, w ∈ wsX11_silent := fun _ h => List.mem_cons_of_mem _ (List.mem_append_left _ (List.mem_append_left _ (List.mem_append_left _ (List.mem_append_right _ h))))
theorem hinX11_silent_X4 : ∀ w ∈ wsX40, w ∈ wsX11_silent := fun _ h => List.mem_cons_of_mem _ (List.mem_append_left _ (List.mem_append_left _ (List.mem_append_right _ h)))
theorem hinX11_silent_X7 : ∀ w ∈ wsX70, w ∈ wsX11_silent := fun _ h => List.mem_cons_of_mem _ (List.mem_append_left _ (List.mem_append_right _ h))
theorem hinX11_silent_X9 : ∀ w ∈ wsX90, w ∈ wsX11_silent := fun _ h => List.mem_cons_of_mem _ (List.mem_append_right _ h)
def xX11_silent_L76 (pT : zM) (pB : zM) (pP : zP) (v2 : Int32) (v3 : Nat) (a : (zM × Int32 × Int32)) : Option ((zM × Int32 × Int32) ⊕ (zM × Int32)) :=
  if (10 : Int32) ≤ a.2.2 then
  (some (.inr (a.1, a.2.1)))
  else
  (xX6_pressBits pT a.1 pP (some v3) ((1 : Int32) <<< (a.2.2 &&& 31)) (0 : Int32)).bind fun q2 =>
  (xX10_wayTo pT v2).bind fun q3 =>
  if (q2.1 &&& q3) = 0 then
  (some (.inl (q2.2, a.2.1, (a.2.2 + (1 : Int32)))))
  else
  zlet (a.2.1 ||| ((1 : Int32) <<< (a.2.2 &&& 31))) fun z5 =>
  some (.inl (q2.2, z5, (a.2.2 + (1 : Int32))))
set_option maxHeartbeats 4000000 in
set_option maxRecDepth 100000 in
theorem tX11_silent_L76 {κ : Nat → ClassId} {tg : Nat} {S : zEn} {ad : Nat → Nat} {X : zX} {pR : zM} {pX : zM} {pF : zM} {pT : zM} {pB : zM} {pP : zP} {v2 : Int32} {v3 : Nat} {a : (zM × Int32 × Int32)} {r : ((zM × Int32 × Int32) ⊕ (zM × Int32))} (hC : zC X cX11_silent RX11 wsX11_silent vwCl (zty κ) (zE tg S) 7 ({ frames := 5, cells := 0, slots := 0, locals := 119 } : Room)) (hEk : zEk (zE tg S)) (hin : ∀ a', r = .inl a' → zV X 0 0 (zwC κ ad pT a'.1 pX pF pB pP) [(0, .ref (ad 76)), (2, .int v2), (3, .ref (ad (81 + v3))), (4, .int a'.2.1), (5, .int a'.2.2)] [] 76) (hout : ∀ b', r = .inr b' → zV X 0 0 (zwC κ ad pT b'.1 pX pF pB pP) [(4, .int b'.2)] [] 127) (h : xX11_silent_L76 pT pB pP v2 v3 a = some r) : zV X 0 0 (zwC κ ad pT a.1 pX pF pB pP) [(0, .ref (ad 76)), (2, .int v2), (3, .ref (ad (81 + v3))), (4, .int a.2.1), (5, .int a.2.2)] [] 76 := by
  unfold xX11_silent_L76 at h
  refine zr_iload (pc := 76) hC 4 rfl dX11_silent_76 ?_
  refine zr_bipush (pc := 78) hC zkb_10 dX11_silent_78 ?_
  refine zr_icmp_ge (pc := 80) (tgt := 127) hC dX11_silent_80 (by decide) (fun c1 => ?_) (fun c1 => ?_)
  · replace h := zip h c1
    obtain rfl := Option.some.inj h
    exact zV.sub (lv' := [(4, .int a.2.1)]) [3] rfl (hout _ rfl)
  · replace h := zin h c1
    refine zr_aload_n (pc := 83) hC 0 rfl rfl dX11_silent_83 ?_
    refine zcg_76_1 (pc := 84) hC hinX11_silent_X11 flX11_silent_68 dX11_silent_84 ?_
    refine zr_aload_n (pc := 87) hC 2 rfl rfl dX11_silent_87 ?_
    refine zr_iconst (pc := 88) hC zki_1 dX11_silent_88 ?_
    refine zr_iload (pc := 89) hC 4 rfl dX11_silent_89 ?_
    refine zr_ishl (pc := 91) hC dX11_silent_91 ?_
    refine zr_iconst (pc := 92) hC zki_0 dX11_silent_92 ?_
    obtain ⟨q2, hq2, h⟩ := zbd h
    refine zr_cVi (pc := 93) hC hEk [.ref (ad (81 + v3)), .int ((1 : Int32) <<< (a.2.2 &&& 31)), .int (0 : Int32)] [] 62 3 (fun l D => tX6_pressBits hEk hq2 l D) gX11_silent_X6_pressBits rfl rfl rfl ⟨Nat.le_of_ble_eq_true rfl, Nat.le_of_ble_eq_true rfl⟩ hyX6_pressBits (zNC (by decide)) entC_62 rfl rfl rfl (Nat.le_of_ble_eq_true rfl) ⟨Nat.le_of_ble_eq_true rfl, Nat.le_of_ble_eq_true rfl⟩ dX11_silent_93 ?_
    refine zr_istore (pc := 96) (lv' := [(6, .int q2.1), (0, .ref (ad 76)), (2, .int v2), (3, .ref (ad (81 + v3))), (4, .int a.2.1), (5, .int a.2.2)]) hC (by decide) rfl dX11_silent_96 ?_
    refine zr_iload (pc := 98) hC 0 rfl dX11_silent_98 ?_
    refine zr_aload_n (pc := 100) hC 1 rfl rfl dX11_silent_100 ?_
    refine zcg_76_0 (pc := 101) hC hinX11_silent_X11 flX11_silent_59 dX11_silent_101 ?_
    refine zr_iload_n (pc := 104) hC 2 rfl rfl dX11_silent_104 ?_
    obtain ⟨q3, hq3, h⟩ := zbd h
    refine zr_cVi (pc := 105) hC hEk [.int v2] [.int q2.1] 0 1 (fun l D => tX10_wayTo hEk hq3 l D) gX11_silent_X10_wayTo rfl rfl rfl ⟨Nat.le_of_ble_eq_true rfl, Nat.le_of_ble_eq_true rfl⟩ hyX10_wayTo (zNC (by decide)) entC_0 rfl rfl rfl (Nat.le_of_ble_eq_true rfl) ⟨Nat.le_of_ble_eq_true rfl, Nat.le_of_ble_eq_true rfl⟩ dX11_silent_105 ?_
    refine zr_iand (pc := 108) hC dX11_silent_108 ?_
    refine zr_if_eq (pc := 109) (tgt := 121) hC dX11_silent_109 (by decide) (fun c4 => ?_) (fun c4 => ?_)
    · replace h := zip h c4
      refine zr_iinc (pc := 121) (k := 5) (lv' := [(5, .int (a.2.2 + (1 : Int32))), (6, .int q2.1), (0, .ref (ad 76)), (2, .int v2), (3, .ref (ad (81 + v3))), (4, .int a.2.1)]) hC zki_1 (by decide) rfl rfl dX11_silent_121 ?_
      refine zr_goto (pc := 124) (tgt := 76) hC dX11_silent_124 (by decide) ?_
      obtain rfl := Option.some.inj h
      exact zV.sub (lv' := [(0, .ref (ad 76)), (2, .int v2), (3, .ref (ad (81 + v3))), (4, .int a.2.1), (5, .int (a.2.2 + (1 : Int32)))]) [2, 3, 4, 5, 0] rfl (hin _ rfl)
    · replace h := zin h c4
      refine zr_iload (pc := 112) hC 4 rfl dX11_silent_112 ?_
      refine zr_iconst (pc := 114) hC zki_1 dX11_silent_114 ?_
      refine zr_iload (pc := 115) hC 5 rfl dX11_silent_115 ?_
      refine zr_ishl (pc := 117) hC dX11_silent_117 ?_
      refine zr_ior (pc := 118) hC dX11_silent_118 ?_
      obtain ⟨z5, e6, h⟩ := zle h
      refine zr_topi e6 ?_
      refine zr_istore (pc := 119) (lv' := [(4, .int z5), (6, .int q2.1), (0, .ref (ad 76)), (2, .int v2), (3, .ref (ad (81 + v3))), (5, .int a.2.2)]) hC (by decide) rfl dX11_silent_119 ?_
      refine zr_iinc (pc := 121) (k := 5) (lv' := [(5, .int (a.2.2 + (1 : Int32))), (4, .int z5), (6, .int q2.1), (0, .ref (ad 76)), (2, .int v2), (3, .ref (ad (81 + v3)))]) hC zki_1 (by decide) rfl rfl dX11_silent_121 ?_
      refine zr_goto (pc := 124) (tgt := 76) hC dX11_silent_124 (by decide) ?_
      obtain rfl := Option.some.inj h
      exact zV.sub (lv' := [(0, .ref (ad 76)), (2, .int v2), (3, .ref (ad (81 + v3))), (4, .int z5), (5, .int (a.2.2 + (1 : Int32)))]) [3, 4, 5, 1, 0] rfl (hin _ rfl)
def xX11_silent (pT : zM) (pR : zM) (pB : zM) (pP : zP) (v1 : Int32) (v2 : Int32) : Option (Int32 × zM × zM) :=
  (xX6_playerAt pR pP v1).bind fun q1 =>
  zon q1
  ((xX11_refuse pB (-1 : Int32)).bind fun q5 =>
  some (q5.1, pR, q5.2))
  (fun a2 => if pP.2.2.2 ≤ a2 then none else
  (xX10_has pT v2).bind fun q6 =>
  if q6 = 0 then
  ((xX11_refuse pB (-1 : Int32)).bind fun q21 =>
  some (q21.1, pR, q21.2))
  else
  (xv_kind pP a2).bind fun q8 =>
  if q8 = (1 : Int32) then
  ((xX10_isWhole pT).bind fun q10 =>
  if q10 = 0 then
  ((xX11_refuse pB (-3 : Int32)).bind fun q13 =>
  some (q13.1, pR, q13.2))
  else
  (x_it (xX11_silent_L76 pT pB pP v2 a2) zFU (pR, (0 : Int32), (1 : Int32))).bind fun q12 =>
  some (q12.2, q12.1, pB))
  else
  (xv_kind pP a2).bind fun q14 =>
  if q14 = (2 : Int32) then
  ((xX10_isWhole pT).bind fun q16 =>
  if q16 = 0 then
  ((xX11_refuse pB (-3 : Int32)).bind fun q19 =>
  some (q19.1, pR, q19.2))
  else
  (x_it (xX11_silent_L76 pT pB pP v2 a2) zFU (pR, (0 : Int32), (1 : Int32))).bind fun q18 =>
  some (q18.2, q18.1, pB))
  else
  (xX11_refuse pB (-2 : Int32)).bind fun q20 =>
  some (q20.1, pR, q20.2))
set_option maxHeartbeats 4000000 in
set_option maxRecDepth 100000 in
theorem tX11_silent {κ : Nat → ClassId} {tg : Nat} {S : zEn} {ad : Nat → Nat} (hEk : zEk (zE tg S)) {pT : zM} {pR : zM} {pX : zM} {pF : zM} {pB : zM} {pP : zP} {v1 : Int32} {v2 : Int32} {res : (Int32 × zM × zM)} (h : xX11_silent pT pR pB pP v1 v2 = some res) (l : Launch) (D : va_G) : zCT (zE tg S) D vwCl (zty κ) l yX11_silent wsX11_silent ({ frames := 5, cells := 0, slots := 0, locals := 119 } : Room) 0 0 [.ref (ad 76), .int v1, .int v2] (zwC κ ad pT pR pX pF pB pP) (zPd (some (.int res.1)) (zwC κ ad pT res.2.1 pX pF res.2.2 pP)) := by
  refine zCT.of (cc := cX11_silent) (maxL := 7) (ret := (some .int)) (by decide) rfl (Nat.le_of_ble_eq_true rfl) ?_
  intro X hC hR
  unfold xX11_silent at h
  refine zV.sub (lv' := [(0, .ref (ad 76)), (1, .int v1), (2, .int v2)]) [0, 1, 2] rfl ?_
  refine zr_aload_n (pc := 0) hC 0 rfl rfl dX11_silent_0 ?_
  refine zcg_76_1 (pc := 1) hC hinX11_silent_X11 flX11_silent_68 dX11_silent_1 ?_
  refine zr_iload_n (pc := 4) hC 1 rfl rfl dX11_silent_4 ?_
  obtain ⟨q1, hq1, h⟩ := zbd h
  refine zr_cVr (pc := 5) hC hEk [.int v1] [] 62 1 (fun l D => tX6_playerAt hEk hq1 l D) gX11_silent_X6_playerAt rfl rfl rfl ⟨Nat.le_of_ble_eq_true rfl, Nat.le_of_ble_eq_true rfl⟩ hyX6_playerAt (zNC (by decide)) entC_62 rfl rfl rfl (Nat.le_of_ble_eq_true rfl) ⟨Nat.le_of_ble_eq_true rfl, Nat.le_of_ble_eq_true rfl⟩ dX11_silent_5 ?_
  refine zr_astore_nO (pc := 8) (lv' := [(3, va_rf (q1.map (fun a => ad (81 + a)))), (0, .ref (ad 76)), (1, .int v1), (2, .int v2)]) hC rfl (by decide) rfl dX11_silent_8 ?_
  refine zr_aload_nO (pc := 9) hC 0 rfl rfl dX11_silent_9 ?_
  refine zr_ifnullM (pc := 10) (tgt := 24) hC dX11_silent_10 (by decide) (fun e3 => ?_) (fun a2 e3 => ?_)
  · replace h := zon_n e3 h
    subst e3
    show zV X 0 0 (zwC κ ad pT pR pX pF q5.2 pP) [(3, va_rf ((none : Option Nat).map (fun a => ad (81 + a)))), (0, .ref (ad 76)), (1, .int v1), (2, .int v2)] [] 24
    refine zr_aload_n (pc := 24) hC 1 rfl rfl dX11_silent_24 ?_
    refine zr_iconst (pc := 25) hC zki_m1 dX11_silent_25 ?_
    obtain ⟨q5, hq5, h⟩ := zbd h
    refine zr_cVi (pc := 26) hC hEk [.int (-1 : Int32)] [] 76 1 (fun l D => tX11_refuse hEk hq5 l D) gX11_silent_X11_refuse rfl rfl rfl ⟨Nat.le_of_ble_eq_true rfl, Nat.le_of_ble_eq_true rfl⟩ hyX11_refuse (zNC (by decide)) entC_76 rfl rfl rfl (Nat.le_of_ble_eq_true rfl) ⟨Nat.le_of_ble_eq_true rfl, Nat.le_of_ble_eq_true rfl⟩ dX11_silent_26 ?_
    obtain rfl := Option.some.inj h
    exact zr_iret hC hR ⟨rfl, rfl⟩ (Nat.le_refl _) (Nat.le_refl _) dX11_silent_29
  · replace h := zon_s e3 h
    subst e3
    obtain ⟨i4, h⟩ := zgd h
    show zV X 0 0 (zwC κ ad pT pR pX pF q21.2 pP) [(3, .ref (ad (81 + a2))), (0, .ref (ad 76)), (1, .int v1), (2, .int v2)] [] 13
    refine zr_aload_n (pc := 13) hC 1 rfl rfl dX11_silent_13 ?_
    refine zcg_76_0 (pc := 14) hC hinX11_silent_X11 flX11_silent_59 dX11_silent_14 ?_
    refine zr_iload_n (pc := 17) hC 3 rfl rfl dX11_silent_17 ?_
    obtain ⟨q6, hq6, h⟩ := zbd h
    refine zr_cVi (pc := 18) hC hEk [.int v2] [] 0 1 (fun l D => tX10_has hEk hq6 l D) gX11_silent_X10_has rfl rfl rfl ⟨Nat.le_of_ble_eq_true rfl, Nat.le_of_ble_eq_true rfl⟩ hyX10_has (zNC (by decide)) entC_0 rfl rfl rfl (Nat.le_of_ble_eq_true rfl) ⟨Nat.le_of_ble_eq_true rfl, Nat.le_of_ble_eq_true rfl⟩ dX11_silent_18 ?_
    refine zr_if_ne (pc := 21) (tgt := 30) hC dX11_silent_21 (by decide) (fun c7 => ?_) (fun c7 => ?_)
    · replace h := zin h c7
      refine zr_aload_n (pc := 30) hC 0 rfl rfl dX11_silent_30 ?_
      obtain ⟨q8, hq8, h⟩ := zbd h
      refine vrX11_silent_119 (pc := 31) hC hEk i4 hq8 (rest := []) (Nat.le_of_ble_eq_true rfl) (Nat.le_of_ble_eq_true rfl) (Nat.le_of_ble_eq_true rfl) ⟨Nat.le_of_ble_eq_true rfl, Nat.le_of_ble_eq_true rfl⟩ dX11_silent_31 ?_
      refine zr_iconst (pc := 34) hC zki_1 dX11_silent_34 ?_
      refine zr_icmp_eq (pc := 35) (tgt := 53) hC dX11_silent_35 (by decide) (fun c9 => ?_) (fun c9 => ?_)
      · replace h := zip h c9
        refine zr_aload_n (pc := 53) hC 1 rfl rfl dX11_silent_53 ?_
        refine zcg_76_0 (pc := 54) hC hinX11_silent_X11 flX11_silent_59 dX11_silent_54 ?_
        obtain ⟨q10, hq10, h⟩ := zbd h
        refine zr_cVi (pc := 57) hC hEk [] [] 0 0 (fun l D => tX10_isWhole hEk hq10 l D) gX11_silent_X10_isWhole rfl rfl rfl ⟨Nat.le_of_ble_eq_true rfl, Nat.le_of_ble_eq_true rfl⟩ hyX10_isWhole (zNC (by decide)) entC_0 rfl rfl rfl (Nat.le_of_ble_eq_true rfl) ⟨Nat.le_of_ble_eq_true rfl, Nat.le_of_ble_eq_true rfl⟩ dX11_silent_57 ?_
        refine zr_if_ne (pc := 60) (tgt := 70) hC dX11_silent_60 (by decide) (fun c11 => ?_) (fun c11 => ?_)
        · replace h := zin h c11
          refine zr_iconst (pc := 70) hC zki_0 dX11_silent_70 ?_
          refine zr_istore (pc := 71) (lv' := [(4, .int (0 : Int32)), (3, .ref (ad (81 + a2))), (0, .ref (ad 76)), (1, .int v1), (2, .int v2)]) hC (by decide) rfl dX11_silent_71 ?_
          refine zr_iconst (pc := 73) hC zki_1 dX11_silent_73 ?_
          refine zr_istore (pc := 74) (lv' := [(5, .int (1 : Int32)), (4, .int (0 : Int32)), (3, .ref (ad (81 + a2))), (0, .ref (ad 76)), (1, .int v1), (2, .int v2)]) hC (by decide) rfl dX11_silent_74 ?_
          obtain ⟨q12, hq12, h⟩ := zbd h
          refine zV.sub (lv' := [(0, .ref (ad 76)), (2, .int v2), (3, .ref (ad (81 + a2))), (4, .int (0 : Int32)), (5, .int (1 : Int32))]) [3, 5, 2, 1, 0] rfl ?_
          refine zit (Wp := fun (a : (zM × Int32 × Int32)) => zV X 0 0 (zwC κ ad pT a.1 pX pF pB pP) [(0, .ref (ad 76)), (2, .int v2), (3, .ref (ad (81 + a2))), (4, .int a.2.1), (5, .int a.2.2)] [] 76) (Ex := fun (b : (zM × Int32)) => zV X 0 0 (zwC κ ad pT b.1 pX pF pB pP) [(4, .int b.2)] [] 127) (fun a r hr hin hout => tX11_silent_L76 hC hEk hin hout hr) zFU (pR, (0 : Int32), (1 : Int32)) q12 hq12 ?_
          show zV X 0 0 (zwC κ ad pT q12.1 pX pF pB pP) [(4, .int q12.2)] [] 127
          refine zr_iload (pc := 127) hC 0 rfl dX11_silent_127 ?_
          obtain rfl := Option.some.inj h
          exact zr_iret hC hR ⟨rfl, rfl⟩ (Nat.le_refl _) (Nat.le_refl _) dX11_silent_129
        · replace h := zip h c11
          refine zr_aload_n (pc := 63) hC 1 rfl rfl dX11_silent_63 ?_
          refine zr_bipush (pc := 64) hC zkb_m3 dX11_silent_64 ?_
          obtain ⟨q13, hq13, h⟩ := zbd h
          refine zr_cVi (pc := 66) hC hEk [.int (-3 : Int32)] [] 76 1 (fun l D => tX11_refuse hEk hq13 l D) gX11_silent_X11_refuse rfl rfl rfl ⟨Nat.le_of_ble_eq_true rfl, Nat.le_of_ble_eq_true rfl⟩ hyX11_refuse (zNC (by decide)) entC_76 rfl rfl rfl (Nat.le_of_ble_eq_true rfl) ⟨Nat.le_of_ble_eq_true rfl, Nat.le_of_ble_eq_true rfl⟩ dX11_silent_66 ?_
          obtain rfl := Option.some.inj h
          exact zr_iret hC hR ⟨rfl, rfl⟩ (Nat.le_refl _) (Nat.le_refl _) dX11_silent_69
      · replace h := zin h c9
        refine zr_aload_n (pc := 38) hC 0 rfl rfl dX11_silent_38 ?_
        obtain ⟨q14, hq14, h⟩ := zbd h
        refine vrX11_silent_119 (pc := 39) hC hEk i4 hq14 (rest := []) (Nat.le_of_ble_eq_true rfl) (Nat.le_of_ble_eq_true rfl) (Nat.le_of_ble_eq_true rfl) ⟨Nat.le_of_ble_eq_true rfl, Nat.le_of_ble_eq_true rfl⟩ dX11_silent_39 ?_
        refine zr_iconst (pc := 42) hC zki_2 dX11_silent_42 ?_
        refine zr_icmp_eq (pc := 43) (tgt := 53) hC dX11_silent_43 (by decide) (fun c15 => ?_) (fun c15 => ?_)
        · replace h := zip h c15
          refine zr_aload_n (pc := 53) hC 1 rfl rfl dX11_silent_53 ?_
          refine zcg_76_0 (pc := 54) hC hinX11_silent_X11 flX11_silent_59 dX11_silent_54 ?_
          obtain ⟨q16, hq16, h⟩ := zbd h
          refine zr_cVi (pc := 57) hC hEk [] [] 0 0 (fun l D => tX10_isWhole hEk hq16 l D) gX11_silent_X10_isWhole rfl rfl rfl ⟨Nat.le_of_ble_eq_true rfl, Nat.le_of_ble_eq_true rfl⟩ hyX10_isWhole (zNC (by decide)) entC_0 rfl rfl rfl (Nat.le_of_ble_eq_true rfl) ⟨Nat.le_of_ble_eq_true rfl, Nat.le_of_ble_eq_true rfl⟩ dX11_silent_57 ?_
          refine zr_if_ne (pc := 60) (tgt := 70) hC dX11_silent_60 (by decide) (fun c17 => ?_) (fun c17 => ?_)
          · replace h := zin h c17
            refine zr_iconst (pc := 70) hC zki_0 dX11_silent_70 ?_
            refine zr_istore (pc := 71) (lv' := [(4, .int (0 : Int32)), (3, .ref (ad (81 + a2))), (0, .ref (ad 76)), (1, .int v1), (2, .int v2)]) hC (by decide) rfl dX11_silent_71 ?_
            refine zr_iconst (pc := 73) hC zki_1 dX11_silent_73 ?_
            refine zr_istore (pc := 74) (lv' := [(5, .int (1 : Int32)), (4, .int (0 : Int32)), (3, .ref (ad (81 + a2))), (0, .ref (ad 76)), (1, .int v1), (2, .int v2)]) hC (by decide) rfl dX11_silent_74 ?_
            obtain ⟨q18, hq18, h⟩ := zbd h
            refine zV.sub (lv' := [(0, .ref (ad 76)), (2, .int v2), (3, .ref (ad (81 + a2))), (4, .int (0 : Int32)), (5, .int (1 : Int32))]) [3, 5, 2, 1, 0] rfl ?_
            refine zit (Wp := fun (a : (zM × Int32 × Int32)) => zV X 0 0 (zwC κ ad pT a.1 pX pF pB pP) [(0, .ref (ad 76)), (2, .int v2), (3, .ref (ad (81 + a2))), (4, .int a.2.1), (5, .int a.2.2)] [] 76) (Ex := fun (b : (zM × Int32)) => zV X 0 0 (zwC κ ad pT b.1 pX pF pB pP) [(4, .int b.2)] [] 127) (fun a r hr hin hout => tX11_silent_L76 hC hEk hin hout hr) zFU (pR, (0 : Int32), (1 : Int32)) q18 hq18 ?_
            show zV X 0 0 (zwC κ ad pT q18.1 pX pF pB pP) [(4, .int q18.2)] [] 127
            refine zr_iload (pc := 127) hC 0 rfl dX11_silent_127 ?_
            obtain rfl := Option.some.inj h
            exact zr_iret hC hR ⟨rfl, rfl⟩ (Nat.le_refl _) (Nat.le_refl _) dX11_silent_129
          · replace h := zip h c17
            refine zr_aload_n (pc := 63) hC 1 rfl rfl dX11_silent_63 ?_
            refine zr_bipush (pc := 64) hC zkb_m3 dX11_silent_64 ?_
            obtain ⟨q19, hq19, h⟩ := zbd h
            refine zr_cVi (pc := 66) hC hEk [.int (-3 : Int32)] [] 76 1 (fun l D => tX11_refuse hEk hq19 l D) gX11_silent_X11_refuse rfl rfl rfl ⟨Nat.le_of_ble_eq_true rfl, Nat.le_of_ble_eq_true rfl⟩ hyX11_refuse (zNC (by decide)) entC_76 rfl rfl rfl (Nat.le_of_ble_eq_true rfl) ⟨Nat.le_of_ble_eq_true rfl, Nat.le_of_ble_eq_true rfl⟩ dX11_silent_66 ?_
            obtain rfl := Option.some.inj h
            exact zr_iret hC hR ⟨rfl, rfl⟩ (Nat.le_refl _) (Nat.le_refl _) dX11_silent_69
        · replace h := zin h c15
          refine zr_aload_n (pc := 46) hC 1 rfl rfl dX11_silent_46 ?_
          refine zr_bipush (pc := 47) hC zkb_m2 dX11_silent_47 ?_
          obtain ⟨q20, hq20, h⟩ := zbd h
          refine zr_cVi (pc := 49) hC hEk [.int (-2 : Int32)] [] 76 1 (fun l D => tX11_refuse hEk hq20 l D) gX11_silent_X11_refuse rfl rfl rfl ⟨Nat.le_of_ble_eq_true rfl, Nat.le_of_ble_eq_true rfl⟩ hyX11_refuse (zNC (by decide)) entC_76 rfl rfl rfl (Nat.le_of_ble_eq_true rfl) ⟨Nat.le_of_ble_eq_true rfl, Nat.le_of_ble_eq_true rfl⟩ dX11_silent_49 ?_
          obtain rfl := Option.some.inj h
          exact zr_iret hC hR ⟨rfl, rfl⟩ (Nat.le_refl _) (Nat.le_refl _) dX11_silent_52
    · replace h := zip h c7
      refine zr_aload_n (pc := 24) hC 1 rfl rfl dX11_silent_24 ?_
      refine zr_iconst (pc := 25) hC zki_m1 dX11_silent_25 ?_
      obtain ⟨q21, hq21, h⟩ := zbd h
      refine zr_cVi (pc := 26) hC hEk [.int (-1 : Int32)] [] 76 1 (fun l D => tX11_refuse hEk hq21 l D) gX11_silent_X11_refuse rfl rfl rfl ⟨Nat.le_of_ble_eq_true rfl, Nat.le_of_ble_eq_true rfl⟩ hyX11_refuse (zNC (by decide)) entC_76 rfl rfl rfl (Nat.le_of_ble_eq_true rfl) ⟨Nat.le_of_ble_eq_true rfl, Nat.le_of_ble_eq_true rfl⟩ dX11_silent_26 ?_
      obtain rfl := Option.some.inj h
      exact zr_iret hC hR ⟨rfl, rfl⟩ (Nat.le_refl _) (Nat.le_refl _) dX11_silent_29
/-! X11_partners -/
theorem hyX11_partners : yX11_partners.cls = RX11 ∧ yX11_partners.cls ≠ "java/lang/invoke/MethodHandle" ∧ yX11_partners.cls ≠ "java/lang/invoke/VarHandle" ∧ (parseMethodDescriptor yX11_partners.desc).map (fun d => d.parameters.length) = some 3 := by decide +kernel
theorem flX11_partners_130 : Cond.fieldLink RX11 130 "BeforeTheEnd$Player" "knows" "I" ∈ wsX11_partners := by decide +kernel
theorem flX11_partners_59 : Cond.fieldLink RX11 59 "BeforeTheEnd" "tree" "LBeforeTheEnd$Tree;" ∈ wsX11_partners := by decide +kernel
theorem flX11_partners_68 : Cond.fieldLink RX11 68 "BeforeTheEnd" "race" "LBeforeTheEnd$Race;" ∈ wsX11_partners := by decide +kernel
theorem hinX11_partners_X11 : ∀ w ∈ wsX110, w ∈ wsX11_partners := fun _ h => List.mem_cons_of_mem _ (List.mem_append_left _ (List.mem_append_left _ (List.mem_append_left _ (List.mem_append_left _ (List.mem_append_left _ (List.mem_append_left _ (List.mem_append_left _ (List.mem_append_left _ (List.mem_append_right _ h)))))))))
theorem hinX11_partners_X0 : ∀ w ∈ wsX00, w ∈ wsX11_partners := fun _ h => List.mem_cons_of_mem _ (List.mem_append_left _ (List.mem_append_left _ (List.mem_append_left _ (List.mem_append_left _ (List.mem_append_left _ (List.mem_append_left _ (List.mem_append_left _ (List.mem_append_right _ h))))))))
theorem hinX11_partners_X1 : ∀ w ∈ wsX10, w ∈ wsX11_partners := fun _ h => List.mem_cons_of_mem _ (List.mem_append_left _ (List.mem_append_left _ (List.mem_append_left _ (List.mem_append_left _ (List.mem_append_left _ (List.mem_append_left _ (List.mem_append_right _ h)))))))
theorem hinX11_partners_X2 : ∀ w ∈ wsX20, w ∈ wsX11_partners := fun _ h => List.mem_cons_of_mem _ (List.mem_append_left _ (List.mem_append_left _ (List.mem_append_left _ (List.mem_append_left _ (List.mem_append_left _ (List.mem_append_right _ h))))))
theorem hinX11_partners_X4 : ∀ w ∈ wsX40, w ∈ wsX11_partners := fun _ h => List.mem_cons_of_mem _ (List.mem_append_left _ (List.mem_append_left _ (List.mem_append_left _ (List.mem_append_left _ (List.mem_append_right _ h)))))
theorem hinX11_partners_X7 : ∀ w ∈ wsX70, w ∈ wsX11_partners := fun _ h => List.mem_cons_of_mem _ (List.mem_append_left _ (List.mem_append_left _ (List.mem_append_left _ (List.mem_append_right _ h))))
theorem hinX11_partners_X9 : ∀ w ∈ wsX90, w ∈ wsX11_partners := fun _ h => List.mem_cons_of_mem _ (List.mem_append_left _ (List.mem_append_left _ (List.mem_append_right _ h)))
theorem hinX11_partners_X6 : ∀ w ∈ wsX60, w ∈ wsX11_partners := fun _ h => List.mem_cons_of_mem _ (List.mem_append_left _ (List.mem_append_right _ h))
theorem hinX11_partners_X10 : ∀ w ∈ wsX100, w ∈ wsX11_partners := fun _ h => List.mem_cons_of_mem _ (List.mem_append_right _ h)
def xX11_partners (pT : zM) (pR : zM) (pB : zM) (pP : zP) (v1 : Int32) (v2 : Int32) (v3 : Int32) : Option (Int32 × zM) :=
  (xX6_playerAt pR pP v1).bind fun q1 =>
  (xX6_playerAt pR pP v2).bind fun q2 =>
  zon q1
  ((xX11_refuse pB (-1 : Int32)).bind fun q6 =>
  some (q6.1, q6.2))
  (fun a3 => if pP.2.2.2 ≤ a3 then none else
  zon q2
  ((xX11_refuse pB (-1 : Int32)).bind fun q10 =>
  some (q10.1, q10.2))
  (fun a7 => if pP.2.2.2 ≤ a7 then none else
  if v1 = v2 then
  ((xX11_refuse pB (-1 : Int32)).bind fun q12 =>
  some (q12.1, q12.2))
  else
  (xX10_has pT v3).bind fun q13 =>
  if q13 = 0 then
  ((xX11_refuse pB (-1 : Int32)).bind fun q26 =>
  some (q26.1, q26.2))
  else
  (xX10_isWhole pT).bind fun q15 =>
  if q15 = 0 then
  ((xX11_refuse pB (-3 : Int32)).bind fun q25 =>
  some (q25.1, q25.2))
  else
  (xX10_guessAt pT v3 (pP.2.2.1 a3 2)).bind fun q17 =>
  (xX10_shareOf pT v3 q17).bind fun q18 =>
  (xX10_guessAt pT v3 (pP.2.2.1 a7 2)).bind fun q19 =>
  (xX10_shareOf pT v3 q19).bind fun q20 =>
  if (lg_cmp q18 (0 : Int64)) = 0 then
  (if (lg_cmp q20 (0 : Int64)) = 0 then
  (some ((-9 : Int32), pB))
  else
  if (lg_cmp q20 q18) ≤ 0 then
  (some (v1, pB))
  else
  some (v2, pB))
  else
  if (lg_cmp q20 q18) ≤ 0 then
  (some (v1, pB))
  else
  some (v2, pB)))
set_option maxHeartbeats 4000000 in
set_option maxRecDepth 100000 in
theorem tX11_partners {κ : Nat → ClassId} {tg : Nat} {S : zEn} {ad : Nat → Nat} (hEk : zEk (zE tg S)) {pT : zM} {pR : zM} {pX : zM} {pF : zM} {pB : zM} {pP : zP} {v1 : Int32} {v2 : Int32} {v3 : Int32} {res : (Int32 × zM)} (h : xX11_partners pT pR pB pP v1 v2 v3 = some res) (l : Launch) (D : va_G) : zCT (zE tg S) D vwCl (zty κ) l yX11_partners wsX11_partners ({ frames := 2, cells := 0, slots := 0, locals := 47 } : Room) 0 0 [.ref (ad 76), .int v1, .int v2, .int v3] (zwC κ ad pT pR pX pF pB pP) (zPd (some (.int res.1)) (zwC κ ad pT pR pX pF res.2 pP)) := by
  refine zCT.of (cc := cX11_partners) (maxL := 10) (ret := (some .int)) (by decide) rfl (Nat.le_of_ble_eq_true rfl) ?_
  intro X hC hR
  unfold xX11_partners at h
  refine zV.sub (lv' := [(0, .ref (ad 76)), (1, .int v1), (2, .int v2), (3, .int v3)]) [0, 1, 2, 3] rfl ?_
  refine zr_aload_n (pc := 0) hC 0 rfl rfl dX11_partners_0 ?_
  refine zcg_76_1 (pc := 1) hC hinX11_partners_X11 flX11_partners_68 dX11_partners_1 ?_
  refine zr_iload_n (pc := 4) hC 1 rfl rfl dX11_partners_4 ?_
  obtain ⟨q1, hq1, h⟩ := zbd h
  refine zr_cVr (pc := 5) hC hEk [.int v1] [] 62 1 (fun l D => tX6_playerAt hEk hq1 l D) gX11_partners_X6_playerAt rfl rfl rfl ⟨Nat.le_of_ble_eq_true rfl, Nat.le_of_ble_eq_true rfl⟩ hyX6_playerAt (zNC (by decide)) entC_62 rfl rfl rfl (Nat.le_of_ble_eq_true rfl) ⟨Nat.le_of_ble_eq_true rfl, Nat.le_of_ble_eq_true rfl⟩ dX11_partners_5 ?_
  refine zr_astoreO (pc := 8) (lv' := [(4, va_rf (q1.map (fun a => ad (81 + a)))), (0, .ref (ad 76)), (1, .int v1), (2, .int v2), (3, .int v3)]) hC (by decide) rfl dX11_partners_8 ?_
  refine zr_aload_n (pc := 10) hC 1 rfl rfl dX11_partners_10 ?_
  refine zcg_76_1 (pc := 11) hC hinX11_partners_X11 flX11_partners_68 dX11_partners_11 ?_
  refine zr_iload_n (pc := 14) hC 3 rfl rfl dX11_partners_14 ?_
  obtain ⟨q2, hq2, h⟩ := zbd h
  refine zr_cVr (pc := 15) hC hEk [.int v2] [] 62 1 (fun l D => tX6_playerAt hEk hq2 l D) gX11_partners_X6_playerAt rfl rfl rfl ⟨Nat.le_of_ble_eq_true rfl, Nat.le_of_ble_eq_true rfl⟩ hyX6_playerAt (zNC (by decide)) entC_62 rfl rfl rfl (Nat.le_of_ble_eq_true rfl) ⟨Nat.le_of_ble_eq_true rfl, Nat.le_of_ble_eq_true rfl⟩ dX11_partners_15 ?_
  refine zr_astoreO (pc := 18) (lv' := [(5, va_rf (q2.map (fun a => ad (81 + a)))), (4, va_rf (q1.map (fun a => ad (81 + a)))), (0, .ref (ad 76)), (1, .int v1), (2, .int v2), (3, .int v3)]) hC (by decide) rfl dX11_partners_18 ?_
  refine zr_aloadO (pc := 20) hC 1 rfl dX11_partners_20 ?_
  refine zr_ifnullM (pc := 22) (tgt := 46) hC dX11_partners_22 (by decide) (fun e4 => ?_) (fun a3 e4 => ?_)
  · replace h := zon_n e4 h
    subst e4
    show zV X 0 0 (zwC κ ad pT pR pX pF q6.2 pP) [(5, va_rf (q2.map (fun a => ad (81 + a)))), (4, va_rf ((none : Option Nat).map (fun a => ad (81 + a)))), (0, .ref (ad 76)), (1, .int v1), (2, .int v2), (3, .int v3)] [] 46
    refine zr_aload_n (pc := 46) hC 2 rfl rfl dX11_partners_46 ?_
    refine zr_iconst (pc := 47) hC zki_m1 dX11_partners_47 ?_
    obtain ⟨q6, hq6, h⟩ := zbd h
    refine zr_cVi (pc := 48) hC hEk [.int (-1 : Int32)] [] 76 1 (fun l D => tX11_refuse hEk hq6 l D) gX11_partners_X11_refuse rfl rfl rfl ⟨Nat.le_of_ble_eq_true rfl, Nat.le_of_ble_eq_true rfl⟩ hyX11_refuse (zNC (by decide)) entC_76 rfl rfl rfl (Nat.le_of_ble_eq_true rfl) ⟨Nat.le_of_ble_eq_true rfl, Nat.le_of_ble_eq_true rfl⟩ dX11_partners_48 ?_
    obtain rfl := Option.some.inj h
    exact zr_iret hC hR ⟨rfl, rfl⟩ (Nat.le_refl _) (Nat.le_refl _) dX11_partners_51
  · replace h := zon_s e4 h
    subst e4
    obtain ⟨i5, h⟩ := zgd h
    show zV X 0 0 (zwC κ ad pT pR pX pF q26.2 pP) [(5, .ref (ad (81 + a7))), (4, .ref (ad (81 + a3))), (0, .ref (ad 76)), (1, .int v1), (2, .int v2), (3, .int v3)] [] 25
    refine zr_aloadO (pc := 25) hC 0 rfl dX11_partners_25 ?_
    refine zr_ifnullM (pc := 27) (tgt := 46) hC dX11_partners_27 (by decide) (fun e8 => ?_) (fun a7 e8 => ?_)
    · replace h := zon_n e8 h
      subst e8
      show zV X 0 0 (zwC κ ad pT pR pX pF q10.2 pP) [(5, va_rf ((none : Option Nat).map (fun a => ad (81 + a)))), (4, .ref (ad (81 + a3))), (0, .ref (ad 76)), (1, .int v1), (2, .int v2), (3, .int v3)] [] 46
      refine zr_aload_n (pc := 46) hC 2 rfl rfl dX11_partners_46 ?_
      refine zr_iconst (pc := 47) hC zki_m1 dX11_partners_47 ?_
      obtain ⟨q10, hq10, h⟩ := zbd h
      refine zr_cVi (pc := 48) hC hEk [.int (-1 : Int32)] [] 76 1 (fun l D => tX11_refuse hEk hq10 l D) gX11_partners_X11_refuse rfl rfl rfl ⟨Nat.le_of_ble_eq_true rfl, Nat.le_of_ble_eq_true rfl⟩ hyX11_refuse (zNC (by decide)) entC_76 rfl rfl rfl (Nat.le_of_ble_eq_true rfl) ⟨Nat.le_of_ble_eq_true rfl, Nat.le_of_ble_eq_true rfl⟩ dX11_partners_48 ?_
      obtain rfl := Option.some.inj h
      exact zr_iret hC hR ⟨rfl, rfl⟩ (Nat.le_refl _) (Nat.le_refl _) dX11_partners_51
    · replace h := zon_s e8 h
      subst e8
      obtain ⟨i9, h⟩ := zgd h
      show zV X 0 0 (zwC κ ad pT pR pX pF q26.2 pP) [(5, .ref (ad (81 + a7))), (4, .ref (ad (81 + a3))), (0, .ref (ad 76)), (1, .int v1), (2, .int v2), (3, .int v3)] [] 30
      refine zr_iload_n (pc := 30) hC 3 rfl rfl dX11_partners_30 ?_
      refine zr_iload_n (pc := 31) hC 4 rfl rfl dX11_partners_31 ?_
      refine zr_icmp_eq (pc := 32) (tgt := 46) hC dX11_partners_32 (by decide) (fun c11 => ?_) (fun c11 => ?_)
      · replace h := zip h c11
        refine zr_aload_n (pc := 46) hC 2 rfl rfl dX11_partners_46 ?_
        refine zr_iconst (pc := 47) hC zki_m1 dX11_partners_47 ?_
        obtain ⟨q12, hq12, h⟩ := zbd h
        refine zr_cVi (pc := 48) hC hEk [.int (-1 : Int32)] [] 76 1 (fun l D => tX11_refuse hEk hq12 l D) gX11_partners_X11_refuse rfl rfl rfl ⟨Nat.le_of_ble_eq_true rfl, Nat.le_of_ble_eq_true rfl⟩ hyX11_refuse (zNC (by decide)) entC_76 rfl rfl rfl (Nat.le_of_ble_eq_true rfl) ⟨Nat.le_of_ble_eq_true rfl, Nat.le_of_ble_eq_true rfl⟩ dX11_partners_48 ?_
        obtain rfl := Option.some.inj h
        exact zr_iret hC hR ⟨rfl, rfl⟩ (Nat.le_refl _) (Nat.le_refl _) dX11_partners_51
      · replace h := zin h c11
        refine zr_aload_n (pc := 35) hC 2 rfl rfl dX11_partners_35 ?_
        refine zcg_76_0 (pc := 36) hC hinX11_partners_X11 flX11_partners_59 dX11_partners_36 ?_
        refine zr_iload_n (pc := 39) hC 5 rfl rfl dX11_partners_39 ?_
        obtain ⟨q13, hq13, h⟩ := zbd h
        refine zr_cVi (pc := 40) hC hEk [.int v3] [] 0 1 (fun l D => tX10_has hEk hq13 l D) gX11_partners_X10_has rfl rfl rfl ⟨Nat.le_of_ble_eq_true rfl, Nat.le_of_ble_eq_true rfl⟩ hyX10_has (zNC (by decide)) entC_0 rfl rfl rfl (Nat.le_of_ble_eq_true rfl) ⟨Nat.le_of_ble_eq_true rfl, Nat.le_of_ble_eq_true rfl⟩ dX11_partners_40 ?_
        refine zr_if_ne (pc := 43) (tgt := 52) hC dX11_partners_43 (by decide) (fun c14 => ?_) (fun c14 => ?_)
        · replace h := zin h c14
          refine zr_aload_n (pc := 52) hC 2 rfl rfl dX11_partners_52 ?_
          refine zcg_76_0 (pc := 53) hC hinX11_partners_X11 flX11_partners_59 dX11_partners_53 ?_
          obtain ⟨q15, hq15, h⟩ := zbd h
          refine zr_cVi (pc := 56) hC hEk [] [] 0 0 (fun l D => tX10_isWhole hEk hq15 l D) gX11_partners_X10_isWhole rfl rfl rfl ⟨Nat.le_of_ble_eq_true rfl, Nat.le_of_ble_eq_true rfl⟩ hyX10_isWhole (zNC (by decide)) entC_0 rfl rfl rfl (Nat.le_of_ble_eq_true rfl) ⟨Nat.le_of_ble_eq_true rfl, Nat.le_of_ble_eq_true rfl⟩ dX11_partners_56 ?_
          refine zr_if_ne (pc := 59) (tgt := 69) hC dX11_partners_59 (by decide) (fun c16 => ?_) (fun c16 => ?_)
          · replace h := zin h c16
            refine zr_aload_n (pc := 69) hC 2 rfl rfl dX11_partners_69 ?_
            refine zcg_76_0 (pc := 70) hC hinX11_partners_X11 flX11_partners_59 dX11_partners_70 ?_
            refine zr_iload_n (pc := 73) hC 5 rfl rfl dX11_partners_73 ?_
            refine zr_aload_n (pc := 74) hC 2 rfl rfl dX11_partners_74 ?_
            refine zcg_76_0 (pc := 75) hC hinX11_partners_X11 flX11_partners_59 dX11_partners_75 ?_
            refine zr_iload_n (pc := 78) hC 5 rfl rfl dX11_partners_78 ?_
            refine zr_aload (pc := 79) hC 1 rfl dX11_partners_79 ?_
            refine zpg_2 (pc := 81) hC hinX11_partners_X2 hinX11_partners_X7 hinX11_partners_X1 hinX11_partners_X4 hinX11_partners_X9 hinX11_partners_X0 flX11_partners_130 i5 dX11_partners_81 ?_
            obtain ⟨q17, hq17, h⟩ := zbd h
            refine zr_cVi (pc := 84) hC hEk [.int v3, .int (pP.2.2.1 a3 2)] [.int v3, .ref (ad 0)] 0 2 (fun l D => tX10_guessAt hEk hq17 l D) gX11_partners_X10_guessAt rfl rfl rfl ⟨Nat.le_of_ble_eq_true rfl, Nat.le_of_ble_eq_true rfl⟩ hyX10_guessAt (zNC (by decide)) entC_0 rfl rfl rfl (Nat.le_of_ble_eq_true rfl) ⟨Nat.le_of_ble_eq_true rfl, Nat.le_of_ble_eq_true rfl⟩ dX11_partners_84 ?_
            obtain ⟨q18, hq18, h⟩ := zbd h
            refine zr_cVl (pc := 87) hC hEk [.int v3, .int q17] [] 0 2 (fun l D => tX10_shareOf hEk hq18 l D) gX11_partners_X10_shareOf rfl rfl rfl ⟨Nat.le_of_ble_eq_true rfl, Nat.le_of_ble_eq_true rfl⟩ hyX10_shareOf (zNC (by decide)) entC_0 rfl rfl rfl (Nat.le_of_ble_eq_true rfl) ⟨Nat.le_of_ble_eq_true rfl, Nat.le_of_ble_eq_true rfl⟩ dX11_partners_87 ?_
            refine zr_lstore (pc := 90) (lv' := [(6, .long q18), (5, .ref (ad (81 + a7))), (4, .ref (ad (81 + a3))), (0, .ref (ad 76)), (1, .int v1), (2, .int v2), (3, .int v3)]) hC (by decide) rfl dX11_partners_90 ?_
            refine zr_aload_n (pc := 92) hC 3 rfl rfl dX11_partners_92 ?_
            refine zcg_76_0 (pc := 93) hC hinX11_partners_X11 flX11_partners_59 dX11_partners_93 ?_
            refine zr_iload_n (pc := 96) hC 6 rfl rfl dX11_partners_96 ?_
            refine zr_aload_n (pc := 97) hC 3 rfl rfl dX11_partners_97 ?_
            refine zcg_76_0 (pc := 98) hC hinX11_partners_X11 flX11_partners_59 dX11_partners_98 ?_
            refine zr_iload_n (pc := 101) hC 6 rfl rfl dX11_partners_101 ?_
            refine zr_aload (pc := 102) hC 1 rfl dX11_partners_102 ?_
            refine zpg_2 (pc := 104) hC hinX11_partners_X2 hinX11_partners_X7 hinX11_partners_X1 hinX11_partners_X4 hinX11_partners_X9 hinX11_partners_X0 flX11_partners_130 i9 dX11_partners_104 ?_
            obtain ⟨q19, hq19, h⟩ := zbd h
            refine zr_cVi (pc := 107) hC hEk [.int v3, .int (pP.2.2.1 a7 2)] [.int v3, .ref (ad 0)] 0 2 (fun l D => tX10_guessAt hEk hq19 l D) gX11_partners_X10_guessAt rfl rfl rfl ⟨Nat.le_of_ble_eq_true rfl, Nat.le_of_ble_eq_true rfl⟩ hyX10_guessAt (zNC (by decide)) entC_0 rfl rfl rfl (Nat.le_of_ble_eq_true rfl) ⟨Nat.le_of_ble_eq_true rfl, Nat.le_of_ble_eq_true rfl⟩ dX11_partners_107 ?_
            obtain ⟨q20, hq20, h⟩ := zbd h
            refine zr_cVl (pc := 110) hC hEk [.int v3, .int q19] [] 0 2 (fun l D => tX10_shareOf hEk hq20 l D) gX11_partners_X10_shareOf rfl rfl rfl ⟨Nat.le_of_ble_eq_true rfl, Nat.le_of_ble_eq_true rfl⟩ hyX10_shareOf (zNC (by decide)) entC_0 rfl rfl rfl (Nat.le_of_ble_eq_true rfl) ⟨Nat.le_of_ble_eq_true rfl, Nat.le_of_ble_eq_true rfl⟩ dX11_partners_110 ?_
            refine zr_lstore (pc := 113) (lv' := [(8, .long q20), (6, .long q18), (5, .ref (ad (81 + a7))), (4, .ref (ad (81 + a3))), (0, .ref (ad 76)), (1, .int v1), (2, .int v2), (3, .int v3)]) hC (by decide) rfl dX11_partners_113 ?_
            refine zr_lload (pc := 115) hC 1 rfl dX11_partners_115 ?_
            refine zr_lconst (pc := 117) hC zkl_0 dX11_partners_117 ?_
            refine zr_lcmp (pc := 118) hC dX11_partners_118 ?_
            refine zr_if_ne (pc := 119) (tgt := 132) hC dX11_partners_119 (by decide) (fun c21 => ?_) (fun c21 => ?_)
            · replace h := zin h c21
              refine zr_lload (pc := 132) hC 0 rfl dX11_partners_132 ?_
              refine zr_lload (pc := 134) hC 1 rfl dX11_partners_134 ?_
              refine zr_lcmp (pc := 136) hC dX11_partners_136 ?_
              refine zr_if_le (pc := 137) (tgt := 144) hC dX11_partners_137 (by decide) (fun c22 => ?_) (fun c22 => ?_)
              · replace h := zip h c22
                refine zr_iload_n (pc := 144) hC 5 rfl rfl dX11_partners_144 ?_
                obtain rfl := Option.some.inj h
                exact zr_iret hC hR ⟨rfl, rfl⟩ (Nat.le_refl _) (Nat.le_refl _) dX11_partners_145
              · replace h := zin h c22
                refine zr_iload_n (pc := 140) hC 6 rfl rfl dX11_partners_140 ?_
                refine zr_goto (pc := 141) (tgt := 145) hC dX11_partners_141 (by decide) ?_
                obtain rfl := Option.some.inj h
                exact zr_iret hC hR ⟨rfl, rfl⟩ (Nat.le_refl _) (Nat.le_refl _) dX11_partners_145
            · replace h := zip h c21
              refine zr_lload (pc := 122) hC 0 rfl dX11_partners_122 ?_
              refine zr_lconst (pc := 124) hC zkl_0 dX11_partners_124 ?_
              refine zr_lcmp (pc := 125) hC dX11_partners_125 ?_
              refine zr_if_ne (pc := 126) (tgt := 132) hC dX11_partners_126 (by decide) (fun c23 => ?_) (fun c23 => ?_)
              · replace h := zin h c23
                refine zr_lload (pc := 132) hC 0 rfl dX11_partners_132 ?_
                refine zr_lload (pc := 134) hC 1 rfl dX11_partners_134 ?_
                refine zr_lcmp (pc := 136) hC dX11_partners_136 ?_
                refine zr_if_le (pc := 137) (tgt := 144) hC dX11_partners_137 (by decide) (fun c24 => ?_) (fun c24 => ?_)
                · replace h := zip h c24
                  refine zr_iload_n (pc := 144) hC 5 rfl rfl dX11_partners_144 ?_
                  obtain rfl := Option.some.inj h
                  exact zr_iret hC hR ⟨rfl, rfl⟩ (Nat.le_refl _) (Nat.le_refl _) dX11_partners_145
                · replace h := zin h c24
                  refine zr_iload_n (pc := 140) hC 6 rfl rfl dX11_partners_140 ?_
                  refine zr_goto (pc := 141) (tgt := 145) hC dX11_partners_141 (by decide) ?_
                  obtain rfl := Option.some.inj h
                  exact zr_iret hC hR ⟨rfl, rfl⟩ (Nat.le_refl _) (Nat.le_refl _) dX11_partners_145
              · replace h := zip h c23
                refine zr_bipush (pc := 129) hC zkb_m9 dX11_partners_129 ?_
                obtain rfl := Option.some.inj h
                exact zr_iret hC hR ⟨rfl, rfl⟩ (Nat.le_refl _) (Nat.le_refl _) dX11_partners_131
          · replace h := zip h c16
            refine zr_aload_n (pc := 62) hC 2 rfl rfl dX11_partners_62 ?_
            refine zr_bipush (pc := 63) hC zkb_m3 dX11_partners_63 ?_
            obtain ⟨q25, hq25, h⟩ := zbd h
            refine zr_cVi (pc := 65) hC hEk [.int (-3 : Int32)] [] 76 1 (fun l D => tX11_refuse hEk hq25 l D) gX11_partners_X11_refuse rfl rfl rfl ⟨Nat.le_of_ble_eq_true rfl, Nat.le_of_ble_eq_true rfl⟩ hyX11_refuse (zNC (by decide)) entC_76 rfl rfl rfl (Nat.le_of_ble_eq_true rfl) ⟨Nat.le_of_ble_eq_true rfl, Nat.le_of_ble_eq_true rfl⟩ dX11_partners_65 ?_
            obtain rfl := Option.some.inj h
            exact zr_iret hC hR ⟨rfl, rfl⟩ (Nat.le_refl _) (Nat.le_refl _) dX11_partners_68
        · replace h := zip h c14
          refine zr_aload_n (pc := 46) hC 2 rfl rfl dX11_partners_46 ?_
          refine zr_iconst (pc := 47) hC zki_m1 dX11_partners_47 ?_
          obtain ⟨q26, hq26, h⟩ := zbd h
          refine zr_cVi (pc := 48) hC hEk [.int (-1 : Int32)] [] 76 1 (fun l D => tX11_refuse hEk hq26 l D) gX11_partners_X11_refuse rfl rfl rfl ⟨Nat.le_of_ble_eq_true rfl, Nat.le_of_ble_eq_true rfl⟩ hyX11_refuse (zNC (by decide)) entC_76 rfl rfl rfl (Nat.le_of_ble_eq_true rfl) ⟨Nat.le_of_ble_eq_true rfl, Nat.le_of_ble_eq_true rfl⟩ dX11_partners_48 ?_
          obtain rfl := Option.some.inj h
          exact zr_iret hC hR ⟨rfl, rfl⟩ (Nat.le_refl _) (Nat.le_refl _) dX11_partners_51
/-! X11_fact -/
theorem hyX11_fact : yX11_fact.cls = RX11 ∧ yX11_fact.cls ≠ "java/lang/invoke/MethodHandle" ∧ yX11_fact.cls ≠ "java/lang/invoke/VarHandle" ∧ (parseMethodDescriptor yX11_fact.desc).map (fun d => d.parameters.length) = some 1 := by decide +kernel
theorem flX11_fact_19 : Cond.fieldLink RX11 19 "BeforeTheEnd" "facts" "LBeforeTheEnd$Facts;" ∈ wsX11_fact := by decide +kernel
theorem hinX11_fact_X11 : ∀ w ∈ wsX110, w ∈ wsX11_fact := fun _ h => List.mem_cons_of_mem _ (List.mem_append_left _ (List.mem_append_right _ h))
theorem hinX11_fact_X3 : ∀ w ∈ wsX30, w ∈ wsX11_fact := fun _ h => List.mem_cons_of_mem _ (List.mem_append_right _ h)
def xX11_fact (pF : zM) (pB : zM) (v1 : Int32) : Option (Int32 × zM × zM) :=
  if v1 < 0 then
  ((xX11_refuse pB (-1 : Int32)).bind fun q2 =>
  some (q2.1, pF, q2.2))
  else
  if (v1 &&& (-1023 : Int32)) = 0 then
  ((xX3_size pF).bind fun q4 =>
  if q4 < (5 : Int32) then
  ((xX3_append pF v1).bind fun q6 =>
  some (q6.1, q6.2, pB))
  else
  (xX11_refuse pB (-6 : Int32)).bind fun q7 =>
  some (q7.1, pF, q7.2))
  else
  (xX11_refuse pB (-1 : Int32)).bind fun q8 =>
  some (q8.1, pF, q8.2)
set_option maxHeartbeats 4000000 in
set_option maxRecDepth 100000 in
theorem tX11_fact {κ : Nat → ClassId} {tg : Nat} {S : zEn} {ad : Nat → Nat} (hEk : zEk (zE tg S)) {pT : zM} {pR : zM} {pX : zM} {pF : zM} {pB : zM} {pP : zP} {v1 : Int32} {res : (Int32 × zM × zM)} (h : xX11_fact pF pB v1 = some res) (l : Launch) (D : va_G) : zCT (zE tg S) D vwCl (zty κ) l yX11_fact wsX11_fact ({ frames := 1, cells := 0, slots := 0, locals := 22 } : Room) 0 0 [.ref (ad 76), .int v1] (zwC κ ad pT pR pX pF pB pP) (zPd (some (.int res.1)) (zwC κ ad pT pR pX res.2.1 res.2.2 pP)) := by
  refine zCT.of (cc := cX11_fact) (maxL := 2) (ret := (some .int)) (by decide) rfl (Nat.le_of_ble_eq_true rfl) ?_
  intro X hC hR
  unfold xX11_fact at h
  refine zV.sub (lv' := [(0, .ref (ad 76)), (1, .int v1)]) [0, 1] rfl ?_
  refine zr_iload_n (pc := 0) hC 1 rfl rfl dX11_fact_0 ?_
  refine zr_if_lt (pc := 1) (tgt := 12) hC dX11_fact_1 (by decide) (fun c1 => ?_) (fun c1 => ?_)
  · replace h := zip h c1
    refine zr_aload_n (pc := 12) hC 0 rfl rfl dX11_fact_12 ?_
    refine zr_iconst (pc := 13) hC zki_m1 dX11_fact_13 ?_
    obtain ⟨q2, hq2, h⟩ := zbd h
    refine zr_cVi (pc := 14) hC hEk [.int (-1 : Int32)] [] 76 1 (fun l D => tX11_refuse hEk hq2 l D) gX11_fact_X11_refuse rfl rfl rfl ⟨Nat.le_of_ble_eq_true rfl, Nat.le_of_ble_eq_true rfl⟩ hyX11_refuse (zNC (by decide)) entC_76 rfl rfl rfl (Nat.le_of_ble_eq_true rfl) ⟨Nat.le_of_ble_eq_true rfl, Nat.le_of_ble_eq_true rfl⟩ dX11_fact_14 ?_
    obtain rfl := Option.some.inj h
    exact zr_iret hC hR ⟨rfl, rfl⟩ (Nat.le_refl _) (Nat.le_refl _) dX11_fact_17
  · replace h := zin h c1
    refine zr_iload_n (pc := 4) hC 1 rfl rfl dX11_fact_4 ?_
    refine zr_sipush (pc := 5) hC zks_m1023 dX11_fact_5 ?_
    refine zr_iand (pc := 8) hC dX11_fact_8 ?_
    refine zr_if_eq (pc := 9) (tgt := 18) hC dX11_fact_9 (by decide) (fun c3 => ?_) (fun c3 => ?_)
    · replace h := zip h c3
      refine zr_aload_n (pc := 18) hC 0 rfl rfl dX11_fact_18 ?_
      refine zcg_76_3 (pc := 19) hC hinX11_fact_X11 flX11_fact_19 dX11_fact_19 ?_
      obtain ⟨q4, hq4, h⟩ := zbd h
      refine zr_cVi (pc := 22) hC hEk [] [] 72 0 (fun l D => tX3_size hEk hq4 l D) gX11_fact_X3_size rfl rfl rfl ⟨Nat.le_of_ble_eq_true rfl, Nat.le_of_ble_eq_true rfl⟩ hyX3_size (zNC (by decide)) entC_72 rfl rfl rfl (Nat.le_of_ble_eq_true rfl) ⟨Nat.le_of_ble_eq_true rfl, Nat.le_of_ble_eq_true rfl⟩ dX11_fact_22 ?_
      refine zr_iconst (pc := 25) hC zki_5 dX11_fact_25 ?_
      refine zr_icmp_lt (pc := 26) (tgt := 36) hC dX11_fact_26 (by decide) (fun c5 => ?_) (fun c5 => ?_)
      · replace h := zip h c5
        refine zr_aload_n (pc := 36) hC 0 rfl rfl dX11_fact_36 ?_
        refine zcg_76_3 (pc := 37) hC hinX11_fact_X11 flX11_fact_19 dX11_fact_37 ?_
        refine zr_iload_n (pc := 40) hC 1 rfl rfl dX11_fact_40 ?_
        obtain ⟨q6, hq6, h⟩ := zbd h
        refine zr_cVi (pc := 41) hC hEk [.int v1] [] 72 1 (fun l D => tX3_append hEk hq6 l D) gX11_fact_X3_append rfl rfl rfl ⟨Nat.le_of_ble_eq_true rfl, Nat.le_of_ble_eq_true rfl⟩ hyX3_append (zNC (by decide)) entC_72 rfl rfl rfl (Nat.le_of_ble_eq_true rfl) ⟨Nat.le_of_ble_eq_true rfl, Nat.le_of_ble_eq_true rfl⟩ dX11_fact_41 ?_
        obtain rfl := Option.some.inj h
        exact zr_iret hC hR ⟨rfl, rfl⟩ (Nat.le_refl _) (Nat.le_refl _) dX11_fact_44
      · replace h := zin h c5
        refine zr_aload_n (pc := 29) hC 0 rfl rfl dX11_fact_29 ?_
        refine zr_bipush (pc := 30) hC zkb_m6 dX11_fact_30 ?_
        obtain ⟨q7, hq7, h⟩ := zbd h
        refine zr_cVi (pc := 32) hC hEk [.int (-6 : Int32)] [] 76 1 (fun l D => tX11_refuse hEk hq7 l D) gX11_fact_X11_refuse rfl rfl rfl ⟨Nat.le_of_ble_eq_true rfl, Nat.le_of_ble_eq_true rfl⟩ hyX11_refuse (zNC (by decide)) entC_76 rfl rfl rfl (Nat.le_of_ble_eq_true rfl) ⟨Nat.le_of_ble_eq_true rfl, Nat.le_of_ble_eq_true rfl⟩ dX11_fact_32 ?_
        obtain rfl := Option.some.inj h
        exact zr_iret hC hR ⟨rfl, rfl⟩ (Nat.le_refl _) (Nat.le_refl _) dX11_fact_35
    · replace h := zin h c3
      refine zr_aload_n (pc := 12) hC 0 rfl rfl dX11_fact_12 ?_
      refine zr_iconst (pc := 13) hC zki_m1 dX11_fact_13 ?_
      obtain ⟨q8, hq8, h⟩ := zbd h
      refine zr_cVi (pc := 14) hC hEk [.int (-1 : Int32)] [] 76 1 (fun l D => tX11_refuse hEk hq8 l D) gX11_fact_X11_refuse rfl rfl rfl ⟨Nat.le_of_ble_eq_true rfl, Nat.le_of_ble_eq_true rfl⟩ hyX11_refuse (zNC (by decide)) entC_76 rfl rfl rfl (Nat.le_of_ble_eq_true rfl) ⟨Nat.le_of_ble_eq_true rfl, Nat.le_of_ble_eq_true rfl⟩ dX11_fact_14 ?_
      obtain rfl := Option.some.inj h
      exact zr_iret hC hR ⟨rfl, rfl⟩ (Nat.le_refl _) (Nat.le_refl _) dX11_fact_17
