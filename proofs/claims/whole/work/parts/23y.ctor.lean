theorem zk_key (h N : Nat) (e0 g : va_E) (i : Nat) (x : Nat × va_E) (hi : ((h, e0) :: (List.range N).map (fun i => (h + 1 + i, g)))[i]? = some x) : x.1 = h + i := by
  cases i with
  | zero => rw [List.getElem?_cons_zero] at hi; cases hi; rfl
  | succ i =>
    rw [List.getElem?_cons_succ, List.getElem?_map] at hi
    by_cases h9 : i < N
    · rw [List.getElem?_range h9] at hi; cases hi; show h + 1 + i = h + (i + 1); omega
    · rw [List.getElem?_eq_none (by rw [List.length_range]; omega)] at hi; cases hi
theorem zk_outer (c : ClassId) (N h0 : Nat) : ∀ i : Nat, Jvm.Free.Multi.outerC c N h0 i = arrV c N (fun j => va_rf (if j < i then some (h0 + 1 + j) else none))
  | 0 => by
    show ({ cls := c, slots := Array.replicate N .null, vm := .none } : Cell) = _
    rw [arrV_new]
    refine congrArg (arrV c N) (funext fun j => ?_)
    simp [va_rf]
  | i + 1 => by
    show (Jvm.Free.Multi.outerC c N h0 i).setSlot i (.ref (h0 + 1 + i)) = _
    rw [zk_outer c N h0 i, arrV_store]
    refine congrArg (arrV c N) (funext fun j => ?_)
    by_cases e : j = i
    · subst e
      simp [updV, va_rf]
    · by_cases h : j < i
      · simp [updV, e, h, Nat.lt_succ_of_lt h]
      · simp [updV, e, h, show ¬ j < i + 1 by omega]
/-! constructors: worlds as lists -/
section ZK
variable {X : zX} {cells slots : Nat} {ws ws' : va_W} {lv : zLv} {st : List Value} {pc : Nat} {cc : ByteArray} {own : String} {Ts : List Cond} {cl : List vw_C} {tys : List (ClassId × FieldType)} {E : zEn} {nL : Nat} {rm : Room} {κ : Nat → ClassId}
variable {y : MethodName} {bytes : ByteArray} {maxL mc ms index : Nat} {wsc wsc' : List Cond} {rmc : Room} {Po : Option Value → va_W → Prop}
theorem zVws (is : List Nat) (hn : va_nd is = true) (h1 : is.filterMap (fun i => ws[i]?) = ws') (h2 : is.map (fun i => ws[i]?) = ws'.map some) (kk : zV X cells slots ws' lv st pc) : zV X cells slots ws lv st pc := by
  obtain ⟨p, l, e, R, s, m, args, below, meth, c, D, cl', A, nL', Q⟩ := X
  intro H locs ls hP hD hS h9
  exact kk H locs ls (hP.sub is h1) (hD.sub is hn h2) hS h9
theorem zr_newI (hC : zC X cc own Ts cl (zty κ) E nL rm) (harr : Cond.arrayClass .int ∈ Ts) {n : Int32} {k : Nat} (hn : ¬ n < 0) (hN : n.toNatClampNeg = k) (hb0 : k * componentBytes .int ≤ 536870912) (hcells : cells + 1 ≤ rm.cells) (hslots : slots + k ≤ rm.slots) (hd : decode cc pc = .ok (.newarray .int, 2)) (kk : ∀ q : Nat, zV X (cells + 1) (slots + k) (ws ++ [(q, .inl (κ 0, k, .inl (fun _ => 0)))]) lv (.ref q :: st) (pc + 2)) : zV X cells slots ws lv (.int n :: st) pc := by
  obtain ⟨p, l, e, R, s, m, args, below, meth, c, D, cl', A, nL', Q⟩ := X
  obtain ⟨hx, hb, hml, ho, hts, rfl, hK, hA, hE, rfl, rfl⟩ := hC
  intro H locs ls hP hD hS h9
  refine va_newa (atype := .int) hx hb (hts _ harr) (ty := .int) rfl hK hP hD hS hA (a0 := (k, .inl (fun _ => 0))) (fun cA => rfl) hn hN hb0 hcells hslots hd (fun q cA H hK2 hP hD hS => ?_)
  have e1 : s.vm.findClass _ = some cA := (hK2.2 4 (cA, .int) rfl).2
  have e2 : s.vm.findClass _ = some (κ 0) := (hK.2 0 (κ 0, .int) rfl).2
  have e3 : cA = κ 0 := Option.some.inj (e1.symm.trans e2)
  subst e3
  exact kk q H locs ls hP hD hS h9
theorem zr_newJ (hC : zC X cc own Ts cl (zty κ) E nL rm) (harr : Cond.arrayClass .long ∈ Ts) {n : Int32} {k : Nat} (hn : ¬ n < 0) (hN : n.toNatClampNeg = k) (hb0 : k * componentBytes .long ≤ 536870912) (hcells : cells + 1 ≤ rm.cells) (hslots : slots + k ≤ rm.slots) (hd : decode cc pc = .ok (.newarray .long, 2)) (kk : ∀ q : Nat, zV X (cells + 1) (slots + k) (ws ++ [(q, .inl (κ 1, k, .inr (.inl (fun _ => 0))))]) lv (.ref q :: st) (pc + 2)) : zV X cells slots ws lv (.int n :: st) pc := by
  obtain ⟨p, l, e, R, s, m, args, below, meth, c, D, cl', A, nL', Q⟩ := X
  obtain ⟨hx, hb, hml, ho, hts, rfl, hK, hA, hE, rfl, rfl⟩ := hC
  intro H locs ls hP hD hS h9
  refine va_newa (atype := .long) hx hb (hts _ harr) (ty := .long) rfl hK hP hD hS hA (a0 := (k, .inr (.inl (fun _ => 0)))) (fun cA => rfl) hn hN hb0 hcells hslots hd (fun q cA H hK2 hP hD hS => ?_)
  have e1 : s.vm.findClass _ = some cA := (hK2.2 4 (cA, .long) rfl).2
  have e2 : s.vm.findClass _ = some (κ 1) := (hK.2 1 (κ 1, .long) rfl).2
  have e3 : cA = κ 1 := Option.some.inj (e1.symm.trans e2)
  subst e3
  exact kk q H locs ls hP hD hS h9
theorem zr_newP (hC : zC X cc own Ts cl (zty κ) E nL rm) (hz : ∀ (A : Nat → Prop) (s : State), E A s → va_AO "BeforeTheEnd$Player" s) (hl : Cond.classLink own index "BeforeTheEnd$Player" ∈ Ts) {n : Int32} {k : Nat} (hn : ¬ n < 0) (hN : n.toNatClampNeg = k) (hb0 : k * 4 ≤ 536870912) (hcells : cells + 1 ≤ rm.cells) (hslots : slots + k ≤ rm.slots) (hd : decode cc pc = .ok (.anewarray index, 3)) (kk : ∀ q : Nat, zV X (cells + 1) (slots + k) (ws ++ [(q, .inl (κ 2, k, .inr (.inr (.inr (.inr (fun _ => none))))))]) lv (.ref q :: st) (pc + 3)) : zV X cells slots ws lv (.int n :: st) pc := by
  obtain ⟨p, l, e, R, s, m, args, below, meth, c, D, cl', A, nL', Q⟩ := X
  obtain ⟨hx, hb, hml, ho, hts, rfl, hK, hA, hE, rfl, rfl⟩ := hC
  intro H locs ls hP hD hS h9
  refine va_newq hx hb ho (hts _ hl) (hz A s hE) hK hP hD hS hA hn hN hb0 hcells hslots hd (fun q cA H hK2 hP hD hS => ?_)
  obtain ⟨kA, comp, -, -, -, e1⟩ := (hK2.2 4 (cA, .object "BeforeTheEnd$Player") rfl).2
  obtain ⟨kA2, comp2, -, -, -, e2⟩ := (hK.2 2 (κ 2, .object "BeforeTheEnd$Player") rfl).2
  have e3 : cA = κ 2 := Option.some.inj (e1.symm.trans e2)
  subst e3
  exact kk q H locs ls hP hD hS h9
theorem zr_mna (hC : zC X cc own Ts cl (zty κ) E nL rm) (hz : ∀ (A : Nat → Prop) (s : State), E A s → zAOA s) (hl : Cond.classLink own index ("[" ++ (FieldType.array .long).toString) ∈ Ts) (harr : Cond.arrayClass .long ∈ Ts) {n k : Int32} {N' K' : Nat} (hn : ¬ n < 0) (hk : ¬ k < 0) (hN : n.toNatClampNeg = N') (hM : k.toNatClampNeg = K') (hb1 : N' * 4 ≤ 536870912) (hb2 : K' * 8 ≤ 536870912) (hcells : cells + (1 + N') ≤ rm.cells) (hslots : slots + (N' + N' * K') ≤ rm.slots) (hd : decode cc pc = .ok (.multianewarray index 2, 4)) (kk : ∀ q : Nat, zV X (cells + 1 + N') (slots + N' + N' * K') (ws ++ (q, .inl (κ 3, N', .inr (.inr (.inr (.inr (fun i => if i < N' then some (q + 1 + i) else none)))))) :: (List.range N').map (fun i => (q + 1 + i, .inl (κ 1, K', .inr (.inl (fun _ => 0)))))) lv (.ref q :: st) (pc + 4)) : zV X cells slots ws lv (.int k :: .int n :: st) pc := by
  obtain ⟨p, l, e, R, s, m, args, below, meth, c, D, cl', A, nL', Q⟩ := X
  obtain ⟨hx, hb, hml, ho, hts, rfl, hK, hA, hE, rfl, rfl⟩ := hC
  intro H locs ls hP hD hS h9
  subst hN
  subst hM
  intro T hT Xs
  obtain ⟨vm₁, cA, comp, -, fA, fC, hO, -, X', step⟩ := Xs.multianewarray2F hx ho (hts _ hl) (show (Cond.arrayOver (.array .long)).before args s = true from hz A s hE) (hts _ harr) (g := F0 m pc ls (.int k :: .int n :: st)) rfl (by rw [hb]; exact hd) rfl hn hk hb1 hb2 (by omega) rfl rfl hcells hslots
  have ec : κ 1 = comp := Option.some.inj ((hK.2 1 (κ 1, .long) rfl).2.symm.trans fC)
  have eA : κ 3 = cA := Option.some.inj ((hK.2 3 (κ 3, .array .long) rfl).2.symm.trans fA)
  subst ec
  subst eA
  generalize hF : Jvm.Free.Multi.fill (T.setVm vm₁) (κ 3) (κ 1) n.toNatClampNeg k.toNatClampNeg (defaultValue .long) n.toNatClampNeg = F at X' step
  have hTh : (T.setVm vm₁).heap = H := hT
  obtain ⟨f1, f2, -, -⟩ := Jvm.Free.Multi.fill_facts (T.setVm vm₁) (κ 3) (κ 1) n.toNatClampNeg k.toNatClampNeg (defaultValue .long) n.toNatClampNeg
  rw [hF, hTh] at f1 f2
  have hold : ∀ x : Nat, x < H.size → F.heap[x]? = H[x]? := fun x hx => by
    have := Jvm.Free.Multi.fill_old (T.setVm vm₁) (κ 3) (κ 1) n.toNatClampNeg k.toNatClampNeg (defaultValue .long) (a := x) (by rw [hTh]; exact hx) n.toNatClampNeg
    rw [hF, hTh] at this
    exact this
  have hz0 : Jvm.Free.Multi.innerC (κ 1) k.toNatClampNeg (defaultValue .long) = vp_cell (κ 1) (k.toNatClampNeg, .inr (.inl (fun _ => 0))) := by
    show ({ cls := κ 1, slots := Array.replicate k.toNatClampNeg (.long 0), vm := .none } : Cell) = _
    rw [arrV_new]
    rfl
  have hrow : ∀ j : Nat, j < n.toNatClampNeg → F.heap[H.size + 1 + j]? = some (vp_cell (κ 1) (k.toNatClampNeg, .inr (.inl (fun _ => 0)))) := fun j hj => by
    have := Jvm.Free.Multi.fill_inner (T.setVm vm₁) (κ 3) (κ 1) n.toNatClampNeg k.toNatClampNeg (defaultValue .long) n.toNatClampNeg j hj
    rw [hF, hTh, hz0] at this
    exact this
  have hout : Jvm.Free.Multi.outerC (κ 3) n.toNatClampNeg H.size n.toNatClampNeg = vp_cell (κ 3) (n.toNatClampNeg, .inr (.inr (.inr (.inr (fun i => if i < n.toNatClampNeg then some (H.size + 1 + i) else none))))) := by
    rw [vp_cell_q]
    exact zk_outer (κ 3) n.toNatClampNeg H.size n.toNatClampNeg
  rw [hout] at f2
  have hP0 : va_P D cl' ws F.heap := hP.kept (fun k9 x hx => hold x.1 ((hP k9 x hx).lt))
  have hP2 : va_P D cl' (ws ++ (H.size, .inl (κ 3, n.toNatClampNeg, .inr (.inr (.inr (.inr (fun i => if i < n.toNatClampNeg then some (H.size + 1 + i) else none)))))) :: (List.range n.toNatClampNeg).map (fun i => (H.size + 1 + i, .inl (κ 1, k.toNatClampNeg, .inr (.inl (fun _ => 0)))))) F.heap := hP0.app (fun k9 x hx => by
    rcases List.mem_cons.mp (List.mem_of_getElem? hx) with h | h
    · subst h; exact f2
    · obtain ⟨i, hi, rfl⟩ := List.mem_map.mp h
      exact hrow i (List.mem_range.mp hi))
  have hD2 : va_D A (ws ++ (H.size, .inl (κ 3, n.toNatClampNeg, .inr (.inr (.inr (.inr (fun i => if i < n.toNatClampNeg then some (H.size + 1 + i) else none)))))) :: (List.range n.toNatClampNeg).map (fun i => (H.size + 1 + i, .inl (κ 1, k.toNatClampNeg, .inr (.inl (fun _ => 0)))))) := by
    refine va_D.app hD ⟨?_, ?_⟩ ?_
    · intro i j x z hi hj hxz
      have h1 := zk_key _ _ _ _ i x hi
      have h2 := zk_key _ _ _ _ j z hj
      omega
    · intro k9 x hx
      rcases List.mem_cons.mp (List.mem_of_getElem? hx) with h | h
      · subst h; exact hA _ hS.1
      · obtain ⟨i, hi, rfl⟩ := List.mem_map.mp h
        exact hA _ (by have := hS.1; show s.heap.size ≤ H.size + 1 + i; omega)
    · intro i j x z hi hj
      have h1 := (hP i x hi).lt
      rcases List.mem_cons.mp (List.mem_of_getElem? hj) with h | h
      · subst h; exact Nat.ne_of_lt h1
      · obtain ⟨i2, hi2, rfl⟩ := List.mem_map.mp h
        show x.1 ≠ H.size + 1 + i2
        omega
  obtain ⟨t, a1, b1⟩ := kk H.size F.heap locs ls hP2 hD2 ⟨by rw [f1]; have := hS.1; omega, fun x h1 h2 => (hold x (Nat.lt_of_lt_of_le h1 hS.1)).trans (hS.2.1 x h1 h2), hS.2.2⟩ h9 F rfl X'
  refine ⟨t, step t ?_, b1⟩
  have e : T.heap.size = H.size := by rw [hT]
  rw [e]
  exact a1
theorem zr_getl (hC : zC X cc own Ts cl tys E nL rm) (q0 : Nat) {a ci : Nat} {fs : List Value} {C ref : String} {T : u_T} {Nn : Nat} (hin : ∀ w ∈ u_ws C T Nn, w ∈ Ts) (he : ws[q0]? = some (a, .inr (ci, fs))) (hc : cl[ci]? = some (C, T, Nn)) (k : Nat) (hk : k < Nn) (hl : Cond.fieldLink own index ref (T k).2.1 (T k).2.2.1 ∈ Ts) (hs : (T k).1 = ref) {v : Value} (hv : fs[k]? = some v) (hd : decode cc pc = .ok (.getfield index, 3)) (kk : zV X cells slots ws lv (v :: st) (pc + 3)) : zV X cells slots ws lv (.ref a :: st) pc := by
  obtain ⟨p, l, e, R, s, m, args, below, meth, c, D, cl', A, nL', Q⟩ := X
  obtain ⟨hx, hb, hml, ho, hts, rfl, hK, hA, hE, rfl, rfl⟩ := hC
  intro H locs ls hP hD hS h9
  exact va_get (D := D) hx hb hts hin ho hK hP q0 he hc k hk (hts _ hl) (fun _ h => by rw [← hs]; exact h) hv hd (kk H locs ls hP hD hS h9)
theorem zr_putl (hC : zC X cc own Ts cl tys E nL rm) (q0 : Nat) {a ci : Nat} {fs : List Value} {C ref : String} {T : u_T} {Nn : Nat} (hin : ∀ w ∈ u_ws C T Nn, w ∈ Ts) (ty0 : Nat → FieldType) (hty : ∀ k, k < Nn → parseFieldDescriptor (T k).2.2.1 = some (ty0 k)) (hnm : ∀ a, a < Nn → ∀ b, b < Nn → a ≠ b → (T a).2.1 ≠ (T b).2.1) (he : ws[q0]? = some (a, .inr (ci, fs))) (hc : cl[ci]? = some (C, T, Nn)) (k : Nat) (hk : k < Nn) (hl : Cond.fieldLink own index ref (T k).2.1 (T k).2.2.1 ∈ Ts) (hs : (T k).1 = ref) (hfin : (T k).2.2.2 = false) {ty : FieldType} {v : Value} (hty2 : ty0 k = ty) (hn : narrow ty v = v) (hfit : fits ty v = true) (hlen : k < fs.length) (hw : ws.set q0 (a, .inr (ci, fs.set k v)) = ws') (hd : decode cc pc = .ok (.putfield index, 3)) (kk : zV X cells slots ws' lv st (pc + 3)) : zV X cells slots ws lv (v :: .ref a :: st) pc := by
  obtain ⟨p, l, e, R, s, m, args, below, meth, c, D, cl', A, nL', Q⟩ := X
  obtain ⟨hx, hb, hml, ho, hts, rfl, hK, hA, hE, rfl, rfl⟩ := hC
  intro H locs ls hP hD hS h9
  refine va_put (D := D) hx hb hts hin ty0 hty hnm ho hK hP hD hS q0 he hc k hk (hts _ hl) (fun _ h => by rw [← hs]; exact h) hfin (hty2 ▸ hty k hk) hn hfit hlen hd (fun H locs hP hD hS => ?_)
  rw [hw] at hP hD
  exact kk H locs ls hP hD hS h9
theorem zr_putFl (hC : zC X cc own Ts cl tys E nL rm) (hI : zI X) (q0 : Nat) {a ci : Nat} {fs : List Value} {C ref : String} {T : u_T} {Nn : Nat} (hin : ∀ w ∈ u_ws C T Nn, w ∈ Ts) (ty0 : Nat → FieldType) (hty : ∀ k, k < Nn → parseFieldDescriptor (T k).2.2.1 = some (ty0 k)) (hnm : ∀ a, a < Nn → ∀ b, b < Nn → a ≠ b → (T a).2.1 ≠ (T b).2.1) (he : ws[q0]? = some (a, .inr (ci, fs))) (hc : cl[ci]? = some (C, T, Nn)) (k : Nat) (hk : k < Nn) (hl : Cond.fieldLink own index ref (T k).2.1 (T k).2.2.1 ∈ Ts) (hs : (T k).1 = ref) (hfin : (T k).2.2.2 = true) (hdecl : (T k).1 = own) {ty : FieldType} {v : Value} (hty2 : ty0 k = ty) (hn : narrow ty v = v) (hfit : fits ty v = true) (hlen : k < fs.length) (hw : ws.set q0 (a, .inr (ci, fs.set k v)) = ws') (hd : decode cc pc = .ok (.putfield index, 3)) (kk : zV X cells slots ws' lv st (pc + 3)) : zV X cells slots ws lv (v :: .ref a :: st) pc := by
  obtain ⟨p, l, e, R, s, m, args, below, meth, c, D, cl', A, nL', Q⟩ := X
  obtain ⟨hx, hb, hml, ho, hts, rfl, hK, hA, hE, rfl, rfl⟩ := hC
  intro H locs ls hP hD hS h9
  refine va_putF (D := D) hx hb hts hin ty0 hty hnm ho hK hP hD hS q0 he hc k hk (hts _ hl) (fun _ h => by rw [← hs]; exact h) hfin hI hdecl (hty2 ▸ hty k hk) hn hfit hlen hd (fun H locs hP hD hS => ?_)
  rw [hw] at hP hD
  exact kk H locs ls hP hD hS h9
theorem zr_iastl (hC : zC X cc own Ts cl (zty κ) E nL rm) (q0 : Nat) {a n : Nat} {g : Nat → Int32} {i x : Int32} (he : ws[q0]? = some (a, .inl (κ 0, n, .inl g))) (hi : ¬ (i < 0 ∨ n ≤ i.toNatClampNeg)) (hw : ws.set q0 (a, .inl (κ 0, n, .inl (upd g i.toNatClampNeg x))) = ws') (hd : decode cc pc = .ok (.iastore, 1)) (kk : zV X cells slots ws' lv st (pc + 1)) : zV X cells slots ws lv (.int x :: .int i :: .ref a :: st) pc := by
  obtain ⟨p, l, e, R, s, m, args, below, meth, c, D, cl', A, nL', Q⟩ := X
  obtain ⟨hx, hb, hml, ho, hts, rfl, hK, hA, hE, rfl, rfl⟩ := hC
  intro H locs ls hP hD hS h9
  refine va_iast (D := D) hx hb hK hP hD hS q0 0 he rfl hi hd (fun H locs hP hD hS => ?_)
  rw [hw] at hP hD
  exact kk H locs ls hP hD hS h9
theorem zr_lastl (hC : zC X cc own Ts cl (zty κ) E nL rm) (q0 : Nat) {a n : Nat} {g : Nat → Int64} {i : Int32} {x : Int64} (he : ws[q0]? = some (a, .inl (κ 1, n, .inr (.inl g)))) (hi : ¬ (i < 0 ∨ n ≤ i.toNatClampNeg)) (hw : ws.set q0 (a, .inl (κ 1, n, .inr (.inl (vp_updL g i.toNatClampNeg x)))) = ws') (hd : decode cc pc = .ok (.lastore, 1)) (kk : zV X cells slots ws' lv st (pc + 1)) : zV X cells slots ws lv (.long x :: .int i :: .ref a :: st) pc := by
  obtain ⟨p, l, e, R, s, m, args, below, meth, c, D, cl', A, nL', Q⟩ := X
  obtain ⟨hx, hb, hml, ho, hts, rfl, hK, hA, hE, rfl, rfl⟩ := hC
  intro H locs ls hP hD hS h9
  refine va_last (D := D) hx hb hK hP hD hS q0 1 he rfl hi hd (fun H locs hP hD hS => ?_)
  rw [hw] at hP hD
  exact kk H locs ls hP hD hS h9
/-- a call on the world's last part: the rest stays -/
theorem zcall_part {p : Program} {l : Launch} {e : Env} {R : Room} {s : State} {m : MethodId} {args : Array Value} {below : List Frame} {meth : Method} {c : Code} {H : Heap} {locs : List Loc} {Q : State → Prop} {ls : Array Slot} {st0 rest : List Value} {D : va_G} {A : Nat → Prop} {wr wc : va_W} {av : Array Value} (hP : va_P D cl (wr ++ wc) H) (hD : va_D A (wr ++ wc)) (hS : va_S A s.heap H locs) (h9 : lv_has ls nL lv) (hA : ∀ q : Nat, s.heap.size ≤ q → A q)
    (hr : va_Run p l e R s m args below meth c H locs cells slots mc ms (F0 m pc ls st0) rest (zQ D cl (va_A wc H.size) Po av) (va_A wc H.size))
    (kk : ∀ (rv : Option Value) (w1 : va_W), Po rv w1 → zV (p, l, e, R, s, m, args, below, meth, c, D, cl, A, nL, Q) (cells + mc) (slots + ms) (wr ++ w1) lv (rv.toList ++ rest) (pc + 3)) : W p l e R s m args below meth c H locs cells slots Q (F0 m pc ls st0) := by
  have hPr : va_P D cl wr H := fun k q hk => hP k q (by rw [List.getElem?_append_left (List.getElem?_eq_some_iff.mp hk).1]; exact hk)
  have hDr : va_D A wr := ⟨fun i j x z hi hj => hD.1 i j x z (by rw [List.getElem?_append_left (List.getElem?_eq_some_iff.mp hi).1]; exact hi) (by rw [List.getElem?_append_left (List.getElem?_eq_some_iff.mp hj).1]; exact hj), fun k q hk => hD.2 k q (by rw [List.getElem?_append_left (List.getElem?_eq_some_iff.mp hk).1]; exact hk)⟩
  have hcc : ∀ (k : Nat) (q : Nat × va_E), wc[k]? = some q → (wr ++ wc)[wr.length + k]? = some q := fun k q hk => by rw [List.getElem?_append_right (by omega), Nat.add_sub_cancel_left]; exact hk
  have hF : ∀ q, va_A wc H.size q → A q := by
    intro q h
    rcases h with ⟨k, e, h⟩ | h
    · exact hD.2 _ (q, e) (hcc k _ h)
    · exact hA q (Nat.le_trans hS.1 h)
  have apart : ∀ (k : Nat) (q : Nat × va_E), wr[k]? = some q → q.1 < H.size ∧ ¬ va_A wc H.size q.1 := by
    intro k q hk
    have hl := (hPr k q hk).lt
    refine ⟨hl, fun h => ?_⟩
    rcases h with ⟨k2, e, h⟩ | h
    · have hkl := (List.getElem?_eq_some_iff.mp hk).1
      have := hD.1 k (wr.length + k2) q (q.1, e) (by rw [List.getElem?_append_left hkl]; exact hk) (hcc k2 _ h) rfl
      omega
    · omega
  intro T hT X
  obtain ⟨v, st₀, t, T', L, h0, X', hL, e1, e2, ⟨⟨rv, w1, hv, hpo, hP1, hD1⟩, hz, hk⟩, st⟩ := hr T hT X
  cases hv
  rw [h0] at hz hk
  have hP2 : va_P D cl (wr ++ w1) T'.heap := va_P.app (fun k q hq => (hPr k q hq).kept (by rw [e1]; exact hk q.1 (apart k q hq).1 (apart k q hq).2)) (by rw [e1]; exact hP1)
  have hD2 : va_D A (wr ++ w1) := va_D.app hDr (hD1.weaken (fun _ q _ h => hF q.1 h)) (fun i j x z hx hz2 hxz => (apart i x hx).2 (by rw [hxz]; exact hD1.2 j z hz2))
  obtain ⟨t2, a1, b1⟩ := kk v w1 hpo T'.heap (locs ++ L) ls hP2 hD2
    ⟨Nat.le_trans hS.1 (by rw [e1]; exact hz), fun q h1 h2 => by rw [e1, hk q (Nat.lt_of_lt_of_le h1 hS.1) (fun z => h2 (hF q z))]; exact hS.2.1 q h1 h2, fun q hq => by
      rcases List.mem_append.mp hq with h | h
      · exact hS.2.2 q h
      · exact hF _ (hL q h)⟩ h9 T' rfl X'
  exact ⟨t2, st t2 a1, b1⟩
theorem zpre_part {s : State} {H : Heap} {locs : List Loc} {D : va_G} {A : Nat → Prop} {wr wc : va_W} {av : List Value} (hEk : zEk E) (hK : va_K D cl tys s) (hP : va_P D cl (wr ++ wc) H) (hD : va_D A (wr ++ wc)) (hS : va_S A s.heap H locs) (hA : ∀ q : Nat, s.heap.size ≤ q → A q) (hE : E A s) (U : State) (hU : U.heap = H) (hW : s.WarmedH U.vm) : va_Pc av (fun U => U.heap.size = H.size ∧ va_P D cl wc U.heap ∧ va_K D cl tys U ∧ va_D (fun _ => True) wc ∧ E (va_A wc H.size) U) av.toArray U := by
  have hcc : ∀ (k : Nat) (q : Nat × va_E), wc[k]? = some q → (wr ++ wc)[wr.length + k]? = some q := fun k q hk => by rw [List.getElem?_append_right (by omega), Nat.add_sub_cancel_left]; exact hk
  refine ⟨rfl, by rw [hU], by rw [hU]; exact fun k q hk => hP _ q (hcc k q hk), va_K.moved hW.alike hK, ⟨fun i j x z hi hj hxz => ?_, fun _ _ _ => trivial⟩, hEk.1 A (va_A wc H.size) s U hW (fun a ha hn => by rw [hU]; exact hS.2.1 a ha hn) (fun q h => ?_) hE⟩
  · have := hD.1 _ _ x z (hcc i x hi) (hcc j z hj) hxz
    omega
  · rcases h with ⟨k, e, h⟩ | h
    · exact hD.2 _ (q, e) (hcc k _ h)
    · exact hA q (Nat.le_trans hS.1 h)
theorem zr_callIp (hC : zC X cc own Ts cl tys E nL rm) (hEk : zEk E) {wr wc : va_W} (As rest : List Value) (b n : Nat) {st0 : List Value} (hM : ∀ (l : Launch) (D : va_G), zCT E D cl tys l y wsc rmc mc ms (.ref b :: As) wc Po) (hG : GoodIn Ts wsc) (hw : wsc = Cond.code y bytes maxL none :: wsc') (hrc : rmc.cells = mc) (hrs : rmc.slots = ms) (hini : Cond.initialized y.cls ∈ Ts ∧ Cond.methodLink own index y ∈ Ts ∧ Cond.instanceMethod y ∈ Ts) (hy1 : y.name = "<init>") (hy : y.cls ≠ "java/lang/invoke/MethodHandle" ∧ y.cls ≠ "java/lang/invoke/VarHandle" ∧ (parseMethodDescriptor y.desc).map (fun d => d.parameters.length) = some n) (hR : rmc.frames + 1 ≤ rm.frames ∧ 8 + (maxL + 11) + rmc.locals ≤ rm.locals) (hn : As.length = n) (hst : st0 = As.reverse ++ .ref b :: rest) (hcat : (rest.map fun v => v.category).sum ≤ 8) (hfit : cells + mc ≤ rm.cells ∧ slots + ms ≤ rm.slots) (hd : decode cc pc = .ok (.invokespecial index, 3)) (kk : ∀ (rv : Option Value) (w1 : va_W), Po rv w1 → zV X (cells + mc) (slots + ms) (wr ++ w1) lv (rv.toList ++ rest) (pc + 3)) : zV X cells slots (wr ++ wc) lv st0 pc := by
  obtain ⟨p, l, e, R, s, m, args, below, meth, c, D, cl', A, nL', Q⟩ := X
  obtain ⟨hx, hb, hml, ho, hts, rfl, hK, hA, hE, rfl, rfl⟩ := hC
  intro H locs ls hP hD hS h9
  exact zcall_part hP hD hS h9 hA (va_runI (As := As) (rest := rest) ⟨hx, hb, hml, ho, hts⟩ (hM l D H.size) (cwI n hts hG hw hrc hrs (hts _ hini.1) (hts _ hini.2.1) (hts _ hini.2.2) hy1 hy hR) ⟨zpre_blind hEk, zpre_part hEk hK hP hD hS hA hE⟩ rfl hn h9.1 hst (lv_room hcat) hd hfit) kk
theorem zr_callINp (hC : zC X cc own Ts cl tys E nL rm) (hEk : zEk E) {wr wc : va_W} {host : String} (As rest : List Value) (b n : Nat) {st0 : List Value} (hM : ∀ (l : Launch) (D : va_G), zCT E D cl tys l y wsc rmc mc ms (.ref b :: As) wc Po) (hG : GoodIn Ts wsc) (hz : ∀ (A : Nat → Prop) (s : State), E A s → va_Nw (.methodLinkNest own index y host) s) (hw : wsc = Cond.code y bytes maxL none :: wsc') (hrc : rmc.cells = mc) (hrs : rmc.slots = ms) (hini : Cond.initialized y.cls ∈ Ts ∧ Cond.instanceMethod y ∈ Ts) (hy1 : y.name = "<init>") (hy : y.cls ≠ "java/lang/invoke/MethodHandle" ∧ y.cls ≠ "java/lang/invoke/VarHandle" ∧ (parseMethodDescriptor y.desc).map (fun d => d.parameters.length) = some n) (hR : rmc.frames + 1 ≤ rm.frames ∧ 8 + (maxL + 11) + rmc.locals ≤ rm.locals) (hn : As.length = n) (hst : st0 = As.reverse ++ .ref b :: rest) (hcat : (rest.map fun v => v.category).sum ≤ 8) (hfit : cells + mc ≤ rm.cells ∧ slots + ms ≤ rm.slots) (hd : decode cc pc = .ok (.invokespecial index, 3)) (kk : ∀ (rv : Option Value) (w1 : va_W), Po rv w1 → zV X (cells + mc) (slots + ms) (wr ++ w1) lv (rv.toList ++ rest) (pc + 3)) : zV X cells slots (wr ++ wc) lv st0 pc := by
  obtain ⟨p, l, e, R, s, m, args, below, meth, c, D, cl', A, nL', Q⟩ := X
  obtain ⟨hx, hb, hml, ho, hts, rfl, hK, hA, hE, rfl, rfl⟩ := hC
  intro H locs ls hP hD hS h9
  exact zcall_part hP hD hS h9 hA (va_runIN (As := As) (rest := rest) ⟨hx, hb, hml, ho, hts⟩ (hM l D H.size) ⟨va_cnB n hts hG hw hrc hrs (hz A s hE) (hts _ hini.1) hy hR, hy1, hts _ hini.2⟩ ⟨zpre_blind hEk, zpre_part hEk hK hP hD hS hA hE⟩ rfl hn h9.1 hst (lv_room hcat) hd hfit) kk
end ZK
