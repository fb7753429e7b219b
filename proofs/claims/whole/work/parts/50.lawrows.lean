/-! THE CLAIM OUT OF ONE WALK OF THE LAW'S BODY. Your part is whole_start (and what it stands on); all else here is the same for every law, but numbers. -/
def R_law : String := "BeforeTheEndLaw"
def lw_P (b : Addr) (xs : List Int32) (args : Array Value) (s : State) : Prop := args = #[.ref b] ∧ s.IntsAt b xs ∧ xs.length ≤ 2048 ∧ (Jvm.Cond.and given_1 narrow_1).before args s = true
def lw_Q (_ : Array Value) (s : State) (o : Outcome) (t : State) : Prop := o = .returned (some (.int 1)) ∧ Framed s o t [] 600000 7302250
def lw_Z (below : List Frame) (a : Array Value) (s : State) : State → Prop := fun t => ∃ o, t.status = .running ∧ Ended t below o ∧ lw_Q a s o t
/-- the law's own end, with 1 on the stack, nothing written that was there before, its room as the claim has it -/
theorem lw_ret {p : Program} {l : Launch} {e : Env} {s : State} {m : MethodId} {below : List Frame} {meth : Method} {c : Code} {b : Nat} (hx : p.tables.exec = Jvm.exec) (hb : c.code = code) (hr : meth.sig.returnType = ret) (hlocks : meth.locks = false) {pc : Nat} {H : Heap} {ls : Array Slot} (hdg : decode code pc = .ok (.ireturn, 1)) : W p l e room_1 s m #[Value.ref b] below meth c H [] 600000 7302250 (lw_Z below #[Value.ref b] s) (F0 m pc ls [.int 1]) := by
  intro T hT X
  obtain ⟨fs, hret, hrun, hended, hW, hframe⟩ := X.leave (v := some (.int 1)) (hlocks := hlocks) (fun h => by rw [hr] at h; cases h)
  have hmeth' : T.vm.method? m = some meth := X.method'
  refine ⟨T.setFrames fs, ?_, .returned (some (.int 1)), hrun, hended, rfl, ⟨_, rfl⟩, hW, hframe⟩
  jvm_step X.here [X.here.top, hx, hb, hdg, hmeth', hr, ret, narrow_b1]
  (try refine ⟨rfl, ?_⟩); (try refine ⟨rfl, ?_⟩)
  first | (intro acts; rw [hret _ acts rfl rfl rfl]) | rw [hret _ _ rfl rfl rfl]
  exact Steps.refl _
/-- what holds at the law's entry: the machine, the code, the tables' words (any of lw_tbl by 'hts w (by decide +kernel)'), the script of L ints xs at the cell b, what the Statement gives of the start (any of its parts by flat_of_before) -/
def lw_At (p : Program) (s : State) (m : MethodId) (meth : Method) (c : Code) (b L : Nat) (xs : Nat → Int32) : Prop :=
  p.tables.exec = Jvm.exec ∧ c.code = code ∧ meth.sig.returnType = ret ∧ c.maxLocals = 4 ∧ s.vm.findClass R_law = some m.cls ∧ (∀ w ∈ lw_tbl, w.before #[Value.ref b] s = true) ∧ va_X b L xs s s.heap ∧ b < s.heap.size ∧ meth.locks = false ∧ (Jvm.Cond.and given_1 narrow_1).before #[Value.ref b] s = true

/-! rows over two worlds, and the script -/
/-- the script is there and stays -/
def zB (X : zX) (b L : Nat) (xs : Nat → Int32) : Prop :=
  match X with
  | (p, l, e, R, s, m, args, below, meth, c, D, cl, A, nL, Q) => va_X b L xs s s.heap ∧ b < s.heap.size ∧ ¬ A b
/-- this is the law -/
def zLw (X : zX) (b : Nat) : Prop :=
  match X with
  | (p, l, e, R, s, m, args, below, meth, c, D, cl, A, nL, Q) => R = room_1 ∧ meth.sig.returnType = ret ∧ meth.locks = false ∧ args = #[Value.ref b] ∧ Q = lw_Z below #[Value.ref b] s ∧ ∀ q, A q → s.heap.size ≤ q
section ZL
variable {X : zX} {cells slots : Nat} {ws ws' : va_W} {lv : zLv} {st : List Value} {pc : Nat} {cc : ByteArray} {own : String} {Ts : List Cond} {cl : List vw_C} {tys : List (ClassId × FieldType)} {E : zEn} {nL : Nat} {rm : Room} {κ : Nat → ClassId}
variable {y : MethodName} {bytes : ByteArray} {maxL mc ms index : Nat} {ret1 : Option FieldType} {wsc wsc' : List Cond} {rmc : Room} {Po : Option Value → va_W → Prop}
theorem zr_swap {a b : va_W} (kk : zV X cells slots (b ++ a) lv st pc) : zV X cells slots (a ++ b) lv st pc := by
  obtain ⟨p, l, e, R, s, m, args, below, meth, c, D, cl', A, nL', Q⟩ := X
  intro H locs ls hP hD hS h9
  have key : ∀ (k : Nat) (q : Nat × va_E), (b ++ a)[k]? = some q → ∃ k', (a ++ b)[k']? = some q ∧ k < a.length + b.length ∧ k' = if k < b.length then a.length + k else k - b.length := by
    intro k q hk
    have hl := (List.getElem?_eq_some_iff.mp hk).1
    rw [List.length_append] at hl
    by_cases h : k < b.length
    · rw [List.getElem?_append_left h] at hk
      exact ⟨a.length + k, by rw [List.getElem?_append_right (by omega), Nat.add_sub_cancel_left]; exact hk, by omega, by rw [if_pos h]⟩
    · rw [List.getElem?_append_right (by omega)] at hk
      exact ⟨k - b.length, by rw [List.getElem?_append_left (by omega)]; exact hk, by omega, by rw [if_neg h]⟩
  refine kk H locs ls (fun k q hk => ?_) ⟨fun i j x z hi hj hxy => ?_, fun k q hk => ?_⟩ hS h9
  · obtain ⟨k', h, -⟩ := key k q hk
    exact hP k' q h
  · obtain ⟨i', h1, l1, e1⟩ := key i x hi
    obtain ⟨j', h2, l2, e2⟩ := key j z hj
    have h3 := hD.1 i' j' x z h1 h2 hxy
    by_cases c1 : i < b.length
    · rw [if_pos c1] at e1
      by_cases c2 : j < b.length
      · rw [if_pos c2] at e2; omega
      · rw [if_neg c2] at e2; omega
    · rw [if_neg c1] at e1
      by_cases c2 : j < b.length
      · rw [if_pos c2] at e2; omega
      · rw [if_neg c2] at e2; omega
  · obtain ⟨k', h, -⟩ := key k q hk
    exact hD.2 k' q h
theorem zr_sld (hC : zC X cc own Ts cl tys E nL rm) {b L : Nat} {xs : Nat → Int32} (hB : zB X b L xs) {i : Int32} (hin : vp_in i L) (hd : decode cc pc = .ok (.iaload, 1)) (kk : zV X cells slots ws lv (.int (xs i.toNatClampNeg) :: st) (pc + 1)) : zV X cells slots ws lv (.int i :: .ref b :: st) pc := by
  obtain ⟨p, l, e, R, s, m, args, below, meth, c, D, cl', A, nL', Q⟩ := X
  obtain ⟨hx, hb, hml, ho, hts, rfl, hK, hA, hE, rfl, rfl⟩ := hC
  obtain ⟨hX, hbl, hbA⟩ := hB
  intro H locs ls hP hD hS h9
  exact va_sld hx hb hX hbl hbA hS hin hd (kk H locs ls hP hD hS h9)
theorem zr_slen (hC : zC X cc own Ts cl tys E nL rm) {b L : Nat} {xs : Nat → Int32} (hB : zB X b L xs) (hd : decode cc pc = .ok (.arraylength, 1)) (kk : zV X cells slots ws lv (.int (Int32.ofNat L) :: st) (pc + 1)) : zV X cells slots ws lv (.ref b :: st) pc := by
  obtain ⟨p, l, e, R, s, m, args, below, meth, c, D, cl', A, nL', Q⟩ := X
  obtain ⟨hx, hb, hml, ho, hts, rfl, hK, hA, hE, rfl, rfl⟩ := hC
  obtain ⟨hX, hbl, hbA⟩ := hB
  intro H locs ls hP hD hS h9
  exact va_slen hx hb hX hbl hbA hS hd (kk H locs ls hP hD hS h9)
theorem zr_lV (hC : zC X cc own Ts cl tys E nL rm) (hEk : zEk E) {wr : va_W} {ad : Nat → Nat} {f : Nat → va_E} {N : Nat} (As rest : List Value) (j n : Nat) {ci Nn : Nat} {fs : List Value} {C : String} {T : u_T} {st0 : List Value} (hM : ∀ (l : Launch) (D : va_G), zCT E D cl tys l y wsc rmc mc ms (.ref (ad j) :: As) (zw ad f N) Po) (hG : GoodIn Ts (wsV own index C y wsc)) (hw : wsc = Cond.code y bytes maxL ret1 :: wsc') (hrc : rmc.cells = mc) (hrs : rmc.slots = ms) (hR : rmc.frames + 1 ≤ rm.frames ∧ 8 + (maxL + 11) + rmc.locals ≤ rm.locals) (hy : y.cls = C ∧ y.cls ≠ "java/lang/invoke/MethodHandle" ∧ y.cls ≠ "java/lang/invoke/VarHandle" ∧ (parseMethodDescriptor y.desc).map (fun d => d.parameters.length) = some n) (hj : j < N) (hf : f j = .inr (ci, fs)) (hc : cl[ci]? = some (C, T, Nn)) (hn : As.length = n) (hst : st0 = As.reverse ++ .ref (ad j) :: rest) (hcat : (rest.map fun v => v.category).sum ≤ 8) (hfit : cells + mc ≤ rm.cells ∧ slots + ms ≤ rm.slots) (hd : decode cc pc = .ok (.invokevirtual index, 3)) (kk : ∀ (rv : Option Value) (w1 : va_W), Po rv w1 → zV X (cells + mc) (slots + ms) (wr ++ w1) lv (rv.toList ++ rest) (pc + 3)) : zV X cells slots (wr ++ zw ad f N) lv st0 pc := by
  obtain ⟨p, l, e, R, s, m, args, below, meth, c, D, cl', A, nL', Q⟩ := X
  obtain ⟨hx, hb, hml, ho, hts, rfl, hK, hA, hE, rfl, rfl⟩ := hC
  intro H locs ls hP hD hS h9
  exact zcall_part hP hD hS h9 hA (va_runV (As := As) (rest := rest) ⟨hx, hb, hml, ho, hts⟩ (hM l D H.size) (cwV n hts hG hw hrc hrs hy hR) ⟨zpre_blind hEk, va_recv hK hP hc (q0 := wr.length + j) (by rw [List.getElem?_append_right (by omega), Nat.add_sub_cancel_left, zw_get hj, hf]), zpre_part hEk hK hP hD hS hA hE⟩ rfl hn h9.1 hst (lv_room hcat) hd hfit) kk
theorem zr_lend {b : Nat} (hC : zC X code own Ts cl tys E nL rm) (hLw : zLw X b) (h1 : cells ≤ 600000) (h2 : slots ≤ 7302250) (hd : decode code pc = .ok (.ireturn, 1)) : zV X cells slots ws lv [.int 1] pc := by
  obtain ⟨p, l, e, R, s, m, args, below, meth, c, D, cl', A, nL', Q⟩ := X
  obtain ⟨hx, hb, hml, ho, hts, rfl, hK, hA, hE, rfl, rfl⟩ := hC
  obtain ⟨rfl, hr, hlocks, rfl, rfl, hA2⟩ := hLw
  intro H locs ls hP hD hS h9
  refine va_forget (fun q hq => hA2 _ (hS.2.2 q hq)) ?_
  refine W.widen h1 h2 ?_
  exact lw_ret hx hb hr hlocks hd
end ZL
