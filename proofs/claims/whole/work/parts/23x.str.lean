/-! the String constant of kinds, as the surroundings hold it -/
/-- its bytes -/
def zKBn (j : Nat) : Int32 := ([101, 115, 98, 108, 116, 97] : List Int32).getD j 0
def zKB (i : Int32) : Int32 := zKBn i.toNatClampNeg
def zS (adK adV : Nat → Nat) : zEn := fun A U => vk_S 1 [6] [[101, 115, 98, 108, 116, 97]] adK adV A U U.heap ∧ vk_R "BeforeTheEnd$Text" 105 "esblta" (adK 0) U ∧ va_Z "java/lang/String" "COMPACT_STRINGS" "Z" (.int 1) A U U.heap
theorem zS_k {adK adV : Nat → Nat} : zEk (zS adK adV) := by
  refine ⟨fun A B s U hW hq hAB h => ?_, fun A U g mk a h => ?_⟩
  · obtain ⟨h1, h2, h3⟩ := h
    exact ⟨((h1.moved hW.alike).kept hq).narrow hAB, vk_R.warm hW h2, ((h3.moved hW.alike).kept hq).narrow hAB⟩
  · obtain ⟨h1, h2, h3⟩ := h
    exact ⟨vk_S.moved (u := U) (Vm.Alike.refl U.vm) h1, vk_R.same (u := U) rfl h2, va_Z.moved (u := U) (Vm.Alike.refl U.vm) h3⟩
section ZSTR
variable {X : zX} {cells slots : Nat} {ws w1 : va_W} {lv : zLv} {st : List Value} {pc : Nat} {cc : ByteArray} {own : String} {Ts : List Cond} {cl : List vw_C} {tys : List (ClassId × FieldType)} {nL : Nat} {rm : Room} {tg index : Nat} {adK adV : Nat → Nat}
variable {y : MethodName} {bytes : ByteArray} {maxL : Nat} {ret : Option FieldType} {wsc wsc' : List Cond} {rmc : Room}
theorem zs_ldc (hC : zC X cc "BeforeTheEnd$Text" Ts cl tys (zE tg (zS adK adV)) nL rm) (hd : decode cc pc = .ok (.ldc 105, 2)) (kk : zV X cells slots ws lv (.ref (adK 0) :: st) (pc + 2)) : zV X cells slots ws lv st pc := by
  obtain ⟨p, l, e, R, s, m, args, below, meth, c, D, cl', A, nL', Q⟩ := X
  obtain ⟨hx, hb, hml, ho, hts, rfl, hK, hA, hE, rfl, rfl⟩ := hC
  intro H locs ls hP hD hS h9
  exact va_ldcS hx hb ho hE.2.2.2.2.2.2.2.2.2.2.2.1 hd (kk H locs ls hP hD hS h9)
theorem zs_getv (hC : zC X cc own Ts cl tys (zE tg (zS adK adV)) nL rm) (hl : Cond.fieldLink own index "java/lang/String" "value" "[B" ∈ Ts) (hd : decode cc pc = .ok (.getfield index, 3)) (kk : zV X cells slots ws lv (.ref (adV 0) :: st) (pc + 3)) : zV X cells slots ws lv (.ref (adK 0) :: st) pc := by
  obtain ⟨p, l, e, R, s, m, args, below, meth, c, D, cl', A, nL', Q⟩ := X
  obtain ⟨hx, hb, hml, ho, hts, rfl, hK, hA, hE, rfl, rfl⟩ := hC
  intro H locs ls hP hD hS h9
  exact vk_getf hx hb (hE.2.2.2.2.2.2.2.2.2.2.1.1 0 (by decide)).2.2.1 hS ho (hts _ hl) (fun _ h => h) hd (kk H locs ls hP hD hS h9)
theorem zs_getc (hC : zC X cc own Ts cl tys (zE tg (zS adK adV)) nL rm) (hl : Cond.fieldLink own index "java/lang/String" "coder" "B" ∈ Ts) (hd : decode cc pc = .ok (.getfield index, 3)) (kk : zV X cells slots ws lv (.int (0 : Int32) :: st) (pc + 3)) : zV X cells slots ws lv (.ref (adK 0) :: st) pc := by
  obtain ⟨p, l, e, R, s, m, args, below, meth, c, D, cl', A, nL', Q⟩ := X
  obtain ⟨hx, hb, hml, ho, hts, rfl, hK, hA, hE, rfl, rfl⟩ := hC
  intro H locs ls hP hD hS h9
  exact vk_getf hx hb (hE.2.2.2.2.2.2.2.2.2.2.1.1 0 (by decide)).2.1 hS ho (hts _ hl) (fun _ h => h) hd (kk H locs ls hP hD hS h9)
theorem zs_gets (hC : zC X cc own Ts cl tys (zE tg (zS adK adV)) nL rm) (hl : Cond.fieldLink own index "java/lang/String" "COMPACT_STRINGS" "Z" ∈ Ts) (hd : decode cc pc = .ok (.getstatic index, 3)) (kk : zV X cells slots ws lv (.int (1 : Int32) :: st) (pc + 3)) : zV X cells slots ws lv st pc := by
  obtain ⟨p, l, e, R, s, m, args, below, meth, c, D, cl', A, nL', Q⟩ := X
  obtain ⟨hx, hb, hml, ho, hts, rfl, hK, hA, hE, rfl, rfl⟩ := hC
  intro H locs ls hP hD hS h9
  exact va_gets hx hb hE.2.2.2.2.2.2.2.2.2.2.2.2 hS ho (hts _ hl) (fun _ h => h) hd (kk H locs ls hP hD hS h9)
theorem zs_len (hC : zC X cc own Ts cl tys (zE tg (zS adK adV)) nL rm) (hd : decode cc pc = .ok (.arraylength, 1)) (kk : zV X cells slots ws lv (.int (6 : Int32) :: st) (pc + 1)) : zV X cells slots ws lv (.ref (adV 0) :: st) pc := by
  obtain ⟨p, l, e, R, s, m, args, below, meth, c, D, cl', A, nL', Q⟩ := X
  obtain ⟨hx, hb, hml, ho, hts, rfl, hK, hA, hE, rfl, rfl⟩ := hC
  intro H locs ls hP hD hS h9
  exact va_tlen hx hb (hE.2.2.2.2.2.2.2.2.2.2.1.1 0 (by decide)).2.2.2 hS (show Int32.ofNat 6 = (6 : Int32) by decide) hd (kk H locs ls hP hD hS h9)
theorem zs_ld (hC : zC X cc own Ts cl tys (zE tg (zS adK adV)) nL rm) {i : Int32} (hi : ¬ (i < 0 ∨ 6 ≤ i.toNatClampNeg)) (hd : decode cc pc = .ok (.baload, 1)) (kk : zV X cells slots ws lv (.int (zKB i) :: st) (pc + 1)) : zV X cells slots ws lv (.int i :: .ref (adV 0) :: st) pc := by
  obtain ⟨p, l, e, R, s, m, args, below, meth, c, D, cl', A, nL', Q⟩ := X
  obtain ⟨hx, hb, hml, ho, hts, rfl, hK, hA, hE, rfl, rfl⟩ := hC
  intro H locs ls hP hD hS h9
  exact va_tb hx hb (hE.2.2.2.2.2.2.2.2.2.2.1.1 0 (by decide)).2.2.2 hS hi rfl hd (kk H locs ls hP hD hS h9)
theorem zr_cTi (hC : zC X cc own Ts cl tys (zE tg (zS adK adV)) nL rm) (hEk : zEk (zE tg (zS adK adV))) (As rest : List Value) (n : Nat) {st0 : List Value} {v : Int32} (hM : ∀ (l : Launch) (D : va_G), zCT (zE tg (zS adK adV)) D cl tys l y wsc rmc 0 0 (.ref (adK 0) :: As) ws (zPd (some (.int v)) w1)) (hG : GoodIn Ts (wsV own index "java/lang/String" y wsc)) (hw : wsc = Cond.code y bytes maxL ret :: wsc') (hrc : rmc.cells = 0) (hrs : rmc.slots = 0) (hR : rmc.frames + 1 ≤ rm.frames ∧ 8 + (maxL + 11) + rmc.locals ≤ rm.locals) (hy : y.cls = "java/lang/String" ∧ y.cls ≠ "java/lang/invoke/MethodHandle" ∧ y.cls ≠ "java/lang/invoke/VarHandle" ∧ (parseMethodDescriptor y.desc).map (fun d => d.parameters.length) = some n) (hn : As.length = n) (hst : st0 = As.reverse ++ .ref (adK 0) :: rest) (hcat : (rest.map fun v => v.category).sum ≤ 8) (hfit : cells + 0 ≤ rm.cells ∧ slots + 0 ≤ rm.slots) (hd : decode cc pc = .ok (.invokevirtual index, 3)) (kk : zV X cells slots w1 lv (.int v :: rest) (pc + 3)) : zV X cells slots ws lv st0 pc := by
  obtain ⟨p, l, e, R, s, m, args, below, meth, c, D, cl', A, nL', Q⟩ := X
  obtain ⟨hx, hb, hml, ho, hts, rfl, hK, hA, hE, rfl, rfl⟩ := hC
  intro H locs ls hP hD hS h9
  exact zcall_core hP hD hS h9 hA (va_runV (As := As) (rest := rest) ⟨hx, hb, hml, ho, hts⟩ (hM l D H.size) (cwV n hts hG hw hrc hrs hy hR) ⟨zpre_blind hEk, vk_recv hE.2.2.2.2.2.2.2.2.2.2.1 (by decide) hS, zpre_at hEk hK hP hD hS hA hE⟩ rfl hn h9.1 hst (lv_room hcat) hd hfit) (fun rv w2 h => by obtain ⟨rfl, rfl⟩ := h; exact kk)
end ZSTR
