/-! the reference: its object (0) and arrays, and a row for each field and array -/
abbrev zM : Type := (Nat → Nat → Int32) × (Nat → Nat → Int64)
def zsi (M : zM) (j k : Nat) (v : Int32) : zM := (fun a => if a = j then upd (M.1 a) k v else M.1 a, M.2)
def zsj (M : zM) (j k : Nat) (v : Int64) : zM := (M.1, fun a => if a = j then vp_updL (M.2 a) k v else M.2 a)
abbrev zty (κ : Nat → ClassId) : List (ClassId × FieldType) := [(κ 0, .int), (κ 1, .long), (κ 2, .object "BeforeTheEnd$Player"), (κ 3, .array .long)]
def zlet {α β : Type} (a : α) (f : α → β) : β := f a
theorem zle {α β : Type} {a : α} {f : α → Option β} {r : β} (h : zlet a f = some r) : ∃ q, a = q ∧ f q = some r := ⟨a, rfl, h⟩
theorem zel {α β γ : Type} {f : α → γ} {g : β → γ} {a : α} {r : γ} (h : Sum.elim f g (.inl a) = r) : f a = r := h
theorem zer {α β γ : Type} {f : α → γ} {g : β → γ} {b : β} {r : γ} (h : Sum.elim f g (.inr b) = r) : g b = r := h
/-- a determined end: this answer, this world -/
def zPd (rv : Option Value) (w : va_W) : Option Value → va_W → Prop := fun rv' w' => rv' = rv ∧ w' = w
def zMlen : Nat → Nat := fun j => match j with
  | 1 => 7
  | 2 => 24
  | 3 => 24
  | 4 => 24
  | 5 => 24
  | 6 => 4
  | 7 => 4
  | 8 => 4
  | 9 => 4
  | 10 => 4
  | 11 => 4
  | 12 => 4
  | 13 => 64
  | 14 => 32
  | 15 => 32
  | 16 => 32
  | 17 => 32
  | 18 => 32
  | 19 => 32
  | 20 => 24
  | 21 => 240
  | 22 => 96
  | 23 => 4
  | 24 => 4
  | 25 => 24
  | 26 => 24
  | 27 => 4
  | 28 => 5
  | 29 => 5
  | 30 => 5
  | 31 => 20
  | 32 => 140
  | _ => 0
abbrev zMob (ad : Nat → Nat) (M : zM) : List Value := [.ref (ad 1), .ref (ad 2), .ref (ad 3), .ref (ad 4), .ref (ad 5), .ref (ad 6), .ref (ad 7), .ref (ad 8), .ref (ad 9), .ref (ad 10), .ref (ad 11), .ref (ad 12), .int (M.1 0 12), .int (M.1 0 13), .ref (ad 13), .ref (ad 14), .ref (ad 15), .ref (ad 16), .ref (ad 17), .ref (ad 18), .ref (ad 19), .int (M.1 0 21), .int (M.1 0 22), .int (M.1 0 23), .ref (ad 20), .ref (ad 21), .ref (ad 22), .ref (ad 23), .ref (ad 24), .long (M.2 0 29), .ref (ad 25), .int (M.1 0 31), .ref (ad 26), .ref (ad 27), .int (M.1 0 34), .int (M.1 0 35), .int (M.1 0 36), .int (M.1 0 37), .int (M.1 0 38), .long (M.2 0 39), .int (M.1 0 40), .ref (ad 28), .ref (ad 29), .ref (ad 30), .int (M.1 0 44), .int (M.1 0 45), .ref (ad 31), .int (M.1 0 47), .ref (ad 32), .int (M.1 0 49), .int (M.1 0 50), .int (M.1 0 51)]
def entM (κ : Nat → ClassId) (ad : Nat → Nat) (M : zM) : Nat → va_E := fun j => if j = 0 then .inr (11, zMob ad M) else if j = 20 ∨ j = 21 ∨ j = 25 then .inl (κ 1, zMlen j, .inr (.inl (M.2 j))) else .inl (κ 0, zMlen j, .inl (M.1 j))
abbrev zwM (κ : Nat → ClassId) (ad : Nat → Nat) (M : zM) : va_W := zw ad (entM κ ad M) 33
theorem entM_0 {κ : Nat → ClassId} {ad : Nat → Nat} {M : zM} : entM κ ad M 0 = .inr (11, zMob ad M) := rfl
theorem entM_loc {κ : Nat → ClassId} {ad : Nat → Nat} {M M' : zM} {j : Nat} (h1 : M.1 j = M'.1 j) (h2 : M.2 j = M'.2 j) : entM κ ad M j = entM κ ad M' j := by
  unfold entM
  by_cases h : j = 0
  · subst h
    simp only [if_pos, zMob, h1, h2]
  · rw [if_neg h, if_neg h, h1, h2]
section ZE
variable {X : zX} {cells slots : Nat} {ws w1 : va_W} {lv : zLv} {st0 : List Value} {pc : Nat} {cc : ByteArray} {own : String} {Ts : List Cond} {cl : List vw_C} {tys : List (ClassId × FieldType)} {E : zEn} {nL : Nat} {rm : Room}
variable {y : MethodName} {bytes : ByteArray} {maxL index : Nat} {ret : Option FieldType} {wsc wsc' : List Cond} {rmc : Room}
theorem zr_topi {x z : Int32} {st : List Value} (e : x = z) (kk : zV X cells slots ws lv (.int z :: st) pc) : zV X cells slots ws lv (.int x :: st) pc := e ▸ kk
theorem zr_topl {x z : Int64} {st : List Value} (e : x = z) (kk : zV X cells slots ws lv (.long z :: st) pc) : zV X cells slots ws lv (.long x :: st) pc := e ▸ kk
theorem zr_cVi (hC : zC X cc own Ts cl tys E nL rm) (hEk : zEk E) {ad : Nat → Nat} {f : Nat → va_E} {N : Nat} (As rest : List Value) (j n : Nat) {ci Nn : Nat} {fs : List Value} {C : String} {T : u_T} {v : Int32} (hM : ∀ (l : Launch) (D : va_G), zCT E D cl tys l y wsc rmc 0 0 (.ref (ad j) :: As) (zw ad f N) (zPd (some (.int v)) w1)) (hG : GoodIn Ts (wsV own index C y wsc)) (hw : wsc = Cond.code y bytes maxL ret :: wsc') (hrc : rmc.cells = 0) (hrs : rmc.slots = 0) (hR : rmc.frames + 1 ≤ rm.frames ∧ 8 + (maxL + 11) + rmc.locals ≤ rm.locals) (hy : y.cls = C ∧ y.cls ≠ "java/lang/invoke/MethodHandle" ∧ y.cls ≠ "java/lang/invoke/VarHandle" ∧ (parseMethodDescriptor y.desc).map (fun d => d.parameters.length) = some n) (hj : j < N) (hf : f j = .inr (ci, fs)) (hc : cl[ci]? = some (C, T, Nn)) (hn : As.length = n) (hst : st0 = As.reverse ++ .ref (ad j) :: rest) (hcat : (rest.map fun v => v.category).sum ≤ 8) (hfit : cells + 0 ≤ rm.cells ∧ slots + 0 ≤ rm.slots) (hd : decode cc pc = .ok (.invokevirtual index, 3)) (kk : zV X cells slots w1 lv (.int v :: rest) (pc + 3)) : zV X cells slots (zw ad f N) lv st0 pc := zr_callV hC hEk As rest j n hM hG hw hrc hrs hR hy hj hf hc hn hst hcat hfit hd (fun rv w2 h => by obtain ⟨rfl, rfl⟩ := h; exact kk)
theorem zr_cSi (hC : zC X cc own Ts cl tys E nL rm) (hEk : zEk E) (As rest : List Value) (n : Nat) {v : Int32} (hM : ∀ (l : Launch) (D : va_G), zCT E D cl tys l y wsc rmc 0 0 As ws (zPd (some (.int v)) w1)) (hG : GoodIn Ts (va_wsS own index y wsc)) (hw : wsc = Cond.code y bytes maxL ret :: wsc') (hrc : rmc.cells = 0) (hrs : rmc.slots = 0) (hR : rmc.frames + 1 ≤ rm.frames ∧ 8 + (maxL + 11) + rmc.locals ≤ rm.locals) (hy : y.cls ≠ "java/lang/invoke/MethodHandle" ∧ y.cls ≠ "java/lang/invoke/VarHandle" ∧ (parseMethodDescriptor y.desc).map (fun d => d.parameters.length) = some n) (hn : As.length = n) (hst : st0 = As.reverse ++ rest) (hcat : (rest.map fun v => v.category).sum ≤ 8) (hfit : cells + 0 ≤ rm.cells ∧ slots + 0 ≤ rm.slots) (hd : decode cc pc = .ok (.invokestatic index, 3)) (kk : zV X cells slots w1 lv (.int v :: rest) (pc + 3)) : zV X cells slots ws lv st0 pc := zr_callS hC hEk As rest n hM hG hw hrc hrs hR hy hn hst hcat hfit hd (fun rv w2 h => by obtain ⟨rfl, rfl⟩ := h; exact kk)
theorem zr_cVl (hC : zC X cc own Ts cl tys E nL rm) (hEk : zEk E) {ad : Nat → Nat} {f : Nat → va_E} {N : Nat} (As rest : List Value) (j n : Nat) {ci Nn : Nat} {fs : List Value} {C : String} {T : u_T} {v : Int64} (hM : ∀ (l : Launch) (D : va_G), zCT E D cl tys l y wsc rmc 0 0 (.ref (ad j) :: As) (zw ad f N) (zPd (some (.long v)) w1)) (hG : GoodIn Ts (wsV own index C y wsc)) (hw : wsc = Cond.code y bytes maxL ret :: wsc') (hrc : rmc.cells = 0) (hrs : rmc.slots = 0) (hR : rmc.frames + 1 ≤ rm.frames ∧ 8 + (maxL + 11) + rmc.locals ≤ rm.locals) (hy : y.cls = C ∧ y.cls ≠ "java/lang/invoke/MethodHandle" ∧ y.cls ≠ "java/lang/invoke/VarHandle" ∧ (parseMethodDescriptor y.desc).map (fun d => d.parameters.length) = some n) (hj : j < N) (hf : f j = .inr (ci, fs)) (hc : cl[ci]? = some (C, T, Nn)) (hn : As.length = n) (hst : st0 = As.reverse ++ .ref (ad j) :: rest) (hcat : (rest.map fun v => v.category).sum ≤ 8) (hfit : cells + 0 ≤ rm.cells ∧ slots + 0 ≤ rm.slots) (hd : decode cc pc = .ok (.invokevirtual index, 3)) (kk : zV X cells slots w1 lv (.long v :: rest) (pc + 3)) : zV X cells slots (zw ad f N) lv st0 pc := zr_callV hC hEk As rest j n hM hG hw hrc hrs hR hy hj hf hc hn hst hcat hfit hd (fun rv w2 h => by obtain ⟨rfl, rfl⟩ := h; exact kk)
theorem zr_cSl (hC : zC X cc own Ts cl tys E nL rm) (hEk : zEk E) (As rest : List Value) (n : Nat) {v : Int64} (hM : ∀ (l : Launch) (D : va_G), zCT E D cl tys l y wsc rmc 0 0 As ws (zPd (some (.long v)) w1)) (hG : GoodIn Ts (va_wsS own index y wsc)) (hw : wsc = Cond.code y bytes maxL ret :: wsc') (hrc : rmc.cells = 0) (hrs : rmc.slots = 0) (hR : rmc.frames + 1 ≤ rm.frames ∧ 8 + (maxL + 11) + rmc.locals ≤ rm.locals) (hy : y.cls ≠ "java/lang/invoke/MethodHandle" ∧ y.cls ≠ "java/lang/invoke/VarHandle" ∧ (parseMethodDescriptor y.desc).map (fun d => d.parameters.length) = some n) (hn : As.length = n) (hst : st0 = As.reverse ++ rest) (hcat : (rest.map fun v => v.category).sum ≤ 8) (hfit : cells + 0 ≤ rm.cells ∧ slots + 0 ≤ rm.slots) (hd : decode cc pc = .ok (.invokestatic index, 3)) (kk : zV X cells slots w1 lv (.long v :: rest) (pc + 3)) : zV X cells slots ws lv st0 pc := zr_callS hC hEk As rest n hM hG hw hrc hrs hR hy hn hst hcat hfit hd (fun rv w2 h => by obtain ⟨rfl, rfl⟩ := h; exact kk)
theorem zr_cVv (hC : zC X cc own Ts cl tys E nL rm) (hEk : zEk E) {ad : Nat → Nat} {f : Nat → va_E} {N : Nat} (As rest : List Value) (j n : Nat) {ci Nn : Nat} {fs : List Value} {C : String} {T : u_T} (hM : ∀ (l : Launch) (D : va_G), zCT E D cl tys l y wsc rmc 0 0 (.ref (ad j) :: As) (zw ad f N) (zPd none w1)) (hG : GoodIn Ts (wsV own index C y wsc)) (hw : wsc = Cond.code y bytes maxL ret :: wsc') (hrc : rmc.cells = 0) (hrs : rmc.slots = 0) (hR : rmc.frames + 1 ≤ rm.frames ∧ 8 + (maxL + 11) + rmc.locals ≤ rm.locals) (hy : y.cls = C ∧ y.cls ≠ "java/lang/invoke/MethodHandle" ∧ y.cls ≠ "java/lang/invoke/VarHandle" ∧ (parseMethodDescriptor y.desc).map (fun d => d.parameters.length) = some n) (hj : j < N) (hf : f j = .inr (ci, fs)) (hc : cl[ci]? = some (C, T, Nn)) (hn : As.length = n) (hst : st0 = As.reverse ++ .ref (ad j) :: rest) (hcat : (rest.map fun v => v.category).sum ≤ 8) (hfit : cells + 0 ≤ rm.cells ∧ slots + 0 ≤ rm.slots) (hd : decode cc pc = .ok (.invokevirtual index, 3)) (kk : zV X cells slots w1 lv (rest) (pc + 3)) : zV X cells slots (zw ad f N) lv st0 pc := zr_callV hC hEk As rest j n hM hG hw hrc hrs hR hy hj hf hc hn hst hcat hfit hd (fun rv w2 h => by obtain ⟨rfl, rfl⟩ := h; exact kk)
theorem zr_cSv (hC : zC X cc own Ts cl tys E nL rm) (hEk : zEk E) (As rest : List Value) (n : Nat) (hM : ∀ (l : Launch) (D : va_G), zCT E D cl tys l y wsc rmc 0 0 As ws (zPd none w1)) (hG : GoodIn Ts (va_wsS own index y wsc)) (hw : wsc = Cond.code y bytes maxL ret :: wsc') (hrc : rmc.cells = 0) (hrs : rmc.slots = 0) (hR : rmc.frames + 1 ≤ rm.frames ∧ 8 + (maxL + 11) + rmc.locals ≤ rm.locals) (hy : y.cls ≠ "java/lang/invoke/MethodHandle" ∧ y.cls ≠ "java/lang/invoke/VarHandle" ∧ (parseMethodDescriptor y.desc).map (fun d => d.parameters.length) = some n) (hn : As.length = n) (hst : st0 = As.reverse ++ rest) (hcat : (rest.map fun v => v.category).sum ≤ 8) (hfit : cells + 0 ≤ rm.cells ∧ slots + 0 ≤ rm.slots) (hd : decode cc pc = .ok (.invokestatic index, 3)) (kk : zV X cells slots w1 lv (rest) (pc + 3)) : zV X cells slots ws lv st0 pc := zr_callS hC hEk As rest n hM hG hw hrc hrs hR hy hn hst hcat hfit hd (fun rv w2 h => by obtain ⟨rfl, rfl⟩ := h; exact kk)
theorem zr_cVr (hC : zC X cc own Ts cl tys E nL rm) (hEk : zEk E) {ad : Nat → Nat} {f : Nat → va_E} {N : Nat} (As rest : List Value) (j n : Nat) {ci Nn : Nat} {fs : List Value} {C : String} {T : u_T} {v : Option Nat} (hM : ∀ (l : Launch) (D : va_G), zCT E D cl tys l y wsc rmc 0 0 (.ref (ad j) :: As) (zw ad f N) (zPd (some (va_rf v)) w1)) (hG : GoodIn Ts (wsV own index C y wsc)) (hw : wsc = Cond.code y bytes maxL ret :: wsc') (hrc : rmc.cells = 0) (hrs : rmc.slots = 0) (hR : rmc.frames + 1 ≤ rm.frames ∧ 8 + (maxL + 11) + rmc.locals ≤ rm.locals) (hy : y.cls = C ∧ y.cls ≠ "java/lang/invoke/MethodHandle" ∧ y.cls ≠ "java/lang/invoke/VarHandle" ∧ (parseMethodDescriptor y.desc).map (fun d => d.parameters.length) = some n) (hj : j < N) (hf : f j = .inr (ci, fs)) (hc : cl[ci]? = some (C, T, Nn)) (hn : As.length = n) (hst : st0 = As.reverse ++ .ref (ad j) :: rest) (hcat : (rest.map fun v => v.category).sum ≤ 8) (hfit : cells + 0 ≤ rm.cells ∧ slots + 0 ≤ rm.slots) (hd : decode cc pc = .ok (.invokevirtual index, 3)) (kk : zV X cells slots w1 lv (va_rf v :: rest) (pc + 3)) : zV X cells slots (zw ad f N) lv st0 pc := zr_callV hC hEk As rest j n hM hG hw hrc hrs hR hy hj hf hc hn hst hcat hfit hd (fun rv w2 h => by obtain ⟨rfl, rfl⟩ := h; exact kk)
theorem zr_cSr (hC : zC X cc own Ts cl tys E nL rm) (hEk : zEk E) (As rest : List Value) (n : Nat) {v : Option Nat} (hM : ∀ (l : Launch) (D : va_G), zCT E D cl tys l y wsc rmc 0 0 As ws (zPd (some (va_rf v)) w1)) (hG : GoodIn Ts (va_wsS own index y wsc)) (hw : wsc = Cond.code y bytes maxL ret :: wsc') (hrc : rmc.cells = 0) (hrs : rmc.slots = 0) (hR : rmc.frames + 1 ≤ rm.frames ∧ 8 + (maxL + 11) + rmc.locals ≤ rm.locals) (hy : y.cls ≠ "java/lang/invoke/MethodHandle" ∧ y.cls ≠ "java/lang/invoke/VarHandle" ∧ (parseMethodDescriptor y.desc).map (fun d => d.parameters.length) = some n) (hn : As.length = n) (hst : st0 = As.reverse ++ rest) (hcat : (rest.map fun v => v.category).sum ≤ 8) (hfit : cells + 0 ≤ rm.cells ∧ slots + 0 ≤ rm.slots) (hd : decode cc pc = .ok (.invokestatic index, 3)) (kk : zV X cells slots w1 lv (va_rf v :: rest) (pc + 3)) : zV X cells slots ws lv st0 pc := zr_callS hC hEk As rest n hM hG hw hrc hrs hR hy hn hst hcat hfit hd (fun rv w2 h => by obtain ⟨rfl, rfl⟩ := h; exact kk)
end ZE
section ZM
variable {X : zX} {cells slots : Nat} {lv : zLv} {st : List Value} {pc : Nat} {cc : ByteArray} {Ts : List Cond} {own : String} {E : zEn} {nL : Nat} {rm : Room} {κ : Nat → ClassId} {ad : Nat → Nat} {M M' : zM} {index : Nat}
theorem zmg_0 (hC : zC X cc RX12 Ts vwCl (zty κ) E nL rm) (hin : ∀ w ∈ wsX120, w ∈ Ts) (hl : Cond.fieldLink RX12 index "BeforeTheEndModel" "refused" "[I" ∈ Ts) (hd : decode cc pc = .ok (.getfield index, 3)) (kk : zV X cells slots (zwM κ ad M) lv (.ref (ad 1) :: st) (pc + 3)) : zV X cells slots (zwM κ ad M) lv (.ref (ad 0) :: st) pc := zr_get (ref := "BeforeTheEndModel") (T := TX12) hC 0 hin (by decide) entM_0 rfl 0 (by decide) hl rfl rfl hd kk
theorem zmg_1 (hC : zC X cc RX12 Ts vwCl (zty κ) E nL rm) (hin : ∀ w ∈ wsX120, w ∈ Ts) (hl : Cond.fieldLink RX12 index "BeforeTheEndModel" "parent" "[I" ∈ Ts) (hd : decode cc pc = .ok (.getfield index, 3)) (kk : zV X cells slots (zwM κ ad M) lv (.ref (ad 2) :: st) (pc + 3)) : zV X cells slots (zwM κ ad M) lv (.ref (ad 0) :: st) pc := zr_get (ref := "BeforeTheEndModel") (T := TX12) hC 0 hin (by decide) entM_0 rfl 1 (by decide) hl rfl rfl hd kk
theorem zmg_2 (hC : zC X cc RX12 Ts vwCl (zty κ) E nL rm) (hin : ∀ w ∈ wsX120, w ∈ Ts) (hl : Cond.fieldLink RX12 index "BeforeTheEndModel" "weight" "[I" ∈ Ts) (hd : decode cc pc = .ok (.getfield index, 3)) (kk : zV X cells slots (zwM κ ad M) lv (.ref (ad 3) :: st) (pc + 3)) : zV X cells slots (zwM κ ad M) lv (.ref (ad 0) :: st) pc := zr_get (ref := "BeforeTheEndModel") (T := TX12) hC 0 hin (by decide) entM_0 rfl 2 (by decide) hl rfl rfl hd kk
theorem zmg_3 (hC : zC X cc RX12 Ts vwCl (zty κ) E nL rm) (hin : ∀ w ∈ wsX120, w ∈ Ts) (hl : Cond.fieldLink RX12 index "BeforeTheEndModel" "answer" "[I" ∈ Ts) (hd : decode cc pc = .ok (.getfield index, 3)) (kk : zV X cells slots (zwM κ ad M) lv (.ref (ad 4) :: st) (pc + 3)) : zV X cells slots (zwM κ ad M) lv (.ref (ad 0) :: st) pc := zr_get (ref := "BeforeTheEndModel") (T := TX12) hC 0 hin (by decide) entM_0 rfl 3 (by decide) hl rfl rfl hd kk
theorem zmg_4 (hC : zC X cc RX12 Ts vwCl (zty κ) E nL rm) (hin : ∀ w ∈ wsX120, w ∈ Ts) (hl : Cond.fieldLink RX12 index "BeforeTheEndModel" "length" "[I" ∈ Ts) (hd : decode cc pc = .ok (.getfield index, 3)) (kk : zV X cells slots (zwM κ ad M) lv (.ref (ad 5) :: st) (pc + 3)) : zV X cells slots (zwM κ ad M) lv (.ref (ad 0) :: st) pc := zr_get (ref := "BeforeTheEndModel") (T := TX12) hC 0 hin (by decide) entM_0 rfl 4 (by decide) hl rfl rfl hd kk
theorem zmg_5 (hC : zC X cc RX12 Ts vwCl (zty κ) E nL rm) (hin : ∀ w ∈ wsX120, w ∈ Ts) (hl : Cond.fieldLink RX12 index "BeforeTheEndModel" "kind" "[I" ∈ Ts) (hd : decode cc pc = .ok (.getfield index, 3)) (kk : zV X cells slots (zwM κ ad M) lv (.ref (ad 6) :: st) (pc + 3)) : zV X cells slots (zwM κ ad M) lv (.ref (ad 0) :: st) pc := zr_get (ref := "BeforeTheEndModel") (T := TX12) hC 0 hin (by decide) entM_0 rfl 5 (by decide) hl rfl rfl hd kk
theorem zmg_6 (hC : zC X cc RX12 Ts vwCl (zty κ) E nL rm) (hin : ∀ w ∈ wsX120, w ∈ Ts) (hl : Cond.fieldLink RX12 index "BeforeTheEndModel" "knows" "[I" ∈ Ts) (hd : decode cc pc = .ok (.getfield index, 3)) (kk : zV X cells slots (zwM κ ad M) lv (.ref (ad 7) :: st) (pc + 3)) : zV X cells slots (zwM κ ad M) lv (.ref (ad 0) :: st) pc := zr_get (ref := "BeforeTheEndModel") (T := TX12) hC 0 hin (by decide) entM_0 rfl 6 (by decide) hl rfl rfl hd kk
theorem zmg_7 (hC : zC X cc RX12 Ts vwCl (zty κ) E nL rm) (hin : ∀ w ∈ wsX120, w ∈ Ts) (hl : Cond.fieldLink RX12 index "BeforeTheEndModel" "hand" "[I" ∈ Ts) (hd : decode cc pc = .ok (.getfield index, 3)) (kk : zV X cells slots (zwM κ ad M) lv (.ref (ad 8) :: st) (pc + 3)) : zV X cells slots (zwM κ ad M) lv (.ref (ad 0) :: st) pc := zr_get (ref := "BeforeTheEndModel") (T := TX12) hC 0 hin (by decide) entM_0 rfl 7 (by decide) hl rfl rfl hd kk
theorem zmg_8 (hC : zC X cc RX12 Ts vwCl (zty κ) E nL rm) (hin : ∀ w ∈ wsX120, w ∈ Ts) (hl : Cond.fieldLink RX12 index "BeforeTheEndModel" "sure" "[I" ∈ Ts) (hd : decode cc pc = .ok (.getfield index, 3)) (kk : zV X cells slots (zwM κ ad M) lv (.ref (ad 9) :: st) (pc + 3)) : zV X cells slots (zwM κ ad M) lv (.ref (ad 0) :: st) pc := zr_get (ref := "BeforeTheEndModel") (T := TX12) hC 0 hin (by decide) entM_0 rfl 8 (by decide) hl rfl rfl hd kk
theorem zmg_9 (hC : zC X cc RX12 Ts vwCl (zty κ) E nL rm) (hin : ∀ w ∈ wsX120, w ∈ Ts) (hl : Cond.fieldLink RX12 index "BeforeTheEndModel" "told" "[I" ∈ Ts) (hd : decode cc pc = .ok (.getfield index, 3)) (kk : zV X cells slots (zwM κ ad M) lv (.ref (ad 10) :: st) (pc + 3)) : zV X cells slots (zwM κ ad M) lv (.ref (ad 0) :: st) pc := zr_get (ref := "BeforeTheEndModel") (T := TX12) hC 0 hin (by decide) entM_0 rfl 9 (by decide) hl rfl rfl hd kk
theorem zmg_10 (hC : zC X cc RX12 Ts vwCl (zty κ) E nL rm) (hin : ∀ w ∈ wsX120, w ∈ Ts) (hl : Cond.fieldLink RX12 index "BeforeTheEndModel" "points" "[I" ∈ Ts) (hd : decode cc pc = .ok (.getfield index, 3)) (kk : zV X cells slots (zwM κ ad M) lv (.ref (ad 11) :: st) (pc + 3)) : zV X cells slots (zwM κ ad M) lv (.ref (ad 0) :: st) pc := zr_get (ref := "BeforeTheEndModel") (T := TX12) hC 0 hin (by decide) entM_0 rfl 10 (by decide) hl rfl rfl hd kk
theorem zmg_11 (hC : zC X cc RX12 Ts vwCl (zty κ) E nL rm) (hin : ∀ w ∈ wsX120, w ∈ Ts) (hl : Cond.fieldLink RX12 index "BeforeTheEndModel" "most" "[I" ∈ Ts) (hd : decode cc pc = .ok (.getfield index, 3)) (kk : zV X cells slots (zwM κ ad M) lv (.ref (ad 12) :: st) (pc + 3)) : zV X cells slots (zwM κ ad M) lv (.ref (ad 0) :: st) pc := zr_get (ref := "BeforeTheEndModel") (T := TX12) hC 0 hin (by decide) entM_0 rfl 11 (by decide) hl rfl rfl hd kk
theorem zmg_12 (hC : zC X cc RX12 Ts vwCl (zty κ) E nL rm) (hin : ∀ w ∈ wsX120, w ∈ Ts) (hl : Cond.fieldLink RX12 index "BeforeTheEndModel" "words" "I" ∈ Ts) (hd : decode cc pc = .ok (.getfield index, 3)) (kk : zV X cells slots (zwM κ ad M) lv (.int (M.1 0 12) :: st) (pc + 3)) : zV X cells slots (zwM κ ad M) lv (.ref (ad 0) :: st) pc := zr_get (ref := "BeforeTheEndModel") (T := TX12) hC 0 hin (by decide) entM_0 rfl 12 (by decide) hl rfl rfl hd kk
theorem zmq_12 {v : Int32} : ∀ i, (if i = 0 then .inr (11, (zMob ad M).set 12 (.int v)) else entM κ ad M i) = entM κ ad (zsi M 0 12 v) i := by
  intro i
  by_cases h : i = 0
  · subst h; rfl
  · rw [if_neg h]; exact entM_loc (by simp [zsi, h]) (by rfl)
theorem zmp_12 {v : Int32} (hC : zC X cc RX12 Ts vwCl (zty κ) E nL rm) (hin : ∀ w ∈ wsX120, w ∈ Ts) (hl : Cond.fieldLink RX12 index "BeforeTheEndModel" "words" "I" ∈ Ts) (he : zsi M 0 12 v = M') (hd : decode cc pc = .ok (.putfield index, 3)) (kk : zV X cells slots (zwM κ ad M') lv st (pc + 3)) : zV X cells slots (zwM κ ad M) lv (.int v :: .ref (ad 0) :: st) pc := zr_put (ref := "BeforeTheEndModel") (T := TX12) (ty := .int) hC 0 hin tyX12 tyX12_ok nmX12 (by decide) entM_0 rfl 12 (by decide) hl rfl rfl rfl rfl rfl (Nat.le_of_ble_eq_true rfl) (he ▸ zmq_12) hd kk
theorem zmg_13 (hC : zC X cc RX12 Ts vwCl (zty κ) E nL rm) (hin : ∀ w ∈ wsX120, w ∈ Ts) (hl : Cond.fieldLink RX12 index "BeforeTheEndModel" "players" "I" ∈ Ts) (hd : decode cc pc = .ok (.getfield index, 3)) (kk : zV X cells slots (zwM κ ad M) lv (.int (M.1 0 13) :: st) (pc + 3)) : zV X cells slots (zwM κ ad M) lv (.ref (ad 0) :: st) pc := zr_get (ref := "BeforeTheEndModel") (T := TX12) hC 0 hin (by decide) entM_0 rfl 13 (by decide) hl rfl rfl hd kk
theorem zmq_13 {v : Int32} : ∀ i, (if i = 0 then .inr (11, (zMob ad M).set 13 (.int v)) else entM κ ad M i) = entM κ ad (zsi M 0 13 v) i := by
  intro i
  by_cases h : i = 0
  · subst h; rfl
  · rw [if_neg h]; exact entM_loc (by simp [zsi, h]) (by rfl)
theorem zmp_13 {v : Int32} (hC : zC X cc RX12 Ts vwCl (zty κ) E nL rm) (hin : ∀ w ∈ wsX120, w ∈ Ts) (hl : Cond.fieldLink RX12 index "BeforeTheEndModel" "players" "I" ∈ Ts) (he : zsi M 0 13 v = M') (hd : decode cc pc = .ok (.putfield index, 3)) (kk : zV X cells slots (zwM κ ad M') lv st (pc + 3)) : zV X cells slots (zwM κ ad M) lv (.int v :: .ref (ad 0) :: st) pc := zr_put (ref := "BeforeTheEndModel") (T := TX12) (ty := .int) hC 0 hin tyX12 tyX12_ok nmX12 (by decide) entM_0 rfl 13 (by decide) hl rfl rfl rfl rfl rfl (Nat.le_of_ble_eq_true rfl) (he ▸ zmq_13) hd kk
theorem zmg_14 (hC : zC X cc RX12 Ts vwCl (zty κ) E nL rm) (hin : ∀ w ∈ wsX120, w ∈ Ts) (hl : Cond.fieldLink RX12 index "BeforeTheEndModel" "tape" "[I" ∈ Ts) (hd : decode cc pc = .ok (.getfield index, 3)) (kk : zV X cells slots (zwM κ ad M) lv (.ref (ad 13) :: st) (pc + 3)) : zV X cells slots (zwM κ ad M) lv (.ref (ad 0) :: st) pc := zr_get (ref := "BeforeTheEndModel") (T := TX12) hC 0 hin (by decide) entM_0 rfl 14 (by decide) hl rfl rfl hd kk
theorem zmg_15 (hC : zC X cc RX12 Ts vwCl (zty κ) E nL rm) (hin : ∀ w ∈ wsX120, w ∈ Ts) (hl : Cond.fieldLink RX12 index "BeforeTheEndModel" "told1" "[I" ∈ Ts) (hd : decode cc pc = .ok (.getfield index, 3)) (kk : zV X cells slots (zwM κ ad M) lv (.ref (ad 14) :: st) (pc + 3)) : zV X cells slots (zwM κ ad M) lv (.ref (ad 0) :: st) pc := zr_get (ref := "BeforeTheEndModel") (T := TX12) hC 0 hin (by decide) entM_0 rfl 15 (by decide) hl rfl rfl hd kk
theorem zmg_16 (hC : zC X cc RX12 Ts vwCl (zty κ) E nL rm) (hin : ∀ w ∈ wsX120, w ∈ Ts) (hl : Cond.fieldLink RX12 index "BeforeTheEndModel" "told2" "[I" ∈ Ts) (hd : decode cc pc = .ok (.getfield index, 3)) (kk : zV X cells slots (zwM κ ad M) lv (.ref (ad 15) :: st) (pc + 3)) : zV X cells slots (zwM κ ad M) lv (.ref (ad 0) :: st) pc := zr_get (ref := "BeforeTheEndModel") (T := TX12) hC 0 hin (by decide) entM_0 rfl 16 (by decide) hl rfl rfl hd kk
theorem zmg_17 (hC : zC X cc RX12 Ts vwCl (zty κ) E nL rm) (hin : ∀ w ∈ wsX120, w ∈ Ts) (hl : Cond.fieldLink RX12 index "BeforeTheEndModel" "told3" "[I" ∈ Ts) (hd : decode cc pc = .ok (.getfield index, 3)) (kk : zV X cells slots (zwM κ ad M) lv (.ref (ad 16) :: st) (pc + 3)) : zV X cells slots (zwM κ ad M) lv (.ref (ad 0) :: st) pc := zr_get (ref := "BeforeTheEndModel") (T := TX12) hC 0 hin (by decide) entM_0 rfl 17 (by decide) hl rfl rfl hd kk
theorem zmg_18 (hC : zC X cc RX12 Ts vwCl (zty κ) E nL rm) (hin : ∀ w ∈ wsX120, w ∈ Ts) (hl : Cond.fieldLink RX12 index "BeforeTheEndModel" "toldSet" "[I" ∈ Ts) (hd : decode cc pc = .ok (.getfield index, 3)) (kk : zV X cells slots (zwM κ ad M) lv (.ref (ad 17) :: st) (pc + 3)) : zV X cells slots (zwM κ ad M) lv (.ref (ad 0) :: st) pc := zr_get (ref := "BeforeTheEndModel") (T := TX12) hC 0 hin (by decide) entM_0 rfl 18 (by decide) hl rfl rfl hd kk
theorem zmg_19 (hC : zC X cc RX12 Ts vwCl (zty κ) E nL rm) (hin : ∀ w ∈ wsX120, w ∈ Ts) (hl : Cond.fieldLink RX12 index "BeforeTheEndModel" "toldKind" "[I" ∈ Ts) (hd : decode cc pc = .ok (.getfield index, 3)) (kk : zV X cells slots (zwM κ ad M) lv (.ref (ad 18) :: st) (pc + 3)) : zV X cells slots (zwM κ ad M) lv (.ref (ad 0) :: st) pc := zr_get (ref := "BeforeTheEndModel") (T := TX12) hC 0 hin (by decide) entM_0 rfl 19 (by decide) hl rfl rfl hd kk
theorem zmg_20 (hC : zC X cc RX12 Ts vwCl (zty κ) E nL rm) (hin : ∀ w ∈ wsX120, w ∈ Ts) (hl : Cond.fieldLink RX12 index "BeforeTheEndModel" "toldAt" "[I" ∈ Ts) (hd : decode cc pc = .ok (.getfield index, 3)) (kk : zV X cells slots (zwM κ ad M) lv (.ref (ad 19) :: st) (pc + 3)) : zV X cells slots (zwM κ ad M) lv (.ref (ad 0) :: st) pc := zr_get (ref := "BeforeTheEndModel") (T := TX12) hC 0 hin (by decide) entM_0 rfl 20 (by decide) hl rfl rfl hd kk
theorem zmg_21 (hC : zC X cc RX12 Ts vwCl (zty κ) E nL rm) (hin : ∀ w ∈ wsX120, w ∈ Ts) (hl : Cond.fieldLink RX12 index "BeforeTheEndModel" "taped" "I" ∈ Ts) (hd : decode cc pc = .ok (.getfield index, 3)) (kk : zV X cells slots (zwM κ ad M) lv (.int (M.1 0 21) :: st) (pc + 3)) : zV X cells slots (zwM κ ad M) lv (.ref (ad 0) :: st) pc := zr_get (ref := "BeforeTheEndModel") (T := TX12) hC 0 hin (by decide) entM_0 rfl 21 (by decide) hl rfl rfl hd kk
theorem zmq_21 {v : Int32} : ∀ i, (if i = 0 then .inr (11, (zMob ad M).set 21 (.int v)) else entM κ ad M i) = entM κ ad (zsi M 0 21 v) i := by
  intro i
  by_cases h : i = 0
  · subst h; rfl
  · rw [if_neg h]; exact entM_loc (by simp [zsi, h]) (by rfl)
theorem zmp_21 {v : Int32} (hC : zC X cc RX12 Ts vwCl (zty κ) E nL rm) (hin : ∀ w ∈ wsX120, w ∈ Ts) (hl : Cond.fieldLink RX12 index "BeforeTheEndModel" "taped" "I" ∈ Ts) (he : zsi M 0 21 v = M') (hd : decode cc pc = .ok (.putfield index, 3)) (kk : zV X cells slots (zwM κ ad M') lv st (pc + 3)) : zV X cells slots (zwM κ ad M) lv (.int v :: .ref (ad 0) :: st) pc := zr_put (ref := "BeforeTheEndModel") (T := TX12) (ty := .int) hC 0 hin tyX12 tyX12_ok nmX12 (by decide) entM_0 rfl 21 (by decide) hl rfl rfl rfl rfl rfl (Nat.le_of_ble_eq_true rfl) (he ▸ zmq_21) hd kk
theorem zmg_22 (hC : zC X cc RX12 Ts vwCl (zty κ) E nL rm) (hin : ∀ w ∈ wsX120, w ∈ Ts) (hl : Cond.fieldLink RX12 index "BeforeTheEndModel" "at" "I" ∈ Ts) (hd : decode cc pc = .ok (.getfield index, 3)) (kk : zV X cells slots (zwM κ ad M) lv (.int (M.1 0 22) :: st) (pc + 3)) : zV X cells slots (zwM κ ad M) lv (.ref (ad 0) :: st) pc := zr_get (ref := "BeforeTheEndModel") (T := TX12) hC 0 hin (by decide) entM_0 rfl 22 (by decide) hl rfl rfl hd kk
theorem zmq_22 {v : Int32} : ∀ i, (if i = 0 then .inr (11, (zMob ad M).set 22 (.int v)) else entM κ ad M i) = entM κ ad (zsi M 0 22 v) i := by
  intro i
  by_cases h : i = 0
  · subst h; rfl
  · rw [if_neg h]; exact entM_loc (by simp [zsi, h]) (by rfl)
theorem zmp_22 {v : Int32} (hC : zC X cc RX12 Ts vwCl (zty κ) E nL rm) (hin : ∀ w ∈ wsX120, w ∈ Ts) (hl : Cond.fieldLink RX12 index "BeforeTheEndModel" "at" "I" ∈ Ts) (he : zsi M 0 22 v = M') (hd : decode cc pc = .ok (.putfield index, 3)) (kk : zV X cells slots (zwM κ ad M') lv st (pc + 3)) : zV X cells slots (zwM κ ad M) lv (.int v :: .ref (ad 0) :: st) pc := zr_put (ref := "BeforeTheEndModel") (T := TX12) (ty := .int) hC 0 hin tyX12 tyX12_ok nmX12 (by decide) entM_0 rfl 22 (by decide) hl rfl rfl rfl rfl rfl (Nat.le_of_ble_eq_true rfl) (he ▸ zmq_22) hd kk
theorem zmg_23 (hC : zC X cc RX12 Ts vwCl (zty κ) E nL rm) (hin : ∀ w ∈ wsX120, w ∈ Ts) (hl : Cond.fieldLink RX12 index "BeforeTheEndModel" "statements" "I" ∈ Ts) (hd : decode cc pc = .ok (.getfield index, 3)) (kk : zV X cells slots (zwM κ ad M) lv (.int (M.1 0 23) :: st) (pc + 3)) : zV X cells slots (zwM κ ad M) lv (.ref (ad 0) :: st) pc := zr_get (ref := "BeforeTheEndModel") (T := TX12) hC 0 hin (by decide) entM_0 rfl 23 (by decide) hl rfl rfl hd kk
theorem zmq_23 {v : Int32} : ∀ i, (if i = 0 then .inr (11, (zMob ad M).set 23 (.int v)) else entM κ ad M i) = entM κ ad (zsi M 0 23 v) i := by
  intro i
  by_cases h : i = 0
  · subst h; rfl
  · rw [if_neg h]; exact entM_loc (by simp [zsi, h]) (by rfl)
theorem zmp_23 {v : Int32} (hC : zC X cc RX12 Ts vwCl (zty κ) E nL rm) (hin : ∀ w ∈ wsX120, w ∈ Ts) (hl : Cond.fieldLink RX12 index "BeforeTheEndModel" "statements" "I" ∈ Ts) (he : zsi M 0 23 v = M') (hd : decode cc pc = .ok (.putfield index, 3)) (kk : zV X cells slots (zwM κ ad M') lv st (pc + 3)) : zV X cells slots (zwM κ ad M) lv (.int v :: .ref (ad 0) :: st) pc := zr_put (ref := "BeforeTheEndModel") (T := TX12) (ty := .int) hC 0 hin tyX12 tyX12_ok nmX12 (by decide) entM_0 rfl 23 (by decide) hl rfl rfl rfl rfl rfl (Nat.le_of_ble_eq_true rfl) (he ▸ zmq_23) hd kk
theorem zmg_24 (hC : zC X cc RX12 Ts vwCl (zty κ) E nL rm) (hin : ∀ w ∈ wsX120, w ∈ Ts) (hl : Cond.fieldLink RX12 index "BeforeTheEndModel" "share" "[J" ∈ Ts) (hd : decode cc pc = .ok (.getfield index, 3)) (kk : zV X cells slots (zwM κ ad M) lv (.ref (ad 20) :: st) (pc + 3)) : zV X cells slots (zwM κ ad M) lv (.ref (ad 0) :: st) pc := zr_get (ref := "BeforeTheEndModel") (T := TX12) hC 0 hin (by decide) entM_0 rfl 24 (by decide) hl rfl rfl hd kk
theorem zmg_25 (hC : zC X cc RX12 Ts vwCl (zty κ) E nL rm) (hin : ∀ w ∈ wsX120, w ∈ Ts) (hl : Cond.fieldLink RX12 index "BeforeTheEndModel" "ofAnswer" "[J" ∈ Ts) (hd : decode cc pc = .ok (.getfield index, 3)) (kk : zV X cells slots (zwM κ ad M) lv (.ref (ad 21) :: st) (pc + 3)) : zV X cells slots (zwM κ ad M) lv (.ref (ad 0) :: st) pc := zr_get (ref := "BeforeTheEndModel") (T := TX12) hC 0 hin (by decide) entM_0 rfl 25 (by decide) hl rfl rfl hd kk
theorem zmg_26 (hC : zC X cc RX12 Ts vwCl (zty κ) E nL rm) (hin : ∀ w ∈ wsX120, w ∈ Ts) (hl : Cond.fieldLink RX12 index "BeforeTheEndModel" "guessAt" "[I" ∈ Ts) (hd : decode cc pc = .ok (.getfield index, 3)) (kk : zV X cells slots (zwM κ ad M) lv (.ref (ad 22) :: st) (pc + 3)) : zV X cells slots (zwM κ ad M) lv (.ref (ad 0) :: st) pc := zr_get (ref := "BeforeTheEndModel") (T := TX12) hC 0 hin (by decide) entM_0 rfl 26 (by decide) hl rfl rfl hd kk
theorem zmg_27 (hC : zC X cc RX12 Ts vwCl (zty κ) E nL rm) (hin : ∀ w ∈ wsX120, w ∈ Ts) (hl : Cond.fieldLink RX12 index "BeforeTheEndModel" "presses" "[I" ∈ Ts) (hd : decode cc pc = .ok (.getfield index, 3)) (kk : zV X cells slots (zwM κ ad M) lv (.ref (ad 23) :: st) (pc + 3)) : zV X cells slots (zwM κ ad M) lv (.ref (ad 0) :: st) pc := zr_get (ref := "BeforeTheEndModel") (T := TX12) hC 0 hin (by decide) entM_0 rfl 27 (by decide) hl rfl rfl hd kk
theorem zmg_28 (hC : zC X cc RX12 Ts vwCl (zty κ) E nL rm) (hin : ∀ w ∈ wsX120, w ∈ Ts) (hl : Cond.fieldLink RX12 index "BeforeTheEndModel" "learnt" "[I" ∈ Ts) (hd : decode cc pc = .ok (.getfield index, 3)) (kk : zV X cells slots (zwM κ ad M) lv (.ref (ad 24) :: st) (pc + 3)) : zV X cells slots (zwM κ ad M) lv (.ref (ad 0) :: st) pc := zr_get (ref := "BeforeTheEndModel") (T := TX12) hC 0 hin (by decide) entM_0 rfl 28 (by decide) hl rfl rfl hd kk
theorem zmg_29 (hC : zC X cc RX12 Ts vwCl (zty κ) E nL rm) (hin : ∀ w ∈ wsX120, w ∈ Ts) (hl : Cond.fieldLink RX12 index "BeforeTheEndModel" "unit" "J" ∈ Ts) (hd : decode cc pc = .ok (.getfield index, 3)) (kk : zV X cells slots (zwM κ ad M) lv (.long (M.2 0 29) :: st) (pc + 3)) : zV X cells slots (zwM κ ad M) lv (.ref (ad 0) :: st) pc := zr_get (ref := "BeforeTheEndModel") (T := TX12) hC 0 hin (by decide) entM_0 rfl 29 (by decide) hl rfl rfl hd kk
theorem zmq_29 {v : Int64} : ∀ i, (if i = 0 then .inr (11, (zMob ad M).set 29 (.long v)) else entM κ ad M i) = entM κ ad (zsj M 0 29 v) i := by
  intro i
  by_cases h : i = 0
  · subst h; rfl
  · rw [if_neg h]; exact entM_loc (by rfl) (by simp [zsj, h])
theorem zmp_29 {v : Int64} (hC : zC X cc RX12 Ts vwCl (zty κ) E nL rm) (hin : ∀ w ∈ wsX120, w ∈ Ts) (hl : Cond.fieldLink RX12 index "BeforeTheEndModel" "unit" "J" ∈ Ts) (he : zsj M 0 29 v = M') (hd : decode cc pc = .ok (.putfield index, 3)) (kk : zV X cells slots (zwM κ ad M') lv st (pc + 3)) : zV X cells slots (zwM κ ad M) lv (.long v :: .ref (ad 0) :: st) pc := zr_put (ref := "BeforeTheEndModel") (T := TX12) (ty := .long) hC 0 hin tyX12 tyX12_ok nmX12 (by decide) entM_0 rfl 29 (by decide) hl rfl rfl rfl rfl rfl (Nat.le_of_ble_eq_true rfl) (he ▸ zmq_29) hd kk
theorem zmg_30 (hC : zC X cc RX12 Ts vwCl (zty κ) E nL rm) (hin : ∀ w ∈ wsX120, w ∈ Ts) (hl : Cond.fieldLink RX12 index "BeforeTheEndModel" "worthAt" "[J" ∈ Ts) (hd : decode cc pc = .ok (.getfield index, 3)) (kk : zV X cells slots (zwM κ ad M) lv (.ref (ad 25) :: st) (pc + 3)) : zV X cells slots (zwM κ ad M) lv (.ref (ad 0) :: st) pc := zr_get (ref := "BeforeTheEndModel") (T := TX12) hC 0 hin (by decide) entM_0 rfl 30 (by decide) hl rfl rfl hd kk
theorem zmg_31 (hC : zC X cc RX12 Ts vwCl (zty κ) E nL rm) (hin : ∀ w ∈ wsX120, w ∈ Ts) (hl : Cond.fieldLink RX12 index "BeforeTheEndModel" "aloneSet" "I" ∈ Ts) (hd : decode cc pc = .ok (.getfield index, 3)) (kk : zV X cells slots (zwM κ ad M) lv (.int (M.1 0 31) :: st) (pc + 3)) : zV X cells slots (zwM κ ad M) lv (.ref (ad 0) :: st) pc := zr_get (ref := "BeforeTheEndModel") (T := TX12) hC 0 hin (by decide) entM_0 rfl 31 (by decide) hl rfl rfl hd kk
theorem zmq_31 {v : Int32} : ∀ i, (if i = 0 then .inr (11, (zMob ad M).set 31 (.int v)) else entM κ ad M i) = entM κ ad (zsi M 0 31 v) i := by
  intro i
  by_cases h : i = 0
  · subst h; rfl
  · rw [if_neg h]; exact entM_loc (by simp [zsi, h]) (by rfl)
theorem zmp_31 {v : Int32} (hC : zC X cc RX12 Ts vwCl (zty κ) E nL rm) (hin : ∀ w ∈ wsX120, w ∈ Ts) (hl : Cond.fieldLink RX12 index "BeforeTheEndModel" "aloneSet" "I" ∈ Ts) (he : zsi M 0 31 v = M') (hd : decode cc pc = .ok (.putfield index, 3)) (kk : zV X cells slots (zwM κ ad M') lv st (pc + 3)) : zV X cells slots (zwM κ ad M) lv (.int v :: .ref (ad 0) :: st) pc := zr_put (ref := "BeforeTheEndModel") (T := TX12) (ty := .int) hC 0 hin tyX12 tyX12_ok nmX12 (by decide) entM_0 rfl 31 (by decide) hl rfl rfl rfl rfl rfl (Nat.le_of_ble_eq_true rfl) (he ▸ zmq_31) hd kk
theorem zmg_32 (hC : zC X cc RX12 Ts vwCl (zty κ) E nL rm) (hin : ∀ w ∈ wsX120, w ∈ Ts) (hl : Cond.fieldLink RX12 index "BeforeTheEndModel" "way" "[I" ∈ Ts) (hd : decode cc pc = .ok (.getfield index, 3)) (kk : zV X cells slots (zwM κ ad M) lv (.ref (ad 26) :: st) (pc + 3)) : zV X cells slots (zwM κ ad M) lv (.ref (ad 0) :: st) pc := zr_get (ref := "BeforeTheEndModel") (T := TX12) hC 0 hin (by decide) entM_0 rfl 32 (by decide) hl rfl rfl hd kk
theorem zmg_33 (hC : zC X cc RX12 Ts vwCl (zty κ) E nL rm) (hin : ∀ w ∈ wsX120, w ∈ Ts) (hl : Cond.fieldLink RX12 index "BeforeTheEndModel" "gets" "[I" ∈ Ts) (hd : decode cc pc = .ok (.getfield index, 3)) (kk : zV X cells slots (zwM κ ad M) lv (.ref (ad 27) :: st) (pc + 3)) : zV X cells slots (zwM κ ad M) lv (.ref (ad 0) :: st) pc := zr_get (ref := "BeforeTheEndModel") (T := TX12) hC 0 hin (by decide) entM_0 rfl 33 (by decide) hl rfl rfl hd kk
theorem zmg_34 (hC : zC X cc RX12 Ts vwCl (zty κ) E nL rm) (hin : ∀ w ∈ wsX120, w ∈ Ts) (hl : Cond.fieldLink RX12 index "BeforeTheEndModel" "winner" "I" ∈ Ts) (hd : decode cc pc = .ok (.getfield index, 3)) (kk : zV X cells slots (zwM κ ad M) lv (.int (M.1 0 34) :: st) (pc + 3)) : zV X cells slots (zwM κ ad M) lv (.ref (ad 0) :: st) pc := zr_get (ref := "BeforeTheEndModel") (T := TX12) hC 0 hin (by decide) entM_0 rfl 34 (by decide) hl rfl rfl hd kk
theorem zmq_34 {v : Int32} : ∀ i, (if i = 0 then .inr (11, (zMob ad M).set 34 (.int v)) else entM κ ad M i) = entM κ ad (zsi M 0 34 v) i := by
  intro i
  by_cases h : i = 0
  · subst h; rfl
  · rw [if_neg h]; exact entM_loc (by simp [zsi, h]) (by rfl)
theorem zmp_34 {v : Int32} (hC : zC X cc RX12 Ts vwCl (zty κ) E nL rm) (hin : ∀ w ∈ wsX120, w ∈ Ts) (hl : Cond.fieldLink RX12 index "BeforeTheEndModel" "winner" "I" ∈ Ts) (he : zsi M 0 34 v = M') (hd : decode cc pc = .ok (.putfield index, 3)) (kk : zV X cells slots (zwM κ ad M') lv st (pc + 3)) : zV X cells slots (zwM κ ad M) lv (.int v :: .ref (ad 0) :: st) pc := zr_put (ref := "BeforeTheEndModel") (T := TX12) (ty := .int) hC 0 hin tyX12 tyX12_ok nmX12 (by decide) entM_0 rfl 34 (by decide) hl rfl rfl rfl rfl rfl (Nat.le_of_ble_eq_true rfl) (he ▸ zmq_34) hd kk
theorem zmg_35 (hC : zC X cc RX12 Ts vwCl (zty κ) E nL rm) (hin : ∀ w ∈ wsX120, w ∈ Ts) (hl : Cond.fieldLink RX12 index "BeforeTheEndModel" "firstWord" "I" ∈ Ts) (hd : decode cc pc = .ok (.getfield index, 3)) (kk : zV X cells slots (zwM κ ad M) lv (.int (M.1 0 35) :: st) (pc + 3)) : zV X cells slots (zwM κ ad M) lv (.ref (ad 0) :: st) pc := zr_get (ref := "BeforeTheEndModel") (T := TX12) hC 0 hin (by decide) entM_0 rfl 35 (by decide) hl rfl rfl hd kk
theorem zmq_35 {v : Int32} : ∀ i, (if i = 0 then .inr (11, (zMob ad M).set 35 (.int v)) else entM κ ad M i) = entM κ ad (zsi M 0 35 v) i := by
  intro i
  by_cases h : i = 0
  · subst h; rfl
  · rw [if_neg h]; exact entM_loc (by simp [zsi, h]) (by rfl)
theorem zmp_35 {v : Int32} (hC : zC X cc RX12 Ts vwCl (zty κ) E nL rm) (hin : ∀ w ∈ wsX120, w ∈ Ts) (hl : Cond.fieldLink RX12 index "BeforeTheEndModel" "firstWord" "I" ∈ Ts) (he : zsi M 0 35 v = M') (hd : decode cc pc = .ok (.putfield index, 3)) (kk : zV X cells slots (zwM κ ad M') lv st (pc + 3)) : zV X cells slots (zwM κ ad M) lv (.int v :: .ref (ad 0) :: st) pc := zr_put (ref := "BeforeTheEndModel") (T := TX12) (ty := .int) hC 0 hin tyX12 tyX12_ok nmX12 (by decide) entM_0 rfl 35 (by decide) hl rfl rfl rfl rfl rfl (Nat.le_of_ble_eq_true rfl) (he ▸ zmq_35) hd kk
theorem zmg_36 (hC : zC X cc RX12 Ts vwCl (zty κ) E nL rm) (hin : ∀ w ∈ wsX120, w ∈ Ts) (hl : Cond.fieldLink RX12 index "BeforeTheEndModel" "firstWho" "I" ∈ Ts) (hd : decode cc pc = .ok (.getfield index, 3)) (kk : zV X cells slots (zwM κ ad M) lv (.int (M.1 0 36) :: st) (pc + 3)) : zV X cells slots (zwM κ ad M) lv (.ref (ad 0) :: st) pc := zr_get (ref := "BeforeTheEndModel") (T := TX12) hC 0 hin (by decide) entM_0 rfl 36 (by decide) hl rfl rfl hd kk
theorem zmq_36 {v : Int32} : ∀ i, (if i = 0 then .inr (11, (zMob ad M).set 36 (.int v)) else entM κ ad M i) = entM κ ad (zsi M 0 36 v) i := by
  intro i
  by_cases h : i = 0
  · subst h; rfl
  · rw [if_neg h]; exact entM_loc (by simp [zsi, h]) (by rfl)
theorem zmp_36 {v : Int32} (hC : zC X cc RX12 Ts vwCl (zty κ) E nL rm) (hin : ∀ w ∈ wsX120, w ∈ Ts) (hl : Cond.fieldLink RX12 index "BeforeTheEndModel" "firstWho" "I" ∈ Ts) (he : zsi M 0 36 v = M') (hd : decode cc pc = .ok (.putfield index, 3)) (kk : zV X cells slots (zwM κ ad M') lv st (pc + 3)) : zV X cells slots (zwM κ ad M) lv (.int v :: .ref (ad 0) :: st) pc := zr_put (ref := "BeforeTheEndModel") (T := TX12) (ty := .int) hC 0 hin tyX12 tyX12_ok nmX12 (by decide) entM_0 rfl 36 (by decide) hl rfl rfl rfl rfl rfl (Nat.le_of_ble_eq_true rfl) (he ▸ zmq_36) hd kk
theorem zmg_37 (hC : zC X cc RX12 Ts vwCl (zty κ) E nL rm) (hin : ∀ w ∈ wsX120, w ∈ Ts) (hl : Cond.fieldLink RX12 index "BeforeTheEndModel" "wrongs" "I" ∈ Ts) (hd : decode cc pc = .ok (.getfield index, 3)) (kk : zV X cells slots (zwM κ ad M) lv (.int (M.1 0 37) :: st) (pc + 3)) : zV X cells slots (zwM κ ad M) lv (.ref (ad 0) :: st) pc := zr_get (ref := "BeforeTheEndModel") (T := TX12) hC 0 hin (by decide) entM_0 rfl 37 (by decide) hl rfl rfl hd kk
theorem zmq_37 {v : Int32} : ∀ i, (if i = 0 then .inr (11, (zMob ad M).set 37 (.int v)) else entM κ ad M i) = entM κ ad (zsi M 0 37 v) i := by
  intro i
  by_cases h : i = 0
  · subst h; rfl
  · rw [if_neg h]; exact entM_loc (by simp [zsi, h]) (by rfl)
theorem zmp_37 {v : Int32} (hC : zC X cc RX12 Ts vwCl (zty κ) E nL rm) (hin : ∀ w ∈ wsX120, w ∈ Ts) (hl : Cond.fieldLink RX12 index "BeforeTheEndModel" "wrongs" "I" ∈ Ts) (he : zsi M 0 37 v = M') (hd : decode cc pc = .ok (.putfield index, 3)) (kk : zV X cells slots (zwM κ ad M') lv st (pc + 3)) : zV X cells slots (zwM κ ad M) lv (.int v :: .ref (ad 0) :: st) pc := zr_put (ref := "BeforeTheEndModel") (T := TX12) (ty := .int) hC 0 hin tyX12 tyX12_ok nmX12 (by decide) entM_0 rfl 37 (by decide) hl rfl rfl rfl rfl rfl (Nat.le_of_ble_eq_true rfl) (he ▸ zmq_37) hd kk
theorem zmg_38 (hC : zC X cc RX12 Ts vwCl (zty κ) E nL rm) (hin : ∀ w ∈ wsX120, w ∈ Ts) (hl : Cond.fieldLink RX12 index "BeforeTheEndModel" "out" "I" ∈ Ts) (hd : decode cc pc = .ok (.getfield index, 3)) (kk : zV X cells slots (zwM κ ad M) lv (.int (M.1 0 38) :: st) (pc + 3)) : zV X cells slots (zwM κ ad M) lv (.ref (ad 0) :: st) pc := zr_get (ref := "BeforeTheEndModel") (T := TX12) hC 0 hin (by decide) entM_0 rfl 38 (by decide) hl rfl rfl hd kk
theorem zmq_38 {v : Int32} : ∀ i, (if i = 0 then .inr (11, (zMob ad M).set 38 (.int v)) else entM κ ad M i) = entM κ ad (zsi M 0 38 v) i := by
  intro i
  by_cases h : i = 0
  · subst h; rfl
  · rw [if_neg h]; exact entM_loc (by simp [zsi, h]) (by rfl)
theorem zmp_38 {v : Int32} (hC : zC X cc RX12 Ts vwCl (zty κ) E nL rm) (hin : ∀ w ∈ wsX120, w ∈ Ts) (hl : Cond.fieldLink RX12 index "BeforeTheEndModel" "out" "I" ∈ Ts) (he : zsi M 0 38 v = M') (hd : decode cc pc = .ok (.putfield index, 3)) (kk : zV X cells slots (zwM κ ad M') lv st (pc + 3)) : zV X cells slots (zwM κ ad M) lv (.int v :: .ref (ad 0) :: st) pc := zr_put (ref := "BeforeTheEndModel") (T := TX12) (ty := .int) hC 0 hin tyX12 tyX12_ok nmX12 (by decide) entM_0 rfl 38 (by decide) hl rfl rfl rfl rfl rfl (Nat.le_of_ble_eq_true rfl) (he ▸ zmq_38) hd kk
theorem zmg_39 (hC : zC X cc RX12 Ts vwCl (zty κ) E nL rm) (hin : ∀ w ∈ wsX120, w ∈ Ts) (hl : Cond.fieldLink RX12 index "BeforeTheEndModel" "bestWorth" "J" ∈ Ts) (hd : decode cc pc = .ok (.getfield index, 3)) (kk : zV X cells slots (zwM κ ad M) lv (.long (M.2 0 39) :: st) (pc + 3)) : zV X cells slots (zwM κ ad M) lv (.ref (ad 0) :: st) pc := zr_get (ref := "BeforeTheEndModel") (T := TX12) hC 0 hin (by decide) entM_0 rfl 39 (by decide) hl rfl rfl hd kk
theorem zmq_39 {v : Int64} : ∀ i, (if i = 0 then .inr (11, (zMob ad M).set 39 (.long v)) else entM κ ad M i) = entM κ ad (zsj M 0 39 v) i := by
  intro i
  by_cases h : i = 0
  · subst h; rfl
  · rw [if_neg h]; exact entM_loc (by rfl) (by simp [zsj, h])
theorem zmp_39 {v : Int64} (hC : zC X cc RX12 Ts vwCl (zty κ) E nL rm) (hin : ∀ w ∈ wsX120, w ∈ Ts) (hl : Cond.fieldLink RX12 index "BeforeTheEndModel" "bestWorth" "J" ∈ Ts) (he : zsj M 0 39 v = M') (hd : decode cc pc = .ok (.putfield index, 3)) (kk : zV X cells slots (zwM κ ad M') lv st (pc + 3)) : zV X cells slots (zwM κ ad M) lv (.long v :: .ref (ad 0) :: st) pc := zr_put (ref := "BeforeTheEndModel") (T := TX12) (ty := .long) hC 0 hin tyX12 tyX12_ok nmX12 (by decide) entM_0 rfl 39 (by decide) hl rfl rfl rfl rfl rfl (Nat.le_of_ble_eq_true rfl) (he ▸ zmq_39) hd kk
theorem zmg_40 (hC : zC X cc RX12 Ts vwCl (zty κ) E nL rm) (hin : ∀ w ∈ wsX120, w ∈ Ts) (hl : Cond.fieldLink RX12 index "BeforeTheEndModel" "bestSet" "I" ∈ Ts) (hd : decode cc pc = .ok (.getfield index, 3)) (kk : zV X cells slots (zwM κ ad M) lv (.int (M.1 0 40) :: st) (pc + 3)) : zV X cells slots (zwM κ ad M) lv (.ref (ad 0) :: st) pc := zr_get (ref := "BeforeTheEndModel") (T := TX12) hC 0 hin (by decide) entM_0 rfl 40 (by decide) hl rfl rfl hd kk
theorem zmq_40 {v : Int32} : ∀ i, (if i = 0 then .inr (11, (zMob ad M).set 40 (.int v)) else entM κ ad M i) = entM κ ad (zsi M 0 40 v) i := by
  intro i
  by_cases h : i = 0
  · subst h; rfl
  · rw [if_neg h]; exact entM_loc (by simp [zsi, h]) (by rfl)
theorem zmp_40 {v : Int32} (hC : zC X cc RX12 Ts vwCl (zty κ) E nL rm) (hin : ∀ w ∈ wsX120, w ∈ Ts) (hl : Cond.fieldLink RX12 index "BeforeTheEndModel" "bestSet" "I" ∈ Ts) (he : zsi M 0 40 v = M') (hd : decode cc pc = .ok (.putfield index, 3)) (kk : zV X cells slots (zwM κ ad M') lv st (pc + 3)) : zV X cells slots (zwM κ ad M) lv (.int v :: .ref (ad 0) :: st) pc := zr_put (ref := "BeforeTheEndModel") (T := TX12) (ty := .int) hC 0 hin tyX12 tyX12_ok nmX12 (by decide) entM_0 rfl 40 (by decide) hl rfl rfl rfl rfl rfl (Nat.le_of_ble_eq_true rfl) (he ▸ zmq_40) hd kk
theorem zmg_41 (hC : zC X cc RX12 Ts vwCl (zty κ) E nL rm) (hin : ∀ w ∈ wsX120, w ∈ Ts) (hl : Cond.fieldLink RX12 index "BeforeTheEndModel" "fact" "[I" ∈ Ts) (hd : decode cc pc = .ok (.getfield index, 3)) (kk : zV X cells slots (zwM κ ad M) lv (.ref (ad 28) :: st) (pc + 3)) : zV X cells slots (zwM κ ad M) lv (.ref (ad 0) :: st) pc := zr_get (ref := "BeforeTheEndModel") (T := TX12) hC 0 hin (by decide) entM_0 rfl 41 (by decide) hl rfl rfl hd kk
theorem zmg_42 (hC : zC X cc RX12 Ts vwCl (zty κ) E nL rm) (hin : ∀ w ∈ wsX120, w ∈ Ts) (hl : Cond.fieldLink RX12 index "BeforeTheEndModel" "order" "[I" ∈ Ts) (hd : decode cc pc = .ok (.getfield index, 3)) (kk : zV X cells slots (zwM κ ad M) lv (.ref (ad 29) :: st) (pc + 3)) : zV X cells slots (zwM κ ad M) lv (.ref (ad 0) :: st) pc := zr_get (ref := "BeforeTheEndModel") (T := TX12) hC 0 hin (by decide) entM_0 rfl 42 (by decide) hl rfl rfl hd kk
theorem zmg_43 (hC : zC X cc RX12 Ts vwCl (zty κ) E nL rm) (hin : ∀ w ∈ wsX120, w ∈ Ts) (hl : Cond.fieldLink RX12 index "BeforeTheEndModel" "bestOrder" "[I" ∈ Ts) (hd : decode cc pc = .ok (.getfield index, 3)) (kk : zV X cells slots (zwM κ ad M) lv (.ref (ad 30) :: st) (pc + 3)) : zV X cells slots (zwM κ ad M) lv (.ref (ad 0) :: st) pc := zr_get (ref := "BeforeTheEndModel") (T := TX12) hC 0 hin (by decide) entM_0 rfl 43 (by decide) hl rfl rfl hd kk
theorem zmg_44 (hC : zC X cc RX12 Ts vwCl (zty κ) E nL rm) (hin : ∀ w ∈ wsX120, w ∈ Ts) (hl : Cond.fieldLink RX12 index "BeforeTheEndModel" "facts" "I" ∈ Ts) (hd : decode cc pc = .ok (.getfield index, 3)) (kk : zV X cells slots (zwM κ ad M) lv (.int (M.1 0 44) :: st) (pc + 3)) : zV X cells slots (zwM κ ad M) lv (.ref (ad 0) :: st) pc := zr_get (ref := "BeforeTheEndModel") (T := TX12) hC 0 hin (by decide) entM_0 rfl 44 (by decide) hl rfl rfl hd kk
theorem zmq_44 {v : Int32} : ∀ i, (if i = 0 then .inr (11, (zMob ad M).set 44 (.int v)) else entM κ ad M i) = entM κ ad (zsi M 0 44 v) i := by
  intro i
  by_cases h : i = 0
  · subst h; rfl
  · rw [if_neg h]; exact entM_loc (by simp [zsi, h]) (by rfl)
theorem zmp_44 {v : Int32} (hC : zC X cc RX12 Ts vwCl (zty κ) E nL rm) (hin : ∀ w ∈ wsX120, w ∈ Ts) (hl : Cond.fieldLink RX12 index "BeforeTheEndModel" "facts" "I" ∈ Ts) (he : zsi M 0 44 v = M') (hd : decode cc pc = .ok (.putfield index, 3)) (kk : zV X cells slots (zwM κ ad M') lv st (pc + 3)) : zV X cells slots (zwM κ ad M) lv (.int v :: .ref (ad 0) :: st) pc := zr_put (ref := "BeforeTheEndModel") (T := TX12) (ty := .int) hC 0 hin tyX12 tyX12_ok nmX12 (by decide) entM_0 rfl 44 (by decide) hl rfl rfl rfl rfl rfl (Nat.le_of_ble_eq_true rfl) (he ▸ zmq_44) hd kk
theorem zmg_45 (hC : zC X cc RX12 Ts vwCl (zty κ) E nL rm) (hin : ∀ w ∈ wsX120, w ∈ Ts) (hl : Cond.fieldLink RX12 index "BeforeTheEndModel" "lots" "I" ∈ Ts) (hd : decode cc pc = .ok (.getfield index, 3)) (kk : zV X cells slots (zwM κ ad M) lv (.int (M.1 0 45) :: st) (pc + 3)) : zV X cells slots (zwM κ ad M) lv (.ref (ad 0) :: st) pc := zr_get (ref := "BeforeTheEndModel") (T := TX12) hC 0 hin (by decide) entM_0 rfl 45 (by decide) hl rfl rfl hd kk
theorem zmq_45 {v : Int32} : ∀ i, (if i = 0 then .inr (11, (zMob ad M).set 45 (.int v)) else entM κ ad M i) = entM κ ad (zsi M 0 45 v) i := by
  intro i
  by_cases h : i = 0
  · subst h; rfl
  · rw [if_neg h]; exact entM_loc (by simp [zsi, h]) (by rfl)
theorem zmp_45 {v : Int32} (hC : zC X cc RX12 Ts vwCl (zty κ) E nL rm) (hin : ∀ w ∈ wsX120, w ∈ Ts) (hl : Cond.fieldLink RX12 index "BeforeTheEndModel" "lots" "I" ∈ Ts) (he : zsi M 0 45 v = M') (hd : decode cc pc = .ok (.putfield index, 3)) (kk : zV X cells slots (zwM κ ad M') lv st (pc + 3)) : zV X cells slots (zwM κ ad M) lv (.int v :: .ref (ad 0) :: st) pc := zr_put (ref := "BeforeTheEndModel") (T := TX12) (ty := .int) hC 0 hin tyX12 tyX12_ok nmX12 (by decide) entM_0 rfl 45 (by decide) hl rfl rfl rfl rfl rfl (Nat.le_of_ble_eq_true rfl) (he ▸ zmq_45) hd kk
theorem zmg_46 (hC : zC X cc RX12 Ts vwCl (zty κ) E nL rm) (hin : ∀ w ∈ wsX120, w ∈ Ts) (hl : Cond.fieldLink RX12 index "BeforeTheEndModel" "row" "[I" ∈ Ts) (hd : decode cc pc = .ok (.getfield index, 3)) (kk : zV X cells slots (zwM κ ad M) lv (.ref (ad 31) :: st) (pc + 3)) : zV X cells slots (zwM κ ad M) lv (.ref (ad 0) :: st) pc := zr_get (ref := "BeforeTheEndModel") (T := TX12) hC 0 hin (by decide) entM_0 rfl 46 (by decide) hl rfl rfl hd kk
theorem zmg_47 (hC : zC X cc RX12 Ts vwCl (zty κ) E nL rm) (hin : ∀ w ∈ wsX120, w ∈ Ts) (hl : Cond.fieldLink RX12 index "BeforeTheEndModel" "rowMany" "I" ∈ Ts) (hd : decode cc pc = .ok (.getfield index, 3)) (kk : zV X cells slots (zwM κ ad M) lv (.int (M.1 0 47) :: st) (pc + 3)) : zV X cells slots (zwM κ ad M) lv (.ref (ad 0) :: st) pc := zr_get (ref := "BeforeTheEndModel") (T := TX12) hC 0 hin (by decide) entM_0 rfl 47 (by decide) hl rfl rfl hd kk
theorem zmq_47 {v : Int32} : ∀ i, (if i = 0 then .inr (11, (zMob ad M).set 47 (.int v)) else entM κ ad M i) = entM κ ad (zsi M 0 47 v) i := by
  intro i
  by_cases h : i = 0
  · subst h; rfl
  · rw [if_neg h]; exact entM_loc (by simp [zsi, h]) (by rfl)
theorem zmp_47 {v : Int32} (hC : zC X cc RX12 Ts vwCl (zty κ) E nL rm) (hin : ∀ w ∈ wsX120, w ∈ Ts) (hl : Cond.fieldLink RX12 index "BeforeTheEndModel" "rowMany" "I" ∈ Ts) (he : zsi M 0 47 v = M') (hd : decode cc pc = .ok (.putfield index, 3)) (kk : zV X cells slots (zwM κ ad M') lv st (pc + 3)) : zV X cells slots (zwM κ ad M) lv (.int v :: .ref (ad 0) :: st) pc := zr_put (ref := "BeforeTheEndModel") (T := TX12) (ty := .int) hC 0 hin tyX12 tyX12_ok nmX12 (by decide) entM_0 rfl 47 (by decide) hl rfl rfl rfl rfl rfl (Nat.le_of_ble_eq_true rfl) (he ▸ zmq_47) hd kk
theorem zmg_48 (hC : zC X cc RX12 Ts vwCl (zty κ) E nL rm) (hin : ∀ w ∈ wsX120, w ∈ Ts) (hl : Cond.fieldLink RX12 index "BeforeTheEndModel" "kept" "[I" ∈ Ts) (hd : decode cc pc = .ok (.getfield index, 3)) (kk : zV X cells slots (zwM κ ad M) lv (.ref (ad 32) :: st) (pc + 3)) : zV X cells slots (zwM κ ad M) lv (.ref (ad 0) :: st) pc := zr_get (ref := "BeforeTheEndModel") (T := TX12) hC 0 hin (by decide) entM_0 rfl 48 (by decide) hl rfl rfl hd kk
theorem zmg_49 (hC : zC X cc RX12 Ts vwCl (zty κ) E nL rm) (hin : ∀ w ∈ wsX120, w ∈ Ts) (hl : Cond.fieldLink RX12 index "BeforeTheEndModel" "hasImage" "Z" ∈ Ts) (hd : decode cc pc = .ok (.getfield index, 3)) (kk : zV X cells slots (zwM κ ad M) lv (.int (M.1 0 49) :: st) (pc + 3)) : zV X cells slots (zwM κ ad M) lv (.ref (ad 0) :: st) pc := zr_get (ref := "BeforeTheEndModel") (T := TX12) hC 0 hin (by decide) entM_0 rfl 49 (by decide) hl rfl rfl hd kk
theorem zmq_49 {v : Int32} : ∀ i, (if i = 0 then .inr (11, (zMob ad M).set 49 (.int v)) else entM κ ad M i) = entM κ ad (zsi M 0 49 v) i := by
  intro i
  by_cases h : i = 0
  · subst h; rfl
  · rw [if_neg h]; exact entM_loc (by simp [zsi, h]) (by rfl)
theorem zmp_49 {v : Int32} (hC : zC X cc RX12 Ts vwCl (zty κ) E nL rm) (hin : ∀ w ∈ wsX120, w ∈ Ts) (hl : Cond.fieldLink RX12 index "BeforeTheEndModel" "hasImage" "Z" ∈ Ts) (hz : v = 0 ∨ v = 1) (he : zsi M 0 49 v = M') (hd : decode cc pc = .ok (.putfield index, 3)) (kk : zV X cells slots (zwM κ ad M') lv st (pc + 3)) : zV X cells slots (zwM κ ad M) lv (.int v :: .ref (ad 0) :: st) pc := zr_put (ref := "BeforeTheEndModel") (T := TX12) (ty := .boolean) hC 0 hin tyX12 tyX12_ok nmX12 (by decide) entM_0 rfl 49 (by decide) hl rfl rfl rfl (znb hz) (znf hz) (Nat.le_of_ble_eq_true rfl) (he ▸ zmq_49) hd kk
theorem zmg_50 (hC : zC X cc RX12 Ts vwCl (zty κ) E nL rm) (hin : ∀ w ∈ wsX120, w ∈ Ts) (hl : Cond.fieldLink RX12 index "BeforeTheEndModel" "isKeeping" "Z" ∈ Ts) (hd : decode cc pc = .ok (.getfield index, 3)) (kk : zV X cells slots (zwM κ ad M) lv (.int (M.1 0 50) :: st) (pc + 3)) : zV X cells slots (zwM κ ad M) lv (.ref (ad 0) :: st) pc := zr_get (ref := "BeforeTheEndModel") (T := TX12) hC 0 hin (by decide) entM_0 rfl 50 (by decide) hl rfl rfl hd kk
theorem zmq_50 {v : Int32} : ∀ i, (if i = 0 then .inr (11, (zMob ad M).set 50 (.int v)) else entM κ ad M i) = entM κ ad (zsi M 0 50 v) i := by
  intro i
  by_cases h : i = 0
  · subst h; rfl
  · rw [if_neg h]; exact entM_loc (by simp [zsi, h]) (by rfl)
theorem zmp_50 {v : Int32} (hC : zC X cc RX12 Ts vwCl (zty κ) E nL rm) (hin : ∀ w ∈ wsX120, w ∈ Ts) (hl : Cond.fieldLink RX12 index "BeforeTheEndModel" "isKeeping" "Z" ∈ Ts) (hz : v = 0 ∨ v = 1) (he : zsi M 0 50 v = M') (hd : decode cc pc = .ok (.putfield index, 3)) (kk : zV X cells slots (zwM κ ad M') lv st (pc + 3)) : zV X cells slots (zwM κ ad M) lv (.int v :: .ref (ad 0) :: st) pc := zr_put (ref := "BeforeTheEndModel") (T := TX12) (ty := .boolean) hC 0 hin tyX12 tyX12_ok nmX12 (by decide) entM_0 rfl 50 (by decide) hl rfl rfl rfl (znb hz) (znf hz) (Nat.le_of_ble_eq_true rfl) (he ▸ zmq_50) hd kk
theorem zmg_51 (hC : zC X cc RX12 Ts vwCl (zty κ) E nL rm) (hin : ∀ w ∈ wsX120, w ∈ Ts) (hl : Cond.fieldLink RX12 index "BeforeTheEndModel" "cursor" "I" ∈ Ts) (hd : decode cc pc = .ok (.getfield index, 3)) (kk : zV X cells slots (zwM κ ad M) lv (.int (M.1 0 51) :: st) (pc + 3)) : zV X cells slots (zwM κ ad M) lv (.ref (ad 0) :: st) pc := zr_get (ref := "BeforeTheEndModel") (T := TX12) hC 0 hin (by decide) entM_0 rfl 51 (by decide) hl rfl rfl hd kk
theorem zmq_51 {v : Int32} : ∀ i, (if i = 0 then .inr (11, (zMob ad M).set 51 (.int v)) else entM κ ad M i) = entM κ ad (zsi M 0 51 v) i := by
  intro i
  by_cases h : i = 0
  · subst h; rfl
  · rw [if_neg h]; exact entM_loc (by simp [zsi, h]) (by rfl)
theorem zmp_51 {v : Int32} (hC : zC X cc RX12 Ts vwCl (zty κ) E nL rm) (hin : ∀ w ∈ wsX120, w ∈ Ts) (hl : Cond.fieldLink RX12 index "BeforeTheEndModel" "cursor" "I" ∈ Ts) (he : zsi M 0 51 v = M') (hd : decode cc pc = .ok (.putfield index, 3)) (kk : zV X cells slots (zwM κ ad M') lv st (pc + 3)) : zV X cells slots (zwM κ ad M) lv (.int v :: .ref (ad 0) :: st) pc := zr_put (ref := "BeforeTheEndModel") (T := TX12) (ty := .int) hC 0 hin tyX12 tyX12_ok nmX12 (by decide) entM_0 rfl 51 (by decide) hl rfl rfl rfl rfl rfl (Nat.le_of_ble_eq_true rfl) (he ▸ zmq_51) hd kk
theorem entM_1 {κ : Nat → ClassId} {ad : Nat → Nat} {M : zM} : entM κ ad M 1 = .inl (κ 0, 7, .inl (M.1 1)) := rfl
theorem zml_1 {i : Int32} (hC : zC X cc own Ts vwCl (zty κ) E nL rm) (hi : ¬ (i < 0 ∨ 7 ≤ i.toNatClampNeg)) (hd : decode cc pc = .ok (.iaload, 1)) (kk : zV X cells slots (zwM κ ad M) lv (.int (M.1 1 i.toNatClampNeg) :: st) (pc + 1)) : zV X cells slots (zwM κ ad M) lv (.int i :: .ref (ad 1) :: st) pc := zr_iald hC 1 0 (by decide) entM_1 rfl hi hd kk
theorem zmu_1 {k : Nat} {v : Int32} : ∀ i, (if i = 1 then .inl (κ 0, 7, .inl (upd (M.1 1) k v)) else entM κ ad M i) = entM κ ad (zsi M 1 k v) i := by
  intro i
  by_cases h : i = 1
  · subst h; rfl
  · rw [if_neg h]; exact entM_loc (by simp [zsi, h]) (by rfl)
theorem zms_1 {i : Int32} {v : Int32} (hC : zC X cc own Ts vwCl (zty κ) E nL rm) (hi : ¬ (i < 0 ∨ 7 ≤ i.toNatClampNeg)) (he : zsi M 1 i.toNatClampNeg v = M') (hd : decode cc pc = .ok (.iastore, 1)) (kk : zV X cells slots (zwM κ ad M') lv st (pc + 1)) : zV X cells slots (zwM κ ad M) lv (.int v :: .int i :: .ref (ad 1) :: st) pc := zr_iast hC 1 0 (by decide) entM_1 rfl hi (he ▸ zmu_1) hd kk
theorem zma_1 (hC : zC X cc own Ts vwCl (zty κ) E nL rm) (hd : decode cc pc = .ok (.arraylength, 1)) (kk : zV X cells slots (zwM κ ad M) lv (.int (7 : Int32) :: st) (pc + 1)) : zV X cells slots (zwM κ ad M) lv (.ref (ad 1) :: st) pc := zr_alen hC 1 0 (by decide) entM_1 rfl (show Int32.ofNat 7 = (7 : Int32) by decide) hd kk
theorem entM_2 {κ : Nat → ClassId} {ad : Nat → Nat} {M : zM} : entM κ ad M 2 = .inl (κ 0, 24, .inl (M.1 2)) := rfl
theorem zml_2 {i : Int32} (hC : zC X cc own Ts vwCl (zty κ) E nL rm) (hi : ¬ (i < 0 ∨ 24 ≤ i.toNatClampNeg)) (hd : decode cc pc = .ok (.iaload, 1)) (kk : zV X cells slots (zwM κ ad M) lv (.int (M.1 2 i.toNatClampNeg) :: st) (pc + 1)) : zV X cells slots (zwM κ ad M) lv (.int i :: .ref (ad 2) :: st) pc := zr_iald hC 2 0 (by decide) entM_2 rfl hi hd kk
theorem zmu_2 {k : Nat} {v : Int32} : ∀ i, (if i = 2 then .inl (κ 0, 24, .inl (upd (M.1 2) k v)) else entM κ ad M i) = entM κ ad (zsi M 2 k v) i := by
  intro i
  by_cases h : i = 2
  · subst h; rfl
  · rw [if_neg h]; exact entM_loc (by simp [zsi, h]) (by rfl)
theorem zms_2 {i : Int32} {v : Int32} (hC : zC X cc own Ts vwCl (zty κ) E nL rm) (hi : ¬ (i < 0 ∨ 24 ≤ i.toNatClampNeg)) (he : zsi M 2 i.toNatClampNeg v = M') (hd : decode cc pc = .ok (.iastore, 1)) (kk : zV X cells slots (zwM κ ad M') lv st (pc + 1)) : zV X cells slots (zwM κ ad M) lv (.int v :: .int i :: .ref (ad 2) :: st) pc := zr_iast hC 2 0 (by decide) entM_2 rfl hi (he ▸ zmu_2) hd kk
theorem zma_2 (hC : zC X cc own Ts vwCl (zty κ) E nL rm) (hd : decode cc pc = .ok (.arraylength, 1)) (kk : zV X cells slots (zwM κ ad M) lv (.int (24 : Int32) :: st) (pc + 1)) : zV X cells slots (zwM κ ad M) lv (.ref (ad 2) :: st) pc := zr_alen hC 2 0 (by decide) entM_2 rfl (show Int32.ofNat 24 = (24 : Int32) by decide) hd kk
theorem entM_3 {κ : Nat → ClassId} {ad : Nat → Nat} {M : zM} : entM κ ad M 3 = .inl (κ 0, 24, .inl (M.1 3)) := rfl
theorem zml_3 {i : Int32} (hC : zC X cc own Ts vwCl (zty κ) E nL rm) (hi : ¬ (i < 0 ∨ 24 ≤ i.toNatClampNeg)) (hd : decode cc pc = .ok (.iaload, 1)) (kk : zV X cells slots (zwM κ ad M) lv (.int (M.1 3 i.toNatClampNeg) :: st) (pc + 1)) : zV X cells slots (zwM κ ad M) lv (.int i :: .ref (ad 3) :: st) pc := zr_iald hC 3 0 (by decide) entM_3 rfl hi hd kk
theorem zmu_3 {k : Nat} {v : Int32} : ∀ i, (if i = 3 then .inl (κ 0, 24, .inl (upd (M.1 3) k v)) else entM κ ad M i) = entM κ ad (zsi M 3 k v) i := by
  intro i
  by_cases h : i = 3
  · subst h; rfl
  · rw [if_neg h]; exact entM_loc (by simp [zsi, h]) (by rfl)
theorem zms_3 {i : Int32} {v : Int32} (hC : zC X cc own Ts vwCl (zty κ) E nL rm) (hi : ¬ (i < 0 ∨ 24 ≤ i.toNatClampNeg)) (he : zsi M 3 i.toNatClampNeg v = M') (hd : decode cc pc = .ok (.iastore, 1)) (kk : zV X cells slots (zwM κ ad M') lv st (pc + 1)) : zV X cells slots (zwM κ ad M) lv (.int v :: .int i :: .ref (ad 3) :: st) pc := zr_iast hC 3 0 (by decide) entM_3 rfl hi (he ▸ zmu_3) hd kk
theorem zma_3 (hC : zC X cc own Ts vwCl (zty κ) E nL rm) (hd : decode cc pc = .ok (.arraylength, 1)) (kk : zV X cells slots (zwM κ ad M) lv (.int (24 : Int32) :: st) (pc + 1)) : zV X cells slots (zwM κ ad M) lv (.ref (ad 3) :: st) pc := zr_alen hC 3 0 (by decide) entM_3 rfl (show Int32.ofNat 24 = (24 : Int32) by decide) hd kk
theorem entM_4 {κ : Nat → ClassId} {ad : Nat → Nat} {M : zM} : entM κ ad M 4 = .inl (κ 0, 24, .inl (M.1 4)) := rfl
theorem zml_4 {i : Int32} (hC : zC X cc own Ts vwCl (zty κ) E nL rm) (hi : ¬ (i < 0 ∨ 24 ≤ i.toNatClampNeg)) (hd : decode cc pc = .ok (.iaload, 1)) (kk : zV X cells slots (zwM κ ad M) lv (.int (M.1 4 i.toNatClampNeg) :: st) (pc + 1)) : zV X cells slots (zwM κ ad M) lv (.int i :: .ref (ad 4) :: st) pc := zr_iald hC 4 0 (by decide) entM_4 rfl hi hd kk
theorem zmu_4 {k : Nat} {v : Int32} : ∀ i, (if i = 4 then .inl (κ 0, 24, .inl (upd (M.1 4) k v)) else entM κ ad M i) = entM κ ad (zsi M 4 k v) i := by
  intro i
  by_cases h : i = 4
  · subst h; rfl
  · rw [if_neg h]; exact entM_loc (by simp [zsi, h]) (by rfl)
theorem zms_4 {i : Int32} {v : Int32} (hC : zC X cc own Ts vwCl (zty κ) E nL rm) (hi : ¬ (i < 0 ∨ 24 ≤ i.toNatClampNeg)) (he : zsi M 4 i.toNatClampNeg v = M') (hd : decode cc pc = .ok (.iastore, 1)) (kk : zV X cells slots (zwM κ ad M') lv st (pc + 1)) : zV X cells slots (zwM κ ad M) lv (.int v :: .int i :: .ref (ad 4) :: st) pc := zr_iast hC 4 0 (by decide) entM_4 rfl hi (he ▸ zmu_4) hd kk
theorem zma_4 (hC : zC X cc own Ts vwCl (zty κ) E nL rm) (hd : decode cc pc = .ok (.arraylength, 1)) (kk : zV X cells slots (zwM κ ad M) lv (.int (24 : Int32) :: st) (pc + 1)) : zV X cells slots (zwM κ ad M) lv (.ref (ad 4) :: st) pc := zr_alen hC 4 0 (by decide) entM_4 rfl (show Int32.ofNat 24 = (24 : Int32) by decide) hd kk
theorem entM_5 {κ : Nat → ClassId} {ad : Nat → Nat} {M : zM} : entM κ ad M 5 = .inl (κ 0, 24, .inl (M.1 5)) := rfl
theorem zml_5 {i : Int32} (hC : zC X cc own Ts vwCl (zty κ) E nL rm) (hi : ¬ (i < 0 ∨ 24 ≤ i.toNatClampNeg)) (hd : decode cc pc = .ok (.iaload, 1)) (kk : zV X cells slots (zwM κ ad M) lv (.int (M.1 5 i.toNatClampNeg) :: st) (pc + 1)) : zV X cells slots (zwM κ ad M) lv (.int i :: .ref (ad 5) :: st) pc := zr_iald hC 5 0 (by decide) entM_5 rfl hi hd kk
theorem zmu_5 {k : Nat} {v : Int32} : ∀ i, (if i = 5 then .inl (κ 0, 24, .inl (upd (M.1 5) k v)) else entM κ ad M i) = entM κ ad (zsi M 5 k v) i := by
  intro i
  by_cases h : i = 5
  · subst h; rfl
  · rw [if_neg h]; exact entM_loc (by simp [zsi, h]) (by rfl)
theorem zms_5 {i : Int32} {v : Int32} (hC : zC X cc own Ts vwCl (zty κ) E nL rm) (hi : ¬ (i < 0 ∨ 24 ≤ i.toNatClampNeg)) (he : zsi M 5 i.toNatClampNeg v = M') (hd : decode cc pc = .ok (.iastore, 1)) (kk : zV X cells slots (zwM κ ad M') lv st (pc + 1)) : zV X cells slots (zwM κ ad M) lv (.int v :: .int i :: .ref (ad 5) :: st) pc := zr_iast hC 5 0 (by decide) entM_5 rfl hi (he ▸ zmu_5) hd kk
theorem zma_5 (hC : zC X cc own Ts vwCl (zty κ) E nL rm) (hd : decode cc pc = .ok (.arraylength, 1)) (kk : zV X cells slots (zwM κ ad M) lv (.int (24 : Int32) :: st) (pc + 1)) : zV X cells slots (zwM κ ad M) lv (.ref (ad 5) :: st) pc := zr_alen hC 5 0 (by decide) entM_5 rfl (show Int32.ofNat 24 = (24 : Int32) by decide) hd kk
theorem entM_6 {κ : Nat → ClassId} {ad : Nat → Nat} {M : zM} : entM κ ad M 6 = .inl (κ 0, 4, .inl (M.1 6)) := rfl
theorem zml_6 {i : Int32} (hC : zC X cc own Ts vwCl (zty κ) E nL rm) (hi : ¬ (i < 0 ∨ 4 ≤ i.toNatClampNeg)) (hd : decode cc pc = .ok (.iaload, 1)) (kk : zV X cells slots (zwM κ ad M) lv (.int (M.1 6 i.toNatClampNeg) :: st) (pc + 1)) : zV X cells slots (zwM κ ad M) lv (.int i :: .ref (ad 6) :: st) pc := zr_iald hC 6 0 (by decide) entM_6 rfl hi hd kk
theorem zmu_6 {k : Nat} {v : Int32} : ∀ i, (if i = 6 then .inl (κ 0, 4, .inl (upd (M.1 6) k v)) else entM κ ad M i) = entM κ ad (zsi M 6 k v) i := by
  intro i
  by_cases h : i = 6
  · subst h; rfl
  · rw [if_neg h]; exact entM_loc (by simp [zsi, h]) (by rfl)
theorem zms_6 {i : Int32} {v : Int32} (hC : zC X cc own Ts vwCl (zty κ) E nL rm) (hi : ¬ (i < 0 ∨ 4 ≤ i.toNatClampNeg)) (he : zsi M 6 i.toNatClampNeg v = M') (hd : decode cc pc = .ok (.iastore, 1)) (kk : zV X cells slots (zwM κ ad M') lv st (pc + 1)) : zV X cells slots (zwM κ ad M) lv (.int v :: .int i :: .ref (ad 6) :: st) pc := zr_iast hC 6 0 (by decide) entM_6 rfl hi (he ▸ zmu_6) hd kk
theorem zma_6 (hC : zC X cc own Ts vwCl (zty κ) E nL rm) (hd : decode cc pc = .ok (.arraylength, 1)) (kk : zV X cells slots (zwM κ ad M) lv (.int (4 : Int32) :: st) (pc + 1)) : zV X cells slots (zwM κ ad M) lv (.ref (ad 6) :: st) pc := zr_alen hC 6 0 (by decide) entM_6 rfl (show Int32.ofNat 4 = (4 : Int32) by decide) hd kk
theorem entM_7 {κ : Nat → ClassId} {ad : Nat → Nat} {M : zM} : entM κ ad M 7 = .inl (κ 0, 4, .inl (M.1 7)) := rfl
theorem zml_7 {i : Int32} (hC : zC X cc own Ts vwCl (zty κ) E nL rm) (hi : ¬ (i < 0 ∨ 4 ≤ i.toNatClampNeg)) (hd : decode cc pc = .ok (.iaload, 1)) (kk : zV X cells slots (zwM κ ad M) lv (.int (M.1 7 i.toNatClampNeg) :: st) (pc + 1)) : zV X cells slots (zwM κ ad M) lv (.int i :: .ref (ad 7) :: st) pc := zr_iald hC 7 0 (by decide) entM_7 rfl hi hd kk
theorem zmu_7 {k : Nat} {v : Int32} : ∀ i, (if i = 7 then .inl (κ 0, 4, .inl (upd (M.1 7) k v)) else entM κ ad M i) = entM κ ad (zsi M 7 k v) i := by
  intro i
  by_cases h : i = 7
  · subst h; rfl
  · rw [if_neg h]; exact entM_loc (by simp [zsi, h]) (by rfl)
theorem zms_7 {i : Int32} {v : Int32} (hC : zC X cc own Ts vwCl (zty κ) E nL rm) (hi : ¬ (i < 0 ∨ 4 ≤ i.toNatClampNeg)) (he : zsi M 7 i.toNatClampNeg v = M') (hd : decode cc pc = .ok (.iastore, 1)) (kk : zV X cells slots (zwM κ ad M') lv st (pc + 1)) : zV X cells slots (zwM κ ad M) lv (.int v :: .int i :: .ref (ad 7) :: st) pc := zr_iast hC 7 0 (by decide) entM_7 rfl hi (he ▸ zmu_7) hd kk
theorem zma_7 (hC : zC X cc own Ts vwCl (zty κ) E nL rm) (hd : decode cc pc = .ok (.arraylength, 1)) (kk : zV X cells slots (zwM κ ad M) lv (.int (4 : Int32) :: st) (pc + 1)) : zV X cells slots (zwM κ ad M) lv (.ref (ad 7) :: st) pc := zr_alen hC 7 0 (by decide) entM_7 rfl (show Int32.ofNat 4 = (4 : Int32) by decide) hd kk
theorem entM_8 {κ : Nat → ClassId} {ad : Nat → Nat} {M : zM} : entM κ ad M 8 = .inl (κ 0, 4, .inl (M.1 8)) := rfl
theorem zml_8 {i : Int32} (hC : zC X cc own Ts vwCl (zty κ) E nL rm) (hi : ¬ (i < 0 ∨ 4 ≤ i.toNatClampNeg)) (hd : decode cc pc = .ok (.iaload, 1)) (kk : zV X cells slots (zwM κ ad M) lv (.int (M.1 8 i.toNatClampNeg) :: st) (pc + 1)) : zV X cells slots (zwM κ ad M) lv (.int i :: .ref (ad 8) :: st) pc := zr_iald hC 8 0 (by decide) entM_8 rfl hi hd kk
theorem zmu_8 {k : Nat} {v : Int32} : ∀ i, (if i = 8 then .inl (κ 0, 4, .inl (upd (M.1 8) k v)) else entM κ ad M i) = entM κ ad (zsi M 8 k v) i := by
  intro i
  by_cases h : i = 8
  · subst h; rfl
  · rw [if_neg h]; exact entM_loc (by simp [zsi, h]) (by rfl)
theorem zms_8 {i : Int32} {v : Int32} (hC : zC X cc own Ts vwCl (zty κ) E nL rm) (hi : ¬ (i < 0 ∨ 4 ≤ i.toNatClampNeg)) (he : zsi M 8 i.toNatClampNeg v = M') (hd : decode cc pc = .ok (.iastore, 1)) (kk : zV X cells slots (zwM κ ad M') lv st (pc + 1)) : zV X cells slots (zwM κ ad M) lv (.int v :: .int i :: .ref (ad 8) :: st) pc := zr_iast hC 8 0 (by decide) entM_8 rfl hi (he ▸ zmu_8) hd kk
theorem zma_8 (hC : zC X cc own Ts vwCl (zty κ) E nL rm) (hd : decode cc pc = .ok (.arraylength, 1)) (kk : zV X cells slots (zwM κ ad M) lv (.int (4 : Int32) :: st) (pc + 1)) : zV X cells slots (zwM κ ad M) lv (.ref (ad 8) :: st) pc := zr_alen hC 8 0 (by decide) entM_8 rfl (show Int32.ofNat 4 = (4 : Int32) by decide) hd kk
theorem entM_9 {κ : Nat → ClassId} {ad : Nat → Nat} {M : zM} : entM κ ad M 9 = .inl (κ 0, 4, .inl (M.1 9)) := rfl
theorem zml_9 {i : Int32} (hC : zC X cc own Ts vwCl (zty κ) E nL rm) (hi : ¬ (i < 0 ∨ 4 ≤ i.toNatClampNeg)) (hd : decode cc pc = .ok (.iaload, 1)) (kk : zV X cells slots (zwM κ ad M) lv (.int (M.1 9 i.toNatClampNeg) :: st) (pc + 1)) : zV X cells slots (zwM κ ad M) lv (.int i :: .ref (ad 9) :: st) pc := zr_iald hC 9 0 (by decide) entM_9 rfl hi hd kk
theorem zmu_9 {k : Nat} {v : Int32} : ∀ i, (if i = 9 then .inl (κ 0, 4, .inl (upd (M.1 9) k v)) else entM κ ad M i) = entM κ ad (zsi M 9 k v) i := by
  intro i
  by_cases h : i = 9
  · subst h; rfl
  · rw [if_neg h]; exact entM_loc (by simp [zsi, h]) (by rfl)
theorem zms_9 {i : Int32} {v : Int32} (hC : zC X cc own Ts vwCl (zty κ) E nL rm) (hi : ¬ (i < 0 ∨ 4 ≤ i.toNatClampNeg)) (he : zsi M 9 i.toNatClampNeg v = M') (hd : decode cc pc = .ok (.iastore, 1)) (kk : zV X cells slots (zwM κ ad M') lv st (pc + 1)) : zV X cells slots (zwM κ ad M) lv (.int v :: .int i :: .ref (ad 9) :: st) pc := zr_iast hC 9 0 (by decide) entM_9 rfl hi (he ▸ zmu_9) hd kk
theorem zma_9 (hC : zC X cc own Ts vwCl (zty κ) E nL rm) (hd : decode cc pc = .ok (.arraylength, 1)) (kk : zV X cells slots (zwM κ ad M) lv (.int (4 : Int32) :: st) (pc + 1)) : zV X cells slots (zwM κ ad M) lv (.ref (ad 9) :: st) pc := zr_alen hC 9 0 (by decide) entM_9 rfl (show Int32.ofNat 4 = (4 : Int32) by decide) hd kk
theorem entM_10 {κ : Nat → ClassId} {ad : Nat → Nat} {M : zM} : entM κ ad M 10 = .inl (κ 0, 4, .inl (M.1 10)) := rfl
theorem zml_10 {i : Int32} (hC : zC X cc own Ts vwCl (zty κ) E nL rm) (hi : ¬ (i < 0 ∨ 4 ≤ i.toNatClampNeg)) (hd : decode cc pc = .ok (.iaload, 1)) (kk : zV X cells slots (zwM κ ad M) lv (.int (M.1 10 i.toNatClampNeg) :: st) (pc + 1)) : zV X cells slots (zwM κ ad M) lv (.int i :: .ref (ad 10) :: st) pc := zr_iald hC 10 0 (by decide) entM_10 rfl hi hd kk
theorem zmu_10 {k : Nat} {v : Int32} : ∀ i, (if i = 10 then .inl (κ 0, 4, .inl (upd (M.1 10) k v)) else entM κ ad M i) = entM κ ad (zsi M 10 k v) i := by
  intro i
  by_cases h : i = 10
  · subst h; rfl
  · rw [if_neg h]; exact entM_loc (by simp [zsi, h]) (by rfl)
theorem zms_10 {i : Int32} {v : Int32} (hC : zC X cc own Ts vwCl (zty κ) E nL rm) (hi : ¬ (i < 0 ∨ 4 ≤ i.toNatClampNeg)) (he : zsi M 10 i.toNatClampNeg v = M') (hd : decode cc pc = .ok (.iastore, 1)) (kk : zV X cells slots (zwM κ ad M') lv st (pc + 1)) : zV X cells slots (zwM κ ad M) lv (.int v :: .int i :: .ref (ad 10) :: st) pc := zr_iast hC 10 0 (by decide) entM_10 rfl hi (he ▸ zmu_10) hd kk
theorem zma_10 (hC : zC X cc own Ts vwCl (zty κ) E nL rm) (hd : decode cc pc = .ok (.arraylength, 1)) (kk : zV X cells slots (zwM κ ad M) lv (.int (4 : Int32) :: st) (pc + 1)) : zV X cells slots (zwM κ ad M) lv (.ref (ad 10) :: st) pc := zr_alen hC 10 0 (by decide) entM_10 rfl (show Int32.ofNat 4 = (4 : Int32) by decide) hd kk
theorem entM_11 {κ : Nat → ClassId} {ad : Nat → Nat} {M : zM} : entM κ ad M 11 = .inl (κ 0, 4, .inl (M.1 11)) := rfl
theorem zml_11 {i : Int32} (hC : zC X cc own Ts vwCl (zty κ) E nL rm) (hi : ¬ (i < 0 ∨ 4 ≤ i.toNatClampNeg)) (hd : decode cc pc = .ok (.iaload, 1)) (kk : zV X cells slots (zwM κ ad M) lv (.int (M.1 11 i.toNatClampNeg) :: st) (pc + 1)) : zV X cells slots (zwM κ ad M) lv (.int i :: .ref (ad 11) :: st) pc := zr_iald hC 11 0 (by decide) entM_11 rfl hi hd kk
theorem zmu_11 {k : Nat} {v : Int32} : ∀ i, (if i = 11 then .inl (κ 0, 4, .inl (upd (M.1 11) k v)) else entM κ ad M i) = entM κ ad (zsi M 11 k v) i := by
  intro i
  by_cases h : i = 11
  · subst h; rfl
  · rw [if_neg h]; exact entM_loc (by simp [zsi, h]) (by rfl)
theorem zms_11 {i : Int32} {v : Int32} (hC : zC X cc own Ts vwCl (zty κ) E nL rm) (hi : ¬ (i < 0 ∨ 4 ≤ i.toNatClampNeg)) (he : zsi M 11 i.toNatClampNeg v = M') (hd : decode cc pc = .ok (.iastore, 1)) (kk : zV X cells slots (zwM κ ad M') lv st (pc + 1)) : zV X cells slots (zwM κ ad M) lv (.int v :: .int i :: .ref (ad 11) :: st) pc := zr_iast hC 11 0 (by decide) entM_11 rfl hi (he ▸ zmu_11) hd kk
theorem zma_11 (hC : zC X cc own Ts vwCl (zty κ) E nL rm) (hd : decode cc pc = .ok (.arraylength, 1)) (kk : zV X cells slots (zwM κ ad M) lv (.int (4 : Int32) :: st) (pc + 1)) : zV X cells slots (zwM κ ad M) lv (.ref (ad 11) :: st) pc := zr_alen hC 11 0 (by decide) entM_11 rfl (show Int32.ofNat 4 = (4 : Int32) by decide) hd kk
theorem entM_12 {κ : Nat → ClassId} {ad : Nat → Nat} {M : zM} : entM κ ad M 12 = .inl (κ 0, 4, .inl (M.1 12)) := rfl
theorem zml_12 {i : Int32} (hC : zC X cc own Ts vwCl (zty κ) E nL rm) (hi : ¬ (i < 0 ∨ 4 ≤ i.toNatClampNeg)) (hd : decode cc pc = .ok (.iaload, 1)) (kk : zV X cells slots (zwM κ ad M) lv (.int (M.1 12 i.toNatClampNeg) :: st) (pc + 1)) : zV X cells slots (zwM κ ad M) lv (.int i :: .ref (ad 12) :: st) pc := zr_iald hC 12 0 (by decide) entM_12 rfl hi hd kk
theorem zmu_12 {k : Nat} {v : Int32} : ∀ i, (if i = 12 then .inl (κ 0, 4, .inl (upd (M.1 12) k v)) else entM κ ad M i) = entM κ ad (zsi M 12 k v) i := by
  intro i
  by_cases h : i = 12
  · subst h; rfl
  · rw [if_neg h]; exact entM_loc (by simp [zsi, h]) (by rfl)
theorem zms_12 {i : Int32} {v : Int32} (hC : zC X cc own Ts vwCl (zty κ) E nL rm) (hi : ¬ (i < 0 ∨ 4 ≤ i.toNatClampNeg)) (he : zsi M 12 i.toNatClampNeg v = M') (hd : decode cc pc = .ok (.iastore, 1)) (kk : zV X cells slots (zwM κ ad M') lv st (pc + 1)) : zV X cells slots (zwM κ ad M) lv (.int v :: .int i :: .ref (ad 12) :: st) pc := zr_iast hC 12 0 (by decide) entM_12 rfl hi (he ▸ zmu_12) hd kk
theorem zma_12 (hC : zC X cc own Ts vwCl (zty κ) E nL rm) (hd : decode cc pc = .ok (.arraylength, 1)) (kk : zV X cells slots (zwM κ ad M) lv (.int (4 : Int32) :: st) (pc + 1)) : zV X cells slots (zwM κ ad M) lv (.ref (ad 12) :: st) pc := zr_alen hC 12 0 (by decide) entM_12 rfl (show Int32.ofNat 4 = (4 : Int32) by decide) hd kk
theorem entM_13 {κ : Nat → ClassId} {ad : Nat → Nat} {M : zM} : entM κ ad M 13 = .inl (κ 0, 64, .inl (M.1 13)) := rfl
theorem zml_13 {i : Int32} (hC : zC X cc own Ts vwCl (zty κ) E nL rm) (hi : ¬ (i < 0 ∨ 64 ≤ i.toNatClampNeg)) (hd : decode cc pc = .ok (.iaload, 1)) (kk : zV X cells slots (zwM κ ad M) lv (.int (M.1 13 i.toNatClampNeg) :: st) (pc + 1)) : zV X cells slots (zwM κ ad M) lv (.int i :: .ref (ad 13) :: st) pc := zr_iald hC 13 0 (by decide) entM_13 rfl hi hd kk
theorem zmu_13 {k : Nat} {v : Int32} : ∀ i, (if i = 13 then .inl (κ 0, 64, .inl (upd (M.1 13) k v)) else entM κ ad M i) = entM κ ad (zsi M 13 k v) i := by
  intro i
  by_cases h : i = 13
  · subst h; rfl
  · rw [if_neg h]; exact entM_loc (by simp [zsi, h]) (by rfl)
theorem zms_13 {i : Int32} {v : Int32} (hC : zC X cc own Ts vwCl (zty κ) E nL rm) (hi : ¬ (i < 0 ∨ 64 ≤ i.toNatClampNeg)) (he : zsi M 13 i.toNatClampNeg v = M') (hd : decode cc pc = .ok (.iastore, 1)) (kk : zV X cells slots (zwM κ ad M') lv st (pc + 1)) : zV X cells slots (zwM κ ad M) lv (.int v :: .int i :: .ref (ad 13) :: st) pc := zr_iast hC 13 0 (by decide) entM_13 rfl hi (he ▸ zmu_13) hd kk
theorem zma_13 (hC : zC X cc own Ts vwCl (zty κ) E nL rm) (hd : decode cc pc = .ok (.arraylength, 1)) (kk : zV X cells slots (zwM κ ad M) lv (.int (64 : Int32) :: st) (pc + 1)) : zV X cells slots (zwM κ ad M) lv (.ref (ad 13) :: st) pc := zr_alen hC 13 0 (by decide) entM_13 rfl (show Int32.ofNat 64 = (64 : Int32) by decide) hd kk
theorem entM_14 {κ : Nat → ClassId} {ad : Nat → Nat} {M : zM} : entM κ ad M 14 = .inl (κ 0, 32, .inl (M.1 14)) := rfl
theorem zml_14 {i : Int32} (hC : zC X cc own Ts vwCl (zty κ) E nL rm) (hi : ¬ (i < 0 ∨ 32 ≤ i.toNatClampNeg)) (hd : decode cc pc = .ok (.iaload, 1)) (kk : zV X cells slots (zwM κ ad M) lv (.int (M.1 14 i.toNatClampNeg) :: st) (pc + 1)) : zV X cells slots (zwM κ ad M) lv (.int i :: .ref (ad 14) :: st) pc := zr_iald hC 14 0 (by decide) entM_14 rfl hi hd kk
theorem zmu_14 {k : Nat} {v : Int32} : ∀ i, (if i = 14 then .inl (κ 0, 32, .inl (upd (M.1 14) k v)) else entM κ ad M i) = entM κ ad (zsi M 14 k v) i := by
  intro i
  by_cases h : i = 14
  · subst h; rfl
  · rw [if_neg h]; exact entM_loc (by simp [zsi, h]) (by rfl)
theorem zms_14 {i : Int32} {v : Int32} (hC : zC X cc own Ts vwCl (zty κ) E nL rm) (hi : ¬ (i < 0 ∨ 32 ≤ i.toNatClampNeg)) (he : zsi M 14 i.toNatClampNeg v = M') (hd : decode cc pc = .ok (.iastore, 1)) (kk : zV X cells slots (zwM κ ad M') lv st (pc + 1)) : zV X cells slots (zwM κ ad M) lv (.int v :: .int i :: .ref (ad 14) :: st) pc := zr_iast hC 14 0 (by decide) entM_14 rfl hi (he ▸ zmu_14) hd kk
theorem zma_14 (hC : zC X cc own Ts vwCl (zty κ) E nL rm) (hd : decode cc pc = .ok (.arraylength, 1)) (kk : zV X cells slots (zwM κ ad M) lv (.int (32 : Int32) :: st) (pc + 1)) : zV X cells slots (zwM κ ad M) lv (.ref (ad 14) :: st) pc := zr_alen hC 14 0 (by decide) entM_14 rfl (show Int32.ofNat 32 = (32 : Int32) by decide) hd kk
theorem entM_15 {κ : Nat → ClassId} {ad : Nat → Nat} {M : zM} : entM κ ad M 15 = .inl (κ 0, 32, .inl (M.1 15)) := rfl
theorem zml_15 {i : Int32} (hC : zC X cc own Ts vwCl (zty κ) E nL rm) (hi : ¬ (i < 0 ∨ 32 ≤ i.toNatClampNeg)) (hd : decode cc pc = .ok (.iaload, 1)) (kk : zV X cells slots (zwM κ ad M) lv (.int (M.1 15 i.toNatClampNeg) :: st) (pc + 1)) : zV X cells slots (zwM κ ad M) lv (.int i :: .ref (ad 15) :: st) pc := zr_iald hC 15 0 (by decide) entM_15 rfl hi hd kk
theorem zmu_15 {k : Nat} {v : Int32} : ∀ i, (if i = 15 then .inl (κ 0, 32, .inl (upd (M.1 15) k v)) else entM κ ad M i) = entM κ ad (zsi M 15 k v) i := by
  intro i
  by_cases h : i = 15
  · subst h; rfl
  · rw [if_neg h]; exact entM_loc (by simp [zsi, h]) (by rfl)
theorem zms_15 {i : Int32} {v : Int32} (hC : zC X cc own Ts vwCl (zty κ) E nL rm) (hi : ¬ (i < 0 ∨ 32 ≤ i.toNatClampNeg)) (he : zsi M 15 i.toNatClampNeg v = M') (hd : decode cc pc = .ok (.iastore, 1)) (kk : zV X cells slots (zwM κ ad M') lv st (pc + 1)) : zV X cells slots (zwM κ ad M) lv (.int v :: .int i :: .ref (ad 15) :: st) pc := zr_iast hC 15 0 (by decide) entM_15 rfl hi (he ▸ zmu_15) hd kk
theorem zma_15 (hC : zC X cc own Ts vwCl (zty κ) E nL rm) (hd : decode cc pc = .ok (.arraylength, 1)) (kk : zV X cells slots (zwM κ ad M) lv (.int (32 : Int32) :: st) (pc + 1)) : zV X cells slots (zwM κ ad M) lv (.ref (ad 15) :: st) pc := zr_alen hC 15 0 (by decide) entM_15 rfl (show Int32.ofNat 32 = (32 : Int32) by decide) hd kk
theorem entM_16 {κ : Nat → ClassId} {ad : Nat → Nat} {M : zM} : entM κ ad M 16 = .inl (κ 0, 32, .inl (M.1 16)) := rfl
theorem zml_16 {i : Int32} (hC : zC X cc own Ts vwCl (zty κ) E nL rm) (hi : ¬ (i < 0 ∨ 32 ≤ i.toNatClampNeg)) (hd : decode cc pc = .ok (.iaload, 1)) (kk : zV X cells slots (zwM κ ad M) lv (.int (M.1 16 i.toNatClampNeg) :: st) (pc + 1)) : zV X cells slots (zwM κ ad M) lv (.int i :: .ref (ad 16) :: st) pc := zr_iald hC 16 0 (by decide) entM_16 rfl hi hd kk
theorem zmu_16 {k : Nat} {v : Int32} : ∀ i, (if i = 16 then .inl (κ 0, 32, .inl (upd (M.1 16) k v)) else entM κ ad M i) = entM κ ad (zsi M 16 k v) i := by
  intro i
  by_cases h : i = 16
  · subst h; rfl
  · rw [if_neg h]; exact entM_loc (by simp [zsi, h]) (by rfl)
theorem zms_16 {i : Int32} {v : Int32} (hC : zC X cc own Ts vwCl (zty κ) E nL rm) (hi : ¬ (i < 0 ∨ 32 ≤ i.toNatClampNeg)) (he : zsi M 16 i.toNatClampNeg v = M') (hd : decode cc pc = .ok (.iastore, 1)) (kk : zV X cells slots (zwM κ ad M') lv st (pc + 1)) : zV X cells slots (zwM κ ad M) lv (.int v :: .int i :: .ref (ad 16) :: st) pc := zr_iast hC 16 0 (by decide) entM_16 rfl hi (he ▸ zmu_16) hd kk
theorem zma_16 (hC : zC X cc own Ts vwCl (zty κ) E nL rm) (hd : decode cc pc = .ok (.arraylength, 1)) (kk : zV X cells slots (zwM κ ad M) lv (.int (32 : Int32) :: st) (pc + 1)) : zV X cells slots (zwM κ ad M) lv (.ref (ad 16) :: st) pc := zr_alen hC 16 0 (by decide) entM_16 rfl (show Int32.ofNat 32 = (32 : Int32) by decide) hd kk
theorem entM_17 {κ : Nat → ClassId} {ad : Nat → Nat} {M : zM} : entM κ ad M 17 = .inl (κ 0, 32, .inl (M.1 17)) := rfl
theorem zml_17 {i : Int32} (hC : zC X cc own Ts vwCl (zty κ) E nL rm) (hi : ¬ (i < 0 ∨ 32 ≤ i.toNatClampNeg)) (hd : decode cc pc = .ok (.iaload, 1)) (kk : zV X cells slots (zwM κ ad M) lv (.int (M.1 17 i.toNatClampNeg) :: st) (pc + 1)) : zV X cells slots (zwM κ ad M) lv (.int i :: .ref (ad 17) :: st) pc := zr_iald hC 17 0 (by decide) entM_17 rfl hi hd kk
theorem zmu_17 {k : Nat} {v : Int32} : ∀ i, (if i = 17 then .inl (κ 0, 32, .inl (upd (M.1 17) k v)) else entM κ ad M i) = entM κ ad (zsi M 17 k v) i := by
  intro i
  by_cases h : i = 17
  · subst h; rfl
  · rw [if_neg h]; exact entM_loc (by simp [zsi, h]) (by rfl)
theorem zms_17 {i : Int32} {v : Int32} (hC : zC X cc own Ts vwCl (zty κ) E nL rm) (hi : ¬ (i < 0 ∨ 32 ≤ i.toNatClampNeg)) (he : zsi M 17 i.toNatClampNeg v = M') (hd : decode cc pc = .ok (.iastore, 1)) (kk : zV X cells slots (zwM κ ad M') lv st (pc + 1)) : zV X cells slots (zwM κ ad M) lv (.int v :: .int i :: .ref (ad 17) :: st) pc := zr_iast hC 17 0 (by decide) entM_17 rfl hi (he ▸ zmu_17) hd kk
theorem zma_17 (hC : zC X cc own Ts vwCl (zty κ) E nL rm) (hd : decode cc pc = .ok (.arraylength, 1)) (kk : zV X cells slots (zwM κ ad M) lv (.int (32 : Int32) :: st) (pc + 1)) : zV X cells slots (zwM κ ad M) lv (.ref (ad 17) :: st) pc := zr_alen hC 17 0 (by decide) entM_17 rfl (show Int32.ofNat 32 = (32 : Int32) by decide) hd kk
theorem entM_18 {κ : Nat → ClassId} {ad : Nat → Nat} {M : zM} : entM κ ad M 18 = .inl (κ 0, 32, .inl (M.1 18)) := rfl
theorem zml_18 {i : Int32} (hC : zC X cc own Ts vwCl (zty κ) E nL rm) (hi : ¬ (i < 0 ∨ 32 ≤ i.toNatClampNeg)) (hd : decode cc pc = .ok (.iaload, 1)) (kk : zV X cells slots (zwM κ ad M) lv (.int (M.1 18 i.toNatClampNeg) :: st) (pc + 1)) : zV X cells slots (zwM κ ad M) lv (.int i :: .ref (ad 18) :: st) pc := zr_iald hC 18 0 (by decide) entM_18 rfl hi hd kk
theorem zmu_18 {k : Nat} {v : Int32} : ∀ i, (if i = 18 then .inl (κ 0, 32, .inl (upd (M.1 18) k v)) else entM κ ad M i) = entM κ ad (zsi M 18 k v) i := by
  intro i
  by_cases h : i = 18
  · subst h; rfl
  · rw [if_neg h]; exact entM_loc (by simp [zsi, h]) (by rfl)
theorem zms_18 {i : Int32} {v : Int32} (hC : zC X cc own Ts vwCl (zty κ) E nL rm) (hi : ¬ (i < 0 ∨ 32 ≤ i.toNatClampNeg)) (he : zsi M 18 i.toNatClampNeg v = M') (hd : decode cc pc = .ok (.iastore, 1)) (kk : zV X cells slots (zwM κ ad M') lv st (pc + 1)) : zV X cells slots (zwM κ ad M) lv (.int v :: .int i :: .ref (ad 18) :: st) pc := zr_iast hC 18 0 (by decide) entM_18 rfl hi (he ▸ zmu_18) hd kk
theorem zma_18 (hC : zC X cc own Ts vwCl (zty κ) E nL rm) (hd : decode cc pc = .ok (.arraylength, 1)) (kk : zV X cells slots (zwM κ ad M) lv (.int (32 : Int32) :: st) (pc + 1)) : zV X cells slots (zwM κ ad M) lv (.ref (ad 18) :: st) pc := zr_alen hC 18 0 (by decide) entM_18 rfl (show Int32.ofNat 32 = (32 : Int32) by decide) hd kk
theorem entM_19 {κ : Nat → ClassId} {ad : Nat → Nat} {M : zM} : entM κ ad M 19 = .inl (κ 0, 32, .inl (M.1 19)) := rfl
theorem zml_19 {i : Int32} (hC : zC X cc own Ts vwCl (zty κ) E nL rm) (hi : ¬ (i < 0 ∨ 32 ≤ i.toNatClampNeg)) (hd : decode cc pc = .ok (.iaload, 1)) (kk : zV X cells slots (zwM κ ad M) lv (.int (M.1 19 i.toNatClampNeg) :: st) (pc + 1)) : zV X cells slots (zwM κ ad M) lv (.int i :: .ref (ad 19) :: st) pc := zr_iald hC 19 0 (by decide) entM_19 rfl hi hd kk
theorem zmu_19 {k : Nat} {v : Int32} : ∀ i, (if i = 19 then .inl (κ 0, 32, .inl (upd (M.1 19) k v)) else entM κ ad M i) = entM κ ad (zsi M 19 k v) i := by
  intro i
  by_cases h : i = 19
  · subst h; rfl
  · rw [if_neg h]; exact entM_loc (by simp [zsi, h]) (by rfl)
theorem zms_19 {i : Int32} {v : Int32} (hC : zC X cc own Ts vwCl (zty κ) E nL rm) (hi : ¬ (i < 0 ∨ 32 ≤ i.toNatClampNeg)) (he : zsi M 19 i.toNatClampNeg v = M') (hd : decode cc pc = .ok (.iastore, 1)) (kk : zV X cells slots (zwM κ ad M') lv st (pc + 1)) : zV X cells slots (zwM κ ad M) lv (.int v :: .int i :: .ref (ad 19) :: st) pc := zr_iast hC 19 0 (by decide) entM_19 rfl hi (he ▸ zmu_19) hd kk
theorem zma_19 (hC : zC X cc own Ts vwCl (zty κ) E nL rm) (hd : decode cc pc = .ok (.arraylength, 1)) (kk : zV X cells slots (zwM κ ad M) lv (.int (32 : Int32) :: st) (pc + 1)) : zV X cells slots (zwM κ ad M) lv (.ref (ad 19) :: st) pc := zr_alen hC 19 0 (by decide) entM_19 rfl (show Int32.ofNat 32 = (32 : Int32) by decide) hd kk
theorem entM_20 {κ : Nat → ClassId} {ad : Nat → Nat} {M : zM} : entM κ ad M 20 = .inl (κ 1, 24, .inr (.inl (M.2 20))) := rfl
theorem zml_20 {i : Int32} (hC : zC X cc own Ts vwCl (zty κ) E nL rm) (hi : ¬ (i < 0 ∨ 24 ≤ i.toNatClampNeg)) (hd : decode cc pc = .ok (.laload, 1)) (kk : zV X cells slots (zwM κ ad M) lv (.long (M.2 20 i.toNatClampNeg) :: st) (pc + 1)) : zV X cells slots (zwM κ ad M) lv (.int i :: .ref (ad 20) :: st) pc := zr_lald hC 20 1 (by decide) entM_20 rfl hi hd kk
theorem zmu_20 {k : Nat} {v : Int64} : ∀ i, (if i = 20 then .inl (κ 1, 24, .inr (.inl (vp_updL (M.2 20) k v))) else entM κ ad M i) = entM κ ad (zsj M 20 k v) i := by
  intro i
  by_cases h : i = 20
  · subst h; rfl
  · rw [if_neg h]; exact entM_loc (by rfl) (by simp [zsj, h])
theorem zms_20 {i : Int32} {v : Int64} (hC : zC X cc own Ts vwCl (zty κ) E nL rm) (hi : ¬ (i < 0 ∨ 24 ≤ i.toNatClampNeg)) (he : zsj M 20 i.toNatClampNeg v = M') (hd : decode cc pc = .ok (.lastore, 1)) (kk : zV X cells slots (zwM κ ad M') lv st (pc + 1)) : zV X cells slots (zwM κ ad M) lv (.long v :: .int i :: .ref (ad 20) :: st) pc := zr_last hC 20 1 (by decide) entM_20 rfl hi (he ▸ zmu_20) hd kk
theorem zma_20 (hC : zC X cc own Ts vwCl (zty κ) E nL rm) (hd : decode cc pc = .ok (.arraylength, 1)) (kk : zV X cells slots (zwM κ ad M) lv (.int (24 : Int32) :: st) (pc + 1)) : zV X cells slots (zwM κ ad M) lv (.ref (ad 20) :: st) pc := zr_alen hC 20 1 (by decide) entM_20 rfl (show Int32.ofNat 24 = (24 : Int32) by decide) hd kk
theorem entM_21 {κ : Nat → ClassId} {ad : Nat → Nat} {M : zM} : entM κ ad M 21 = .inl (κ 1, 240, .inr (.inl (M.2 21))) := rfl
theorem zml_21 {i : Int32} (hC : zC X cc own Ts vwCl (zty κ) E nL rm) (hi : ¬ (i < 0 ∨ 240 ≤ i.toNatClampNeg)) (hd : decode cc pc = .ok (.laload, 1)) (kk : zV X cells slots (zwM κ ad M) lv (.long (M.2 21 i.toNatClampNeg) :: st) (pc + 1)) : zV X cells slots (zwM κ ad M) lv (.int i :: .ref (ad 21) :: st) pc := zr_lald hC 21 1 (by decide) entM_21 rfl hi hd kk
theorem zmu_21 {k : Nat} {v : Int64} : ∀ i, (if i = 21 then .inl (κ 1, 240, .inr (.inl (vp_updL (M.2 21) k v))) else entM κ ad M i) = entM κ ad (zsj M 21 k v) i := by
  intro i
  by_cases h : i = 21
  · subst h; rfl
  · rw [if_neg h]; exact entM_loc (by rfl) (by simp [zsj, h])
theorem zms_21 {i : Int32} {v : Int64} (hC : zC X cc own Ts vwCl (zty κ) E nL rm) (hi : ¬ (i < 0 ∨ 240 ≤ i.toNatClampNeg)) (he : zsj M 21 i.toNatClampNeg v = M') (hd : decode cc pc = .ok (.lastore, 1)) (kk : zV X cells slots (zwM κ ad M') lv st (pc + 1)) : zV X cells slots (zwM κ ad M) lv (.long v :: .int i :: .ref (ad 21) :: st) pc := zr_last hC 21 1 (by decide) entM_21 rfl hi (he ▸ zmu_21) hd kk
theorem zma_21 (hC : zC X cc own Ts vwCl (zty κ) E nL rm) (hd : decode cc pc = .ok (.arraylength, 1)) (kk : zV X cells slots (zwM κ ad M) lv (.int (240 : Int32) :: st) (pc + 1)) : zV X cells slots (zwM κ ad M) lv (.ref (ad 21) :: st) pc := zr_alen hC 21 1 (by decide) entM_21 rfl (show Int32.ofNat 240 = (240 : Int32) by decide) hd kk
theorem entM_22 {κ : Nat → ClassId} {ad : Nat → Nat} {M : zM} : entM κ ad M 22 = .inl (κ 0, 96, .inl (M.1 22)) := rfl
theorem zml_22 {i : Int32} (hC : zC X cc own Ts vwCl (zty κ) E nL rm) (hi : ¬ (i < 0 ∨ 96 ≤ i.toNatClampNeg)) (hd : decode cc pc = .ok (.iaload, 1)) (kk : zV X cells slots (zwM κ ad M) lv (.int (M.1 22 i.toNatClampNeg) :: st) (pc + 1)) : zV X cells slots (zwM κ ad M) lv (.int i :: .ref (ad 22) :: st) pc := zr_iald hC 22 0 (by decide) entM_22 rfl hi hd kk
theorem zmu_22 {k : Nat} {v : Int32} : ∀ i, (if i = 22 then .inl (κ 0, 96, .inl (upd (M.1 22) k v)) else entM κ ad M i) = entM κ ad (zsi M 22 k v) i := by
  intro i
  by_cases h : i = 22
  · subst h; rfl
  · rw [if_neg h]; exact entM_loc (by simp [zsi, h]) (by rfl)
theorem zms_22 {i : Int32} {v : Int32} (hC : zC X cc own Ts vwCl (zty κ) E nL rm) (hi : ¬ (i < 0 ∨ 96 ≤ i.toNatClampNeg)) (he : zsi M 22 i.toNatClampNeg v = M') (hd : decode cc pc = .ok (.iastore, 1)) (kk : zV X cells slots (zwM κ ad M') lv st (pc + 1)) : zV X cells slots (zwM κ ad M) lv (.int v :: .int i :: .ref (ad 22) :: st) pc := zr_iast hC 22 0 (by decide) entM_22 rfl hi (he ▸ zmu_22) hd kk
theorem zma_22 (hC : zC X cc own Ts vwCl (zty κ) E nL rm) (hd : decode cc pc = .ok (.arraylength, 1)) (kk : zV X cells slots (zwM κ ad M) lv (.int (96 : Int32) :: st) (pc + 1)) : zV X cells slots (zwM κ ad M) lv (.ref (ad 22) :: st) pc := zr_alen hC 22 0 (by decide) entM_22 rfl (show Int32.ofNat 96 = (96 : Int32) by decide) hd kk
theorem entM_23 {κ : Nat → ClassId} {ad : Nat → Nat} {M : zM} : entM κ ad M 23 = .inl (κ 0, 4, .inl (M.1 23)) := rfl
theorem zml_23 {i : Int32} (hC : zC X cc own Ts vwCl (zty κ) E nL rm) (hi : ¬ (i < 0 ∨ 4 ≤ i.toNatClampNeg)) (hd : decode cc pc = .ok (.iaload, 1)) (kk : zV X cells slots (zwM κ ad M) lv (.int (M.1 23 i.toNatClampNeg) :: st) (pc + 1)) : zV X cells slots (zwM κ ad M) lv (.int i :: .ref (ad 23) :: st) pc := zr_iald hC 23 0 (by decide) entM_23 rfl hi hd kk
theorem zmu_23 {k : Nat} {v : Int32} : ∀ i, (if i = 23 then .inl (κ 0, 4, .inl (upd (M.1 23) k v)) else entM κ ad M i) = entM κ ad (zsi M 23 k v) i := by
  intro i
  by_cases h : i = 23
  · subst h; rfl
  · rw [if_neg h]; exact entM_loc (by simp [zsi, h]) (by rfl)
theorem zms_23 {i : Int32} {v : Int32} (hC : zC X cc own Ts vwCl (zty κ) E nL rm) (hi : ¬ (i < 0 ∨ 4 ≤ i.toNatClampNeg)) (he : zsi M 23 i.toNatClampNeg v = M') (hd : decode cc pc = .ok (.iastore, 1)) (kk : zV X cells slots (zwM κ ad M') lv st (pc + 1)) : zV X cells slots (zwM κ ad M) lv (.int v :: .int i :: .ref (ad 23) :: st) pc := zr_iast hC 23 0 (by decide) entM_23 rfl hi (he ▸ zmu_23) hd kk
theorem zma_23 (hC : zC X cc own Ts vwCl (zty κ) E nL rm) (hd : decode cc pc = .ok (.arraylength, 1)) (kk : zV X cells slots (zwM κ ad M) lv (.int (4 : Int32) :: st) (pc + 1)) : zV X cells slots (zwM κ ad M) lv (.ref (ad 23) :: st) pc := zr_alen hC 23 0 (by decide) entM_23 rfl (show Int32.ofNat 4 = (4 : Int32) by decide) hd kk
theorem entM_24 {κ : Nat → ClassId} {ad : Nat → Nat} {M : zM} : entM κ ad M 24 = .inl (κ 0, 4, .inl (M.1 24)) := rfl
theorem zml_24 {i : Int32} (hC : zC X cc own Ts vwCl (zty κ) E nL rm) (hi : ¬ (i < 0 ∨ 4 ≤ i.toNatClampNeg)) (hd : decode cc pc = .ok (.iaload, 1)) (kk : zV X cells slots (zwM κ ad M) lv (.int (M.1 24 i.toNatClampNeg) :: st) (pc + 1)) : zV X cells slots (zwM κ ad M) lv (.int i :: .ref (ad 24) :: st) pc := zr_iald hC 24 0 (by decide) entM_24 rfl hi hd kk
theorem zmu_24 {k : Nat} {v : Int32} : ∀ i, (if i = 24 then .inl (κ 0, 4, .inl (upd (M.1 24) k v)) else entM κ ad M i) = entM κ ad (zsi M 24 k v) i := by
  intro i
  by_cases h : i = 24
  · subst h; rfl
  · rw [if_neg h]; exact entM_loc (by simp [zsi, h]) (by rfl)
theorem zms_24 {i : Int32} {v : Int32} (hC : zC X cc own Ts vwCl (zty κ) E nL rm) (hi : ¬ (i < 0 ∨ 4 ≤ i.toNatClampNeg)) (he : zsi M 24 i.toNatClampNeg v = M') (hd : decode cc pc = .ok (.iastore, 1)) (kk : zV X cells slots (zwM κ ad M') lv st (pc + 1)) : zV X cells slots (zwM κ ad M) lv (.int v :: .int i :: .ref (ad 24) :: st) pc := zr_iast hC 24 0 (by decide) entM_24 rfl hi (he ▸ zmu_24) hd kk
theorem zma_24 (hC : zC X cc own Ts vwCl (zty κ) E nL rm) (hd : decode cc pc = .ok (.arraylength, 1)) (kk : zV X cells slots (zwM κ ad M) lv (.int (4 : Int32) :: st) (pc + 1)) : zV X cells slots (zwM κ ad M) lv (.ref (ad 24) :: st) pc := zr_alen hC 24 0 (by decide) entM_24 rfl (show Int32.ofNat 4 = (4 : Int32) by decide) hd kk
theorem entM_25 {κ : Nat → ClassId} {ad : Nat → Nat} {M : zM} : entM κ ad M 25 = .inl (κ 1, 24, .inr (.inl (M.2 25))) := rfl
theorem zml_25 {i : Int32} (hC : zC X cc own Ts vwCl (zty κ) E nL rm) (hi : ¬ (i < 0 ∨ 24 ≤ i.toNatClampNeg)) (hd : decode cc pc = .ok (.laload, 1)) (kk : zV X cells slots (zwM κ ad M) lv (.long (M.2 25 i.toNatClampNeg) :: st) (pc + 1)) : zV X cells slots (zwM κ ad M) lv (.int i :: .ref (ad 25) :: st) pc := zr_lald hC 25 1 (by decide) entM_25 rfl hi hd kk
theorem zmu_25 {k : Nat} {v : Int64} : ∀ i, (if i = 25 then .inl (κ 1, 24, .inr (.inl (vp_updL (M.2 25) k v))) else entM κ ad M i) = entM κ ad (zsj M 25 k v) i := by
  intro i
  by_cases h : i = 25
  · subst h; rfl
  · rw [if_neg h]; exact entM_loc (by rfl) (by simp [zsj, h])
theorem zms_25 {i : Int32} {v : Int64} (hC : zC X cc own Ts vwCl (zty κ) E nL rm) (hi : ¬ (i < 0 ∨ 24 ≤ i.toNatClampNeg)) (he : zsj M 25 i.toNatClampNeg v = M') (hd : decode cc pc = .ok (.lastore, 1)) (kk : zV X cells slots (zwM κ ad M') lv st (pc + 1)) : zV X cells slots (zwM κ ad M) lv (.long v :: .int i :: .ref (ad 25) :: st) pc := zr_last hC 25 1 (by decide) entM_25 rfl hi (he ▸ zmu_25) hd kk
theorem zma_25 (hC : zC X cc own Ts vwCl (zty κ) E nL rm) (hd : decode cc pc = .ok (.arraylength, 1)) (kk : zV X cells slots (zwM κ ad M) lv (.int (24 : Int32) :: st) (pc + 1)) : zV X cells slots (zwM κ ad M) lv (.ref (ad 25) :: st) pc := zr_alen hC 25 1 (by decide) entM_25 rfl (show Int32.ofNat 24 = (24 : Int32) by decide) hd kk
theorem entM_26 {κ : Nat → ClassId} {ad : Nat → Nat} {M : zM} : entM κ ad M 26 = .inl (κ 0, 24, .inl (M.1 26)) := rfl
theorem zml_26 {i : Int32} (hC : zC X cc own Ts vwCl (zty κ) E nL rm) (hi : ¬ (i < 0 ∨ 24 ≤ i.toNatClampNeg)) (hd : decode cc pc = .ok (.iaload, 1)) (kk : zV X cells slots (zwM κ ad M) lv (.int (M.1 26 i.toNatClampNeg) :: st) (pc + 1)) : zV X cells slots (zwM κ ad M) lv (.int i :: .ref (ad 26) :: st) pc := zr_iald hC 26 0 (by decide) entM_26 rfl hi hd kk
theorem zmu_26 {k : Nat} {v : Int32} : ∀ i, (if i = 26 then .inl (κ 0, 24, .inl (upd (M.1 26) k v)) else entM κ ad M i) = entM κ ad (zsi M 26 k v) i := by
  intro i
  by_cases h : i = 26
  · subst h; rfl
  · rw [if_neg h]; exact entM_loc (by simp [zsi, h]) (by rfl)
theorem zms_26 {i : Int32} {v : Int32} (hC : zC X cc own Ts vwCl (zty κ) E nL rm) (hi : ¬ (i < 0 ∨ 24 ≤ i.toNatClampNeg)) (he : zsi M 26 i.toNatClampNeg v = M') (hd : decode cc pc = .ok (.iastore, 1)) (kk : zV X cells slots (zwM κ ad M') lv st (pc + 1)) : zV X cells slots (zwM κ ad M) lv (.int v :: .int i :: .ref (ad 26) :: st) pc := zr_iast hC 26 0 (by decide) entM_26 rfl hi (he ▸ zmu_26) hd kk
theorem zma_26 (hC : zC X cc own Ts vwCl (zty κ) E nL rm) (hd : decode cc pc = .ok (.arraylength, 1)) (kk : zV X cells slots (zwM κ ad M) lv (.int (24 : Int32) :: st) (pc + 1)) : zV X cells slots (zwM κ ad M) lv (.ref (ad 26) :: st) pc := zr_alen hC 26 0 (by decide) entM_26 rfl (show Int32.ofNat 24 = (24 : Int32) by decide) hd kk
theorem entM_27 {κ : Nat → ClassId} {ad : Nat → Nat} {M : zM} : entM κ ad M 27 = .inl (κ 0, 4, .inl (M.1 27)) := rfl
theorem zml_27 {i : Int32} (hC : zC X cc own Ts vwCl (zty κ) E nL rm) (hi : ¬ (i < 0 ∨ 4 ≤ i.toNatClampNeg)) (hd : decode cc pc = .ok (.iaload, 1)) (kk : zV X cells slots (zwM κ ad M) lv (.int (M.1 27 i.toNatClampNeg) :: st) (pc + 1)) : zV X cells slots (zwM κ ad M) lv (.int i :: .ref (ad 27) :: st) pc := zr_iald hC 27 0 (by decide) entM_27 rfl hi hd kk
theorem zmu_27 {k : Nat} {v : Int32} : ∀ i, (if i = 27 then .inl (κ 0, 4, .inl (upd (M.1 27) k v)) else entM κ ad M i) = entM κ ad (zsi M 27 k v) i := by
  intro i
  by_cases h : i = 27
  · subst h; rfl
  · rw [if_neg h]; exact entM_loc (by simp [zsi, h]) (by rfl)
theorem zms_27 {i : Int32} {v : Int32} (hC : zC X cc own Ts vwCl (zty κ) E nL rm) (hi : ¬ (i < 0 ∨ 4 ≤ i.toNatClampNeg)) (he : zsi M 27 i.toNatClampNeg v = M') (hd : decode cc pc = .ok (.iastore, 1)) (kk : zV X cells slots (zwM κ ad M') lv st (pc + 1)) : zV X cells slots (zwM κ ad M) lv (.int v :: .int i :: .ref (ad 27) :: st) pc := zr_iast hC 27 0 (by decide) entM_27 rfl hi (he ▸ zmu_27) hd kk
theorem zma_27 (hC : zC X cc own Ts vwCl (zty κ) E nL rm) (hd : decode cc pc = .ok (.arraylength, 1)) (kk : zV X cells slots (zwM κ ad M) lv (.int (4 : Int32) :: st) (pc + 1)) : zV X cells slots (zwM κ ad M) lv (.ref (ad 27) :: st) pc := zr_alen hC 27 0 (by decide) entM_27 rfl (show Int32.ofNat 4 = (4 : Int32) by decide) hd kk
theorem entM_28 {κ : Nat → ClassId} {ad : Nat → Nat} {M : zM} : entM κ ad M 28 = .inl (κ 0, 5, .inl (M.1 28)) := rfl
theorem zml_28 {i : Int32} (hC : zC X cc own Ts vwCl (zty κ) E nL rm) (hi : ¬ (i < 0 ∨ 5 ≤ i.toNatClampNeg)) (hd : decode cc pc = .ok (.iaload, 1)) (kk : zV X cells slots (zwM κ ad M) lv (.int (M.1 28 i.toNatClampNeg) :: st) (pc + 1)) : zV X cells slots (zwM κ ad M) lv (.int i :: .ref (ad 28) :: st) pc := zr_iald hC 28 0 (by decide) entM_28 rfl hi hd kk
theorem zmu_28 {k : Nat} {v : Int32} : ∀ i, (if i = 28 then .inl (κ 0, 5, .inl (upd (M.1 28) k v)) else entM κ ad M i) = entM κ ad (zsi M 28 k v) i := by
  intro i
  by_cases h : i = 28
  · subst h; rfl
  · rw [if_neg h]; exact entM_loc (by simp [zsi, h]) (by rfl)
theorem zms_28 {i : Int32} {v : Int32} (hC : zC X cc own Ts vwCl (zty κ) E nL rm) (hi : ¬ (i < 0 ∨ 5 ≤ i.toNatClampNeg)) (he : zsi M 28 i.toNatClampNeg v = M') (hd : decode cc pc = .ok (.iastore, 1)) (kk : zV X cells slots (zwM κ ad M') lv st (pc + 1)) : zV X cells slots (zwM κ ad M) lv (.int v :: .int i :: .ref (ad 28) :: st) pc := zr_iast hC 28 0 (by decide) entM_28 rfl hi (he ▸ zmu_28) hd kk
theorem zma_28 (hC : zC X cc own Ts vwCl (zty κ) E nL rm) (hd : decode cc pc = .ok (.arraylength, 1)) (kk : zV X cells slots (zwM κ ad M) lv (.int (5 : Int32) :: st) (pc + 1)) : zV X cells slots (zwM κ ad M) lv (.ref (ad 28) :: st) pc := zr_alen hC 28 0 (by decide) entM_28 rfl (show Int32.ofNat 5 = (5 : Int32) by decide) hd kk
theorem entM_29 {κ : Nat → ClassId} {ad : Nat → Nat} {M : zM} : entM κ ad M 29 = .inl (κ 0, 5, .inl (M.1 29)) := rfl
theorem zml_29 {i : Int32} (hC : zC X cc own Ts vwCl (zty κ) E nL rm) (hi : ¬ (i < 0 ∨ 5 ≤ i.toNatClampNeg)) (hd : decode cc pc = .ok (.iaload, 1)) (kk : zV X cells slots (zwM κ ad M) lv (.int (M.1 29 i.toNatClampNeg) :: st) (pc + 1)) : zV X cells slots (zwM κ ad M) lv (.int i :: .ref (ad 29) :: st) pc := zr_iald hC 29 0 (by decide) entM_29 rfl hi hd kk
theorem zmu_29 {k : Nat} {v : Int32} : ∀ i, (if i = 29 then .inl (κ 0, 5, .inl (upd (M.1 29) k v)) else entM κ ad M i) = entM κ ad (zsi M 29 k v) i := by
  intro i
  by_cases h : i = 29
  · subst h; rfl
  · rw [if_neg h]; exact entM_loc (by simp [zsi, h]) (by rfl)
theorem zms_29 {i : Int32} {v : Int32} (hC : zC X cc own Ts vwCl (zty κ) E nL rm) (hi : ¬ (i < 0 ∨ 5 ≤ i.toNatClampNeg)) (he : zsi M 29 i.toNatClampNeg v = M') (hd : decode cc pc = .ok (.iastore, 1)) (kk : zV X cells slots (zwM κ ad M') lv st (pc + 1)) : zV X cells slots (zwM κ ad M) lv (.int v :: .int i :: .ref (ad 29) :: st) pc := zr_iast hC 29 0 (by decide) entM_29 rfl hi (he ▸ zmu_29) hd kk
theorem zma_29 (hC : zC X cc own Ts vwCl (zty κ) E nL rm) (hd : decode cc pc = .ok (.arraylength, 1)) (kk : zV X cells slots (zwM κ ad M) lv (.int (5 : Int32) :: st) (pc + 1)) : zV X cells slots (zwM κ ad M) lv (.ref (ad 29) :: st) pc := zr_alen hC 29 0 (by decide) entM_29 rfl (show Int32.ofNat 5 = (5 : Int32) by decide) hd kk
theorem entM_30 {κ : Nat → ClassId} {ad : Nat → Nat} {M : zM} : entM κ ad M 30 = .inl (κ 0, 5, .inl (M.1 30)) := rfl
theorem zml_30 {i : Int32} (hC : zC X cc own Ts vwCl (zty κ) E nL rm) (hi : ¬ (i < 0 ∨ 5 ≤ i.toNatClampNeg)) (hd : decode cc pc = .ok (.iaload, 1)) (kk : zV X cells slots (zwM κ ad M) lv (.int (M.1 30 i.toNatClampNeg) :: st) (pc + 1)) : zV X cells slots (zwM κ ad M) lv (.int i :: .ref (ad 30) :: st) pc := zr_iald hC 30 0 (by decide) entM_30 rfl hi hd kk
theorem zmu_30 {k : Nat} {v : Int32} : ∀ i, (if i = 30 then .inl (κ 0, 5, .inl (upd (M.1 30) k v)) else entM κ ad M i) = entM κ ad (zsi M 30 k v) i := by
  intro i
  by_cases h : i = 30
  · subst h; rfl
  · rw [if_neg h]; exact entM_loc (by simp [zsi, h]) (by rfl)
theorem zms_30 {i : Int32} {v : Int32} (hC : zC X cc own Ts vwCl (zty κ) E nL rm) (hi : ¬ (i < 0 ∨ 5 ≤ i.toNatClampNeg)) (he : zsi M 30 i.toNatClampNeg v = M') (hd : decode cc pc = .ok (.iastore, 1)) (kk : zV X cells slots (zwM κ ad M') lv st (pc + 1)) : zV X cells slots (zwM κ ad M) lv (.int v :: .int i :: .ref (ad 30) :: st) pc := zr_iast hC 30 0 (by decide) entM_30 rfl hi (he ▸ zmu_30) hd kk
theorem zma_30 (hC : zC X cc own Ts vwCl (zty κ) E nL rm) (hd : decode cc pc = .ok (.arraylength, 1)) (kk : zV X cells slots (zwM κ ad M) lv (.int (5 : Int32) :: st) (pc + 1)) : zV X cells slots (zwM κ ad M) lv (.ref (ad 30) :: st) pc := zr_alen hC 30 0 (by decide) entM_30 rfl (show Int32.ofNat 5 = (5 : Int32) by decide) hd kk
theorem entM_31 {κ : Nat → ClassId} {ad : Nat → Nat} {M : zM} : entM κ ad M 31 = .inl (κ 0, 20, .inl (M.1 31)) := rfl
theorem zml_31 {i : Int32} (hC : zC X cc own Ts vwCl (zty κ) E nL rm) (hi : ¬ (i < 0 ∨ 20 ≤ i.toNatClampNeg)) (hd : decode cc pc = .ok (.iaload, 1)) (kk : zV X cells slots (zwM κ ad M) lv (.int (M.1 31 i.toNatClampNeg) :: st) (pc + 1)) : zV X cells slots (zwM κ ad M) lv (.int i :: .ref (ad 31) :: st) pc := zr_iald hC 31 0 (by decide) entM_31 rfl hi hd kk
theorem zmu_31 {k : Nat} {v : Int32} : ∀ i, (if i = 31 then .inl (κ 0, 20, .inl (upd (M.1 31) k v)) else entM κ ad M i) = entM κ ad (zsi M 31 k v) i := by
  intro i
  by_cases h : i = 31
  · subst h; rfl
  · rw [if_neg h]; exact entM_loc (by simp [zsi, h]) (by rfl)
theorem zms_31 {i : Int32} {v : Int32} (hC : zC X cc own Ts vwCl (zty κ) E nL rm) (hi : ¬ (i < 0 ∨ 20 ≤ i.toNatClampNeg)) (he : zsi M 31 i.toNatClampNeg v = M') (hd : decode cc pc = .ok (.iastore, 1)) (kk : zV X cells slots (zwM κ ad M') lv st (pc + 1)) : zV X cells slots (zwM κ ad M) lv (.int v :: .int i :: .ref (ad 31) :: st) pc := zr_iast hC 31 0 (by decide) entM_31 rfl hi (he ▸ zmu_31) hd kk
theorem zma_31 (hC : zC X cc own Ts vwCl (zty κ) E nL rm) (hd : decode cc pc = .ok (.arraylength, 1)) (kk : zV X cells slots (zwM κ ad M) lv (.int (20 : Int32) :: st) (pc + 1)) : zV X cells slots (zwM κ ad M) lv (.ref (ad 31) :: st) pc := zr_alen hC 31 0 (by decide) entM_31 rfl (show Int32.ofNat 20 = (20 : Int32) by decide) hd kk
theorem entM_32 {κ : Nat → ClassId} {ad : Nat → Nat} {M : zM} : entM κ ad M 32 = .inl (κ 0, 140, .inl (M.1 32)) := rfl
theorem zml_32 {i : Int32} (hC : zC X cc own Ts vwCl (zty κ) E nL rm) (hi : ¬ (i < 0 ∨ 140 ≤ i.toNatClampNeg)) (hd : decode cc pc = .ok (.iaload, 1)) (kk : zV X cells slots (zwM κ ad M) lv (.int (M.1 32 i.toNatClampNeg) :: st) (pc + 1)) : zV X cells slots (zwM κ ad M) lv (.int i :: .ref (ad 32) :: st) pc := zr_iald hC 32 0 (by decide) entM_32 rfl hi hd kk
theorem zmu_32 {k : Nat} {v : Int32} : ∀ i, (if i = 32 then .inl (κ 0, 140, .inl (upd (M.1 32) k v)) else entM κ ad M i) = entM κ ad (zsi M 32 k v) i := by
  intro i
  by_cases h : i = 32
  · subst h; rfl
  · rw [if_neg h]; exact entM_loc (by simp [zsi, h]) (by rfl)
theorem zms_32 {i : Int32} {v : Int32} (hC : zC X cc own Ts vwCl (zty κ) E nL rm) (hi : ¬ (i < 0 ∨ 140 ≤ i.toNatClampNeg)) (he : zsi M 32 i.toNatClampNeg v = M') (hd : decode cc pc = .ok (.iastore, 1)) (kk : zV X cells slots (zwM κ ad M') lv st (pc + 1)) : zV X cells slots (zwM κ ad M) lv (.int v :: .int i :: .ref (ad 32) :: st) pc := zr_iast hC 32 0 (by decide) entM_32 rfl hi (he ▸ zmu_32) hd kk
theorem zma_32 (hC : zC X cc own Ts vwCl (zty κ) E nL rm) (hd : decode cc pc = .ok (.arraylength, 1)) (kk : zV X cells slots (zwM κ ad M) lv (.int (140 : Int32) :: st) (pc + 1)) : zV X cells slots (zwM κ ad M) lv (.ref (ad 32) :: st) pc := zr_alen hC 32 0 (by decide) entM_32 rfl (show Int32.ofNat 140 = (140 : Int32) by decide) hd kk
end ZM
