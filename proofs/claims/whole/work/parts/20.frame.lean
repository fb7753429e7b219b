abbrev vwCl : List vw_C := [(RX0, TX0, 4), (RX1, TX1, 3), (RX2, TX2, 3), (RX3, TX3, 5), (RX4, TX4, 3), (RX6, TX6, 17), (RX7, TX7, 3), (RX8, TX8, 12), (RX9, TX9, 4), (RX10, TX10, 16), (RX11, TX11, 13), (RX12, TX12, 52)]
/-! configurations: the walk's fixed things in one tuple; the heap, the written places and the locals' array inside -/
abbrev zX : Type := Program × Launch × Env × Room × State × MethodId × Array Value × List Frame × Method × Code × va_G × List vw_C × (Nat → Prop) × Nat × (State → Prop)
abbrev zLv : Type := List (Nat × Value)
abbrev zEn : Type := (Nat → Prop) → State → Prop
def zV (X : zX) (cells slots : Nat) (ws : va_W) (lv : zLv) (st : List Value) (pc : Nat) : Prop :=
  match X with
  | (p, l, e, R, s, m, args, below, meth, c, D, cl, A, nL, Q) => ∀ (H : Heap) (locs : List Loc) (ls : Array Slot), va_P D cl ws H → va_D A ws → va_S A s.heap H locs → lv_has ls nL lv → W p l e R s m args below meth c H locs cells slots Q (F0 m pc ls st)
/-- what a walk's fixed things are: the code, its class, its words, the classes, the array classes, the surroundings, its locals, its room -/
def zC (X : zX) (cc : ByteArray) (own : String) (Ts : List Cond) (cl0 : List vw_C) (tys : List (ClassId × FieldType)) (E : zEn) (n0 : Nat) (rm : Room) : Prop :=
  match X with
  | (p, l, e, R, s, m, args, below, meth, c, D, cl, A, nL, Q) => p.tables.exec = Jvm.exec ∧ c.code = cc ∧ c.maxLocals = nL ∧ s.vm.findClass own = some m.cls ∧ (∀ w ∈ Ts, w.before args s = true) ∧ cl = cl0 ∧ va_K D cl0 tys s ∧ (∀ q : Nat, s.heap.size ≤ q → A q) ∧ E A s ∧ nL = n0 ∧ R = rm
def zQ (D : va_G) (cl : List vw_C) (A : Nat → Prop) (Po : Option Value → va_W → Prop) : Array Value → State → Outcome → State → Prop := fun _ st oc t => (∃ (rv : Option Value) (w1 : va_W), oc = .returned rv ∧ Po rv w1 ∧ va_P D cl w1 t.heap ∧ va_D A w1) ∧ va_F A st t
def zR (X : zX) (ret : Option FieldType) (Po : Option Value → va_W → Prop) (mc ms : Nat) : Prop :=
  match X with
  | (p, l, e, R, s, m, args, below, meth, c, D, cl, A, nL, Q) => meth.sig.returnType = ret ∧ meth.locks = false ∧ Q = MQ below (zQ D cl A Po) args s mc ms A
/-- a contract: from the world w0 the call answers rv with a world w1, as Po says -/
def zCT (E : zEn) (D : va_G) (cl : List vw_C) (tys : List (ClassId × FieldType)) (l : Launch) (y : MethodName) (ws : List Cond) (rm : Room) (mc ms : Nat) (av : List Value) (w0 : va_W) (Po : Option Value → va_W → Prop) : Prop :=
  ∀ sz : Nat, Met l y ws rm (va_Pc av (fun U => U.heap.size = sz ∧ va_P D cl w0 U.heap ∧ va_K D cl tys U ∧ va_D (fun _ => True) w0 ∧ E (va_A w0 sz) U)) (zQ D cl (va_A w0 sz) Po) mc ms (va_A w0 sz)
/-- what surroundings must bear -/
def zEk (E : zEn) : Prop := (∀ (A B : Nat → Prop) (s U : State), s.WarmedH U.vm → (∀ a : Nat, a < s.heap.size → ¬ A a → U.heap[a]? = s.heap[a]?) → (∀ q, B q → A q) → E A s → E B U) ∧ ∀ (A : Nat → Prop) (U : State) (g : JFrame) (mk : MethodId) (a : Array Value), E A U → E A (U.calling g mk a)
theorem zCT.of {E : zEn} {D : va_G} {cl : List vw_C} {tys : List (ClassId × FieldType)} {l : Launch} {y : MethodName} {ws ws' : List Cond} {rm : Room} {mc ms : Nat} {av : List Value} {w0 : va_W} {Po : Option Value → va_W → Prop} {cc : ByteArray} {maxL : Nat} {ret : Option FieldType} (hy : plainName y.cls = true) (hw : ws = Cond.code y cc maxL ret :: ws') (hn : (lg_sl av).length ≤ maxL)
    (body : ∀ X : zX, zC X cc y.cls ws cl tys E maxL rm → zR X ret Po mc ms → zV X 0 0 w0 (lv_args 0 av) [] 0) : zCT E D cl tys l y ws rm mc ms av w0 Po := by
  intro sz
  refine Met.ofW (cc := cc) (maxL := maxL) (ret := ret) hy hw ?_
  intro p e s m args below meth c s₁ B hml hv
  obtain ⟨rfl, hsz, hP, hK, hD0, hE⟩ := hv
  subst hsz
  have hD := hD0.self (sz := s.heap.size)
  have h9 := body (p, l, e, (headSpec ws rm).room, s, m, av.toArray, below, meth, c, D, cl, va_A w0 s.heap.size, maxL, MQ below (zQ D cl (va_A w0 s.heap.size) Po) av.toArray s mc ms (va_A w0 s.heap.size))
    ⟨B.exec, B.bytes, hml, findClass_of_methodNamed B.named, atoms_spec (ws := ws) B.pre, rfl, hK, fun q h => Or.inr h, hE, rfl, rfl⟩ ⟨B.returns, B.notSynchronized, rfl⟩
  rw [lg_entry_eq]
  exact h9 s.heap [] _ hP hD va_S.rf (lv_entry av hn)
/-- a world by the numbers of its cells -/
def zw (ad : Nat → Nat) (f : Nat → va_E) (N : Nat) : va_W := (List.range N).map (fun j => (ad j, f j))
theorem zw_get {ad : Nat → Nat} {f : Nat → va_E} {N j : Nat} (h : j < N) : (zw ad f N)[j]? = some (ad j, f j) := by
  simp [zw, h]
theorem zw_set {ad : Nat → Nat} {f f' : Nat → va_E} {N j : Nat} {e : va_E} (h : ∀ i, (if i = j then e else f i) = f' i) : (zw ad f N).set j (ad j, e) = zw ad f' N := by
  apply List.ext_getElem?
  intro i
  by_cases hi : i = j
  · subst hi
    by_cases hN : i < N
    · have h1 := h i
      rw [if_pos rfl] at h1
      rw [zw_get hN, List.getElem?_set_self (by simp [zw, hN]), h1]
    · rw [List.getElem?_eq_none (by simp [zw]; omega), List.getElem?_eq_none (by simp [zw]; omega)]
  · have h1 := h i
    rw [if_neg hi] at h1
    rw [List.getElem?_set_ne (Ne.symm hi)]
    by_cases hN : i < N
    · rw [zw_get hN, zw_get hN, h1]
    · rw [List.getElem?_eq_none (by simp [zw]; omega), List.getElem?_eq_none (by simp [zw]; omega)]
theorem zw_congr {ad ad' : Nat → Nat} {f f' : Nat → va_E} {N : Nat} (h1 : ∀ i, i < N → ad i = ad' i) (h2 : ∀ i, i < N → f i = f' i) : zw ad f N = zw ad' f' N := by
  apply List.map_congr_left
  intro i hi
  have := List.mem_range.mp hi
  rw [h1 i this, h2 i this]
theorem zw_push {ad : Nat → Nat} {f : Nat → va_E} {N : Nat} : zw ad f (N + 1) = zw ad f N ++ [(ad N, f N)] := by
  simp [zw, List.range_succ]
/-! loops: a body that goes on with another state or comes out; so many turns -/
def x_it {α β : Type} (f : α → Option (α ⊕ β)) : Nat → α → Option β
  | 0, _ => none
  | n + 1, a => match f a with
    | none => none
    | some (.inl a') => x_it f n a'
    | some (.inr b) => some b
theorem zit {α β : Type} {f : α → Option (α ⊕ β)} {Wp : α → Prop} {Ex : β → Prop} (step : ∀ (a : α) (r : α ⊕ β), f a = some r → (∀ a', r = .inl a' → Wp a') → (∀ b', r = .inr b' → Ex b') → Wp a) : ∀ (n : Nat) (a : α) (b : β), x_it f n a = some b → Ex b → Wp a
  | 0, _, _, h, _ => by cases h
  | n + 1, a, b, h, hb => by
    simp only [x_it] at h
    cases hr : f a with
    | none => rw [hr] at h; cases h
    | some r =>
      rw [hr] at h
      cases r with
      | inl a' => exact step a _ hr (fun a2 h2 => by cases h2; exact zit step n a' b h hb) (fun b2 h2 => by cases h2)
      | inr b' => exact step a _ hr (fun a2 h2 => by cases h2) (fun b2 h2 => by cases h2; cases h; exact hb)
/-- how many turns a loop may take in the pictures: more than any of them needs -/
def zFU : Nat := 4096
theorem zip {α : Type} {c : Prop} [Decidable c] {a b : Option α} {r : α} (h : (if c then a else b) = some r) (hc : c) : a = some r := by rw [if_pos hc] at h; exact h
theorem zin {α : Type} {c : Prop} [Decidable c] {a b : Option α} {r : α} (h : (if c then a else b) = some r) (hc : ¬ c) : b = some r := by rw [if_neg hc] at h; exact h
theorem zgd {α : Type} {c : Prop} [Decidable c] {b : Option α} {r : α} (h : (if c then none else b) = some r) : ¬ c ∧ b = some r := by
  by_cases hc : c
  · rw [if_pos hc] at h; cases h
  · rw [if_neg hc] at h; exact ⟨hc, h⟩
theorem zbd {α β : Type} {o : Option α} {k : α → Option β} {r : β} (h : o.bind k = some r) : ∃ q, o = some q ∧ k q = some r := by
  cases o with
  | none => cases h
  | some q => exact ⟨q, rfl, h⟩
theorem znb {x : Int32} (h : x = 0 ∨ x = 1) : narrow .boolean (.int x) = .int x := by
  rcases h with rfl | rfl <;> decide
section ZR
variable {X : zX} {cells slots : Nat} {ws : va_W} {lv lv' : zLv} {st : List Value} {pc : Nat} {cc : ByteArray} {own : String} {Ts : List Cond} {cl : List vw_C} {tys : List (ClassId × FieldType)} {E : zEn} {nL : Nat} {rm : Room}
theorem zV.sub (ks : List Nat) (hl : lv_pick lv ks = lv') (kk : zV X cells slots ws lv' st pc) : zV X cells slots ws lv st pc := by
  obtain ⟨p, l, e, R, s, m, args, below, meth, c, D, cl', A, nL', Q⟩ := X
  intro H locs ls hP hD hS h9
  exact kk H locs ls hP hD hS (lv_sub h9 ks hl)
theorem zV.widen {k n : Nat} (h1 : cells ≤ k) (h2 : slots ≤ n) (kk : zV X k n ws lv st pc) : zV X cells slots ws lv st pc := by
  obtain ⟨p, l, e, R, s, m, args, below, meth, c, D, cl', A, nL', Q⟩ := X
  intro H locs ls hP hD hS h9
  exact W.widen h1 h2 (kk H locs ls hP hD hS h9)

theorem zr_iadd (hC : zC X cc own Ts cl tys E nL rm) {a b : Int32} (hd : decode cc pc = .ok (.iadd, 1)) (kk : zV X cells slots ws lv (.int (a + b) :: st) (pc + 1)) : zV X cells slots ws lv (.int b :: .int a :: st) pc := by
  obtain ⟨p, l, e, R, s, m, args, below, meth, c, D, cl', A, nL', Q⟩ := X
  obtain ⟨hx, hb, hml, ho, hts, rfl, hK, hA, hE, rfl, rfl⟩ := hC
  intro H locs ls hP hD hS h9
  exact lv_iadd hx hb hd (kk H locs ls hP hD hS h9)
theorem zr_isub (hC : zC X cc own Ts cl tys E nL rm) {a b : Int32} (hd : decode cc pc = .ok (.isub, 1)) (kk : zV X cells slots ws lv (.int (a - b) :: st) (pc + 1)) : zV X cells slots ws lv (.int b :: .int a :: st) pc := by
  obtain ⟨p, l, e, R, s, m, args, below, meth, c, D, cl', A, nL', Q⟩ := X
  obtain ⟨hx, hb, hml, ho, hts, rfl, hK, hA, hE, rfl, rfl⟩ := hC
  intro H locs ls hP hD hS h9
  exact lv_isub hx hb hd (kk H locs ls hP hD hS h9)
theorem zr_imul (hC : zC X cc own Ts cl tys E nL rm) {a b : Int32} (hd : decode cc pc = .ok (.imul, 1)) (kk : zV X cells slots ws lv (.int (a * b) :: st) (pc + 1)) : zV X cells slots ws lv (.int b :: .int a :: st) pc := by
  obtain ⟨p, l, e, R, s, m, args, below, meth, c, D, cl', A, nL', Q⟩ := X
  obtain ⟨hx, hb, hml, ho, hts, rfl, hK, hA, hE, rfl, rfl⟩ := hC
  intro H locs ls hP hD hS h9
  exact lv_imul hx hb hd (kk H locs ls hP hD hS h9)
theorem zr_iand (hC : zC X cc own Ts cl tys E nL rm) {a b : Int32} (hd : decode cc pc = .ok (.iand, 1)) (kk : zV X cells slots ws lv (.int (a &&& b) :: st) (pc + 1)) : zV X cells slots ws lv (.int b :: .int a :: st) pc := by
  obtain ⟨p, l, e, R, s, m, args, below, meth, c, D, cl', A, nL', Q⟩ := X
  obtain ⟨hx, hb, hml, ho, hts, rfl, hK, hA, hE, rfl, rfl⟩ := hC
  intro H locs ls hP hD hS h9
  exact lv_iand hx hb hd (kk H locs ls hP hD hS h9)
theorem zr_ior (hC : zC X cc own Ts cl tys E nL rm) {a b : Int32} (hd : decode cc pc = .ok (.ior, 1)) (kk : zV X cells slots ws lv (.int (a ||| b) :: st) (pc + 1)) : zV X cells slots ws lv (.int b :: .int a :: st) pc := by
  obtain ⟨p, l, e, R, s, m, args, below, meth, c, D, cl', A, nL', Q⟩ := X
  obtain ⟨hx, hb, hml, ho, hts, rfl, hK, hA, hE, rfl, rfl⟩ := hC
  intro H locs ls hP hD hS h9
  exact lv_ior hx hb hd (kk H locs ls hP hD hS h9)
theorem zr_ixor (hC : zC X cc own Ts cl tys E nL rm) {a b : Int32} (hd : decode cc pc = .ok (.ixor, 1)) (kk : zV X cells slots ws lv (.int (a ^^^ b) :: st) (pc + 1)) : zV X cells slots ws lv (.int b :: .int a :: st) pc := by
  obtain ⟨p, l, e, R, s, m, args, below, meth, c, D, cl', A, nL', Q⟩ := X
  obtain ⟨hx, hb, hml, ho, hts, rfl, hK, hA, hE, rfl, rfl⟩ := hC
  intro H locs ls hP hD hS h9
  exact lv_ixor hx hb hd (kk H locs ls hP hD hS h9)
theorem zr_ishl (hC : zC X cc own Ts cl tys E nL rm) {a b : Int32} (hd : decode cc pc = .ok (.ishl, 1)) (kk : zV X cells slots ws lv (.int (a <<< (b &&& 31)) :: st) (pc + 1)) : zV X cells slots ws lv (.int b :: .int a :: st) pc := by
  obtain ⟨p, l, e, R, s, m, args, below, meth, c, D, cl', A, nL', Q⟩ := X
  obtain ⟨hx, hb, hml, ho, hts, rfl, hK, hA, hE, rfl, rfl⟩ := hC
  intro H locs ls hP hD hS h9
  exact lv_ishl hx hb hd (kk H locs ls hP hD hS h9)
theorem zr_ishr (hC : zC X cc own Ts cl tys E nL rm) {a b : Int32} (hd : decode cc pc = .ok (.ishr, 1)) (kk : zV X cells slots ws lv (.int (a >>> (b &&& 31)) :: st) (pc + 1)) : zV X cells slots ws lv (.int b :: .int a :: st) pc := by
  obtain ⟨p, l, e, R, s, m, args, below, meth, c, D, cl', A, nL', Q⟩ := X
  obtain ⟨hx, hb, hml, ho, hts, rfl, hK, hA, hE, rfl, rfl⟩ := hC
  intro H locs ls hP hD hS h9
  exact lv_ishr hx hb hd (kk H locs ls hP hD hS h9)
theorem zr_ladd (hC : zC X cc own Ts cl tys E nL rm) {a b : Int64} (hd : decode cc pc = .ok (.ladd, 1)) (kk : zV X cells slots ws lv (.long (a + b) :: st) (pc + 1)) : zV X cells slots ws lv (.long b :: .long a :: st) pc := by
  obtain ⟨p, l, e, R, s, m, args, below, meth, c, D, cl', A, nL', Q⟩ := X
  obtain ⟨hx, hb, hml, ho, hts, rfl, hK, hA, hE, rfl, rfl⟩ := hC
  intro H locs ls hP hD hS h9
  exact lv_ladd hx hb hd (kk H locs ls hP hD hS h9)
theorem zr_lsub (hC : zC X cc own Ts cl tys E nL rm) {a b : Int64} (hd : decode cc pc = .ok (.lsub, 1)) (kk : zV X cells slots ws lv (.long (a - b) :: st) (pc + 1)) : zV X cells slots ws lv (.long b :: .long a :: st) pc := by
  obtain ⟨p, l, e, R, s, m, args, below, meth, c, D, cl', A, nL', Q⟩ := X
  obtain ⟨hx, hb, hml, ho, hts, rfl, hK, hA, hE, rfl, rfl⟩ := hC
  intro H locs ls hP hD hS h9
  exact lv_lsub hx hb hd (kk H locs ls hP hD hS h9)
theorem zr_lmul (hC : zC X cc own Ts cl tys E nL rm) {a b : Int64} (hd : decode cc pc = .ok (.lmul, 1)) (kk : zV X cells slots ws lv (.long (a * b) :: st) (pc + 1)) : zV X cells slots ws lv (.long b :: .long a :: st) pc := by
  obtain ⟨p, l, e, R, s, m, args, below, meth, c, D, cl', A, nL', Q⟩ := X
  obtain ⟨hx, hb, hml, ho, hts, rfl, hK, hA, hE, rfl, rfl⟩ := hC
  intro H locs ls hP hD hS h9
  exact lv_lmul hx hb hd (kk H locs ls hP hD hS h9)
theorem zr_land (hC : zC X cc own Ts cl tys E nL rm) {a b : Int64} (hd : decode cc pc = .ok (.land, 1)) (kk : zV X cells slots ws lv (.long (a &&& b) :: st) (pc + 1)) : zV X cells slots ws lv (.long b :: .long a :: st) pc := by
  obtain ⟨p, l, e, R, s, m, args, below, meth, c, D, cl', A, nL', Q⟩ := X
  obtain ⟨hx, hb, hml, ho, hts, rfl, hK, hA, hE, rfl, rfl⟩ := hC
  intro H locs ls hP hD hS h9
  exact lv_land hx hb hd (kk H locs ls hP hD hS h9)
theorem zr_lor (hC : zC X cc own Ts cl tys E nL rm) {a b : Int64} (hd : decode cc pc = .ok (.lor, 1)) (kk : zV X cells slots ws lv (.long (a ||| b) :: st) (pc + 1)) : zV X cells slots ws lv (.long b :: .long a :: st) pc := by
  obtain ⟨p, l, e, R, s, m, args, below, meth, c, D, cl', A, nL', Q⟩ := X
  obtain ⟨hx, hb, hml, ho, hts, rfl, hK, hA, hE, rfl, rfl⟩ := hC
  intro H locs ls hP hD hS h9
  exact lv_lor hx hb hd (kk H locs ls hP hD hS h9)
theorem zr_idiv (hC : zC X cc own Ts cl tys E nL rm) {a b : Int32} (hne : ¬ b = 0) (hd : decode cc pc = .ok (.idiv, 1)) (kk : zV X cells slots ws lv (.int (a / b) :: st) (pc + 1)) : zV X cells slots ws lv (.int b :: .int a :: st) pc := by
  obtain ⟨p, l, e, R, s, m, args, below, meth, c, D, cl', A, nL', Q⟩ := X
  obtain ⟨hx, hb, hml, ho, hts, rfl, hK, hA, hE, rfl, rfl⟩ := hC
  intro H locs ls hP hD hS h9
  exact lv_idiv hx hb hd hne (kk H locs ls hP hD hS h9)
theorem zr_irem (hC : zC X cc own Ts cl tys E nL rm) {a b : Int32} (hne : ¬ b = 0) (hd : decode cc pc = .ok (.irem, 1)) (kk : zV X cells slots ws lv (.int (a - a / b * b) :: st) (pc + 1)) : zV X cells slots ws lv (.int b :: .int a :: st) pc := by
  obtain ⟨p, l, e, R, s, m, args, below, meth, c, D, cl', A, nL', Q⟩ := X
  obtain ⟨hx, hb, hml, ho, hts, rfl, hK, hA, hE, rfl, rfl⟩ := hC
  intro H locs ls hP hD hS h9
  exact lv_irem hx hb hd hne (kk H locs ls hP hD hS h9)
theorem zr_ldiv (hC : zC X cc own Ts cl tys E nL rm) {a b : Int64} (hne : ¬ b = 0) (hd : decode cc pc = .ok (.ldiv, 1)) (kk : zV X cells slots ws lv (.long (a / b) :: st) (pc + 1)) : zV X cells slots ws lv (.long b :: .long a :: st) pc := by
  obtain ⟨p, l, e, R, s, m, args, below, meth, c, D, cl', A, nL', Q⟩ := X
  obtain ⟨hx, hb, hml, ho, hts, rfl, hK, hA, hE, rfl, rfl⟩ := hC
  intro H locs ls hP hD hS h9
  exact lv_ldiv hx hb hd hne (kk H locs ls hP hD hS h9)
theorem zr_lrem (hC : zC X cc own Ts cl tys E nL rm) {a b : Int64} (hne : ¬ b = 0) (hd : decode cc pc = .ok (.lrem, 1)) (kk : zV X cells slots ws lv (.long (a - a / b * b) :: st) (pc + 1)) : zV X cells slots ws lv (.long b :: .long a :: st) pc := by
  obtain ⟨p, l, e, R, s, m, args, below, meth, c, D, cl', A, nL', Q⟩ := X
  obtain ⟨hx, hb, hml, ho, hts, rfl, hK, hA, hE, rfl, rfl⟩ := hC
  intro H locs ls hP hD hS h9
  exact lv_lrem hx hb hd hne (kk H locs ls hP hD hS h9)
theorem zr_ineg (hC : zC X cc own Ts cl tys E nL rm) {a : Int32} (hd : decode cc pc = .ok (.ineg, 1)) (kk : zV X cells slots ws lv (.int (-a) :: st) (pc + 1)) : zV X cells slots ws lv (.int a :: st) pc := by
  obtain ⟨p, l, e, R, s, m, args, below, meth, c, D, cl', A, nL', Q⟩ := X
  obtain ⟨hx, hb, hml, ho, hts, rfl, hK, hA, hE, rfl, rfl⟩ := hC
  intro H locs ls hP hD hS h9
  exact lv_ineg hx hb hd (kk H locs ls hP hD hS h9)
theorem zr_lneg (hC : zC X cc own Ts cl tys E nL rm) {a : Int64} (hd : decode cc pc = .ok (.lneg, 1)) (kk : zV X cells slots ws lv (.long (-a) :: st) (pc + 1)) : zV X cells slots ws lv (.long a :: st) pc := by
  obtain ⟨p, l, e, R, s, m, args, below, meth, c, D, cl', A, nL', Q⟩ := X
  obtain ⟨hx, hb, hml, ho, hts, rfl, hK, hA, hE, rfl, rfl⟩ := hC
  intro H locs ls hP hD hS h9
  exact lv_lneg hx hb hd (kk H locs ls hP hD hS h9)
theorem zr_i2l (hC : zC X cc own Ts cl tys E nL rm) {a : Int32} (hd : decode cc pc = .ok (.i2l, 1)) (kk : zV X cells slots ws lv (.long a.toInt64 :: st) (pc + 1)) : zV X cells slots ws lv (.int a :: st) pc := by
  obtain ⟨p, l, e, R, s, m, args, below, meth, c, D, cl', A, nL', Q⟩ := X
  obtain ⟨hx, hb, hml, ho, hts, rfl, hK, hA, hE, rfl, rfl⟩ := hC
  intro H locs ls hP hD hS h9
  exact lv_i2l hx hb hd rfl (kk H locs ls hP hD hS h9)
theorem zr_l2i (hC : zC X cc own Ts cl tys E nL rm) {a : Int64} (hd : decode cc pc = .ok (.l2i, 1)) (kk : zV X cells slots ws lv (.int a.toInt32 :: st) (pc + 1)) : zV X cells slots ws lv (.long a :: st) pc := by
  obtain ⟨p, l, e, R, s, m, args, below, meth, c, D, cl', A, nL', Q⟩ := X
  obtain ⟨hx, hb, hml, ho, hts, rfl, hK, hA, hE, rfl, rfl⟩ := hC
  intro H locs ls hP hD hS h9
  exact lv_l2i hx hb hd rfl (kk H locs ls hP hD hS h9)
theorem zr_i2c (hC : zC X cc own Ts cl tys E nL rm) {a : Int32} (hd : decode cc pc = .ok (.i2c, 1)) (kk : zV X cells slots ws lv (.int ((a.toUInt32 % 65536).toInt32) :: st) (pc + 1)) : zV X cells slots ws lv (.int a :: st) pc := by
  obtain ⟨p, l, e, R, s, m, args, below, meth, c, D, cl', A, nL', Q⟩ := X
  obtain ⟨hx, hb, hml, ho, hts, rfl, hK, hA, hE, rfl, rfl⟩ := hC
  intro H locs ls hP hD hS h9
  exact lv_i2c hx hb hd rfl (kk H locs ls hP hD hS h9)
theorem zr_lshl (hC : zC X cc own Ts cl tys E nL rm) {a : Int64} {b : Int32} (hd : decode cc pc = .ok (.lshl, 1)) (kk : zV X cells slots ws lv (.long (a <<< (b.toInt64 &&& 63)) :: st) (pc + 1)) : zV X cells slots ws lv (.int b :: .long a :: st) pc := by
  obtain ⟨p, l, e, R, s, m, args, below, meth, c, D, cl', A, nL', Q⟩ := X
  obtain ⟨hx, hb, hml, ho, hts, rfl, hK, hA, hE, rfl, rfl⟩ := hC
  intro H locs ls hP hD hS h9
  exact lv_lshl hx hb hd rfl (kk H locs ls hP hD hS h9)
theorem zr_lshr (hC : zC X cc own Ts cl tys E nL rm) {a : Int64} {b : Int32} (hd : decode cc pc = .ok (.lshr, 1)) (kk : zV X cells slots ws lv (.long (a >>> (b.toInt64 &&& 63)) :: st) (pc + 1)) : zV X cells slots ws lv (.int b :: .long a :: st) pc := by
  obtain ⟨p, l, e, R, s, m, args, below, meth, c, D, cl', A, nL', Q⟩ := X
  obtain ⟨hx, hb, hml, ho, hts, rfl, hK, hA, hE, rfl, rfl⟩ := hC
  intro H locs ls hP hD hS h9
  exact lv_lshr hx hb hd rfl (kk H locs ls hP hD hS h9)
theorem zr_lcmp (hC : zC X cc own Ts cl tys E nL rm) {a b : Int64} (hd : decode cc pc = .ok (.lcmp, 1)) (kk : zV X cells slots ws lv (.int (lg_cmp a b) :: st) (pc + 1)) : zV X cells slots ws lv (.long b :: .long a :: st) pc := by
  obtain ⟨p, l, e, R, s, m, args, below, meth, c, D, cl', A, nL', Q⟩ := X
  obtain ⟨hx, hb, hml, ho, hts, rfl, hK, hA, hE, rfl, rfl⟩ := hC
  intro H locs ls hP hD hS h9
  exact W.lcmp hx hb hd (kk H locs ls hP hD hS h9)
theorem zr_iconst (hC : zC X cc own Ts cl tys E nL rm) {n : Int} {v : Int32} (hv : Int32.ofInt n = v) (hd : decode cc pc = .ok (.iconst n, 1)) (kk : zV X cells slots ws lv (.int v :: st) (pc + 1)) : zV X cells slots ws lv (st) pc := by
  obtain ⟨p, l, e, R, s, m, args, below, meth, c, D, cl', A, nL', Q⟩ := X
  obtain ⟨hx, hb, hml, ho, hts, rfl, hK, hA, hE, rfl, rfl⟩ := hC
  intro H locs ls hP hD hS h9
  exact lv_iconst hx hb hd hv (kk H locs ls hP hD hS h9)
theorem zr_bipush (hC : zC X cc own Ts cl tys E nL rm) {n : Int} {v : Int32} (hv : (Int8.ofInt n).toInt32 = v) (hd : decode cc pc = .ok (.bipush n, 2)) (kk : zV X cells slots ws lv (.int v :: st) (pc + 2)) : zV X cells slots ws lv (st) pc := by
  obtain ⟨p, l, e, R, s, m, args, below, meth, c, D, cl', A, nL', Q⟩ := X
  obtain ⟨hx, hb, hml, ho, hts, rfl, hK, hA, hE, rfl, rfl⟩ := hC
  intro H locs ls hP hD hS h9
  exact lv_bipush hx hb hd hv (kk H locs ls hP hD hS h9)
theorem zr_sipush (hC : zC X cc own Ts cl tys E nL rm) {n : Int} {v : Int32} (hv : (Int16.ofInt n).toInt32 = v) (hd : decode cc pc = .ok (.sipush n, 3)) (kk : zV X cells slots ws lv (.int v :: st) (pc + 3)) : zV X cells slots ws lv (st) pc := by
  obtain ⟨p, l, e, R, s, m, args, below, meth, c, D, cl', A, nL', Q⟩ := X
  obtain ⟨hx, hb, hml, ho, hts, rfl, hK, hA, hE, rfl, rfl⟩ := hC
  intro H locs ls hP hD hS h9
  exact lv_sipush hx hb hd hv (kk H locs ls hP hD hS h9)
theorem zr_lconst (hC : zC X cc own Ts cl tys E nL rm) {n : Fin 2} {v : Int64} (hv : Int64.ofNat (n : Nat) = v) (hd : decode cc pc = .ok (.lconst n, 1)) (kk : zV X cells slots ws lv (.long v :: st) (pc + 1)) : zV X cells slots ws lv (st) pc := by
  obtain ⟨p, l, e, R, s, m, args, below, meth, c, D, cl', A, nL', Q⟩ := X
  obtain ⟨hx, hb, hml, ho, hts, rfl, hK, hA, hE, rfl, rfl⟩ := hC
  intro H locs ls hP hD hS h9
  exact lv_lconst hx hb hd hv (kk H locs ls hP hD hS h9)
theorem zr_null (hC : zC X cc own Ts cl tys E nL rm)  (hd : decode cc pc = .ok (.aconst_null, 1)) (kk : zV X cells slots ws lv (.null :: st) (pc + 1)) : zV X cells slots ws lv (st) pc := by
  obtain ⟨p, l, e, R, s, m, args, below, meth, c, D, cl', A, nL', Q⟩ := X
  obtain ⟨hx, hb, hml, ho, hts, rfl, hK, hA, hE, rfl, rfl⟩ := hC
  intro H locs ls hP hD hS h9
  exact lv_null hx hb hd (kk H locs ls hP hD hS h9)
theorem zr_ldc (hC : zC X cc own Ts cl tys E nL rm) {index : Nat} {v : Int32} (hw : Jvm.Cond.constant own index v ∈ Ts) (hd : decode cc pc = .ok (.ldc index, 2)) (kk : zV X cells slots ws lv (.int v :: st) (pc + 2)) : zV X cells slots ws lv (st) pc := by
  obtain ⟨p, l, e, R, s, m, args, below, meth, c, D, cl', A, nL', Q⟩ := X
  obtain ⟨hx, hb, hml, ho, hts, rfl, hK, hA, hE, rfl, rfl⟩ := hC
  intro H locs ls hP hD hS h9
  exact lv_ldc hx hb ho (hts _ hw) hd (kk H locs ls hP hD hS h9)
theorem zr_ldcw (hC : zC X cc own Ts cl tys E nL rm) {index : Nat} {v : Int32} (hw : Jvm.Cond.constant own index v ∈ Ts) (hd : decode cc pc = .ok (.ldc_w index, 3)) (kk : zV X cells slots ws lv (.int v :: st) (pc + 3)) : zV X cells slots ws lv (st) pc := by
  obtain ⟨p, l, e, R, s, m, args, below, meth, c, D, cl', A, nL', Q⟩ := X
  obtain ⟨hx, hb, hml, ho, hts, rfl, hK, hA, hE, rfl, rfl⟩ := hC
  intro H locs ls hP hD hS h9
  exact lv_ldcw hx hb ho (hts _ hw) hd (kk H locs ls hP hD hS h9)
theorem zr_ldc2 (hC : zC X cc own Ts cl tys E nL rm) {index : Nat} {v : Int64} (hw : Jvm.Cond.constantLong own index v ∈ Ts) (hd : decode cc pc = .ok (.ldc2_w index, 3)) (kk : zV X cells slots ws lv (.long v :: st) (pc + 3)) : zV X cells slots ws lv (st) pc := by
  obtain ⟨p, l, e, R, s, m, args, below, meth, c, D, cl', A, nL', Q⟩ := X
  obtain ⟨hx, hb, hml, ho, hts, rfl, hK, hA, hE, rfl, rfl⟩ := hC
  intro H locs ls hP hD hS h9
  exact lv_ldc2 hx hb ho (hts _ hw) hd (kk H locs ls hP hD hS h9)
theorem zr_dup (hC : zC X cc own Ts cl tys E nL rm) {v : Value} (hv : v.category = 1) (hd : decode cc pc = .ok (.dup, 1)) (kk : zV X cells slots ws lv (v :: v :: st) (pc + 1)) : zV X cells slots ws lv (v :: st) pc := by
  obtain ⟨p, l, e, R, s, m, args, below, meth, c, D, cl', A, nL', Q⟩ := X
  obtain ⟨hx, hb, hml, ho, hts, rfl, hK, hA, hE, rfl, rfl⟩ := hC
  intro H locs ls hP hD hS h9
  exact lv_dup hx hb hd hv (kk H locs ls hP hD hS h9)
theorem zr_dup2 (hC : zC X cc own Ts cl tys E nL rm) {v u : Value} (hv : v.category = 1) (hu : u.category = 1) (hd : decode cc pc = .ok (.dup2, 1)) (kk : zV X cells slots ws lv (v :: u :: v :: u :: st) (pc + 1)) : zV X cells slots ws lv (v :: u :: st) pc := by
  obtain ⟨p, l, e, R, s, m, args, below, meth, c, D, cl', A, nL', Q⟩ := X
  obtain ⟨hx, hb, hml, ho, hts, rfl, hK, hA, hE, rfl, rfl⟩ := hC
  intro H locs ls hP hD hS h9
  exact lv_dup2_11 hx hb hd hv hu (kk H locs ls hP hD hS h9)
theorem zr_pop (hC : zC X cc own Ts cl tys E nL rm) {v : Value} (hv : v.category = 1) (hd : decode cc pc = .ok (.pop, 1)) (kk : zV X cells slots ws lv (st) (pc + 1)) : zV X cells slots ws lv (v :: st) pc := by
  obtain ⟨p, l, e, R, s, m, args, below, meth, c, D, cl', A, nL', Q⟩ := X
  obtain ⟨hx, hb, hml, ho, hts, rfl, hK, hA, hE, rfl, rfl⟩ := hC
  intro H locs ls hP hD hS h9
  exact lv_pop hx hb hd hv (kk H locs ls hP hD hS h9)
theorem zr_iload_n (hC : zC X cc own Ts cl tys E nL rm) {k : Fin 4} {i : Nat} {x : Int32} (q : Nat) (hi : (k : Nat) = i) (hq : lv[q]? = some (i, .int x)) (hd : decode cc pc = .ok (.iload_n k, 1)) (kk : zV X cells slots ws lv (.int x :: st) (pc + 1)) : zV X cells slots ws lv (st) pc := by
  obtain ⟨p, l, e, R, s, m, args, below, meth, c, D, cl', A, nL', Q⟩ := X
  obtain ⟨hx, hb, hml, ho, hts, rfl, hK, hA, hE, rfl, rfl⟩ := hC
  intro H locs ls hP hD hS h9
  exact lv_iload_n hx hb hd hi (lv_at h9 q hq) (kk H locs ls hP hD hS h9)
theorem zr_iload (hC : zC X cc own Ts cl tys E nL rm) {i : Nat} {x : Int32} (q : Nat) (hq : lv[q]? = some (i, .int x)) (hd : decode cc pc = .ok (.iload i, 2)) (kk : zV X cells slots ws lv (.int x :: st) (pc + 2)) : zV X cells slots ws lv (st) pc := by
  obtain ⟨p, l, e, R, s, m, args, below, meth, c, D, cl', A, nL', Q⟩ := X
  obtain ⟨hx, hb, hml, ho, hts, rfl, hK, hA, hE, rfl, rfl⟩ := hC
  intro H locs ls hP hD hS h9
  exact lv_iload hx hb hd (lv_at h9 q hq) (kk H locs ls hP hD hS h9)
theorem zr_lload_n (hC : zC X cc own Ts cl tys E nL rm) {k : Fin 4} {i : Nat} {x : Int64} (q : Nat) (hi : (k : Nat) = i) (hq : lv[q]? = some (i, .long x)) (hd : decode cc pc = .ok (.lload_n k, 1)) (kk : zV X cells slots ws lv (.long x :: st) (pc + 1)) : zV X cells slots ws lv (st) pc := by
  obtain ⟨p, l, e, R, s, m, args, below, meth, c, D, cl', A, nL', Q⟩ := X
  obtain ⟨hx, hb, hml, ho, hts, rfl, hK, hA, hE, rfl, rfl⟩ := hC
  intro H locs ls hP hD hS h9
  exact lv_lload_n hx hb hd hi (lv_at h9 q hq) (kk H locs ls hP hD hS h9)
theorem zr_lload (hC : zC X cc own Ts cl tys E nL rm) {i : Nat} {x : Int64} (q : Nat) (hq : lv[q]? = some (i, .long x)) (hd : decode cc pc = .ok (.lload i, 2)) (kk : zV X cells slots ws lv (.long x :: st) (pc + 2)) : zV X cells slots ws lv (st) pc := by
  obtain ⟨p, l, e, R, s, m, args, below, meth, c, D, cl', A, nL', Q⟩ := X
  obtain ⟨hx, hb, hml, ho, hts, rfl, hK, hA, hE, rfl, rfl⟩ := hC
  intro H locs ls hP hD hS h9
  exact lv_lload hx hb hd (lv_at h9 q hq) (kk H locs ls hP hD hS h9)
theorem zr_aload_n (hC : zC X cc own Ts cl tys E nL rm) {k : Fin 4} {i : Nat} {x : Nat} (q : Nat) (hi : (k : Nat) = i) (hq : lv[q]? = some (i, .ref x)) (hd : decode cc pc = .ok (.aload_n k, 1)) (kk : zV X cells slots ws lv (.ref x :: st) (pc + 1)) : zV X cells slots ws lv (st) pc := by
  obtain ⟨p, l, e, R, s, m, args, below, meth, c, D, cl', A, nL', Q⟩ := X
  obtain ⟨hx, hb, hml, ho, hts, rfl, hK, hA, hE, rfl, rfl⟩ := hC
  intro H locs ls hP hD hS h9
  exact lv_aload_n hx hb hd hi (lv_at h9 q hq) (kk H locs ls hP hD hS h9)
theorem zr_aload (hC : zC X cc own Ts cl tys E nL rm) {i : Nat} {x : Nat} (q : Nat) (hq : lv[q]? = some (i, .ref x)) (hd : decode cc pc = .ok (.aload i, 2)) (kk : zV X cells slots ws lv (.ref x :: st) (pc + 2)) : zV X cells slots ws lv (st) pc := by
  obtain ⟨p, l, e, R, s, m, args, below, meth, c, D, cl', A, nL', Q⟩ := X
  obtain ⟨hx, hb, hml, ho, hts, rfl, hK, hA, hE, rfl, rfl⟩ := hC
  intro H locs ls hP hD hS h9
  exact lv_aload hx hb hd (lv_at h9 q hq) (kk H locs ls hP hD hS h9)
theorem zr_aload_nO (hC : zC X cc own Ts cl tys E nL rm) {k : Fin 4} {i : Nat} {x : Option Nat} (q : Nat) (hi : (k : Nat) = i) (hq : lv[q]? = some (i, va_rf x)) (hd : decode cc pc = .ok (.aload_n k, 1)) (kk : zV X cells slots ws lv (va_rf x :: st) (pc + 1)) : zV X cells slots ws lv st pc := by
  cases x with
  | none =>
    obtain ⟨p, l, e, R, s, m, args, below, meth, c, D, cl', A, nL', Q⟩ := X
    obtain ⟨hx, hb, hml, ho, hts, rfl, hK, hA, hE, rfl, rfl⟩ := hC
    intro H locs ls hP hD hS h9
    exact lv_aload_nN hx hb hd hi (lv_at h9 q hq) (kk H locs ls hP hD hS h9)
  | some a => exact zr_aload_n hC q hi hq hd kk
theorem zr_aloadO (hC : zC X cc own Ts cl tys E nL rm) {i : Nat} {x : Option Nat} (q : Nat) (hq : lv[q]? = some (i, va_rf x)) (hd : decode cc pc = .ok (.aload i, 2)) (kk : zV X cells slots ws lv (va_rf x :: st) (pc + 2)) : zV X cells slots ws lv st pc := by
  cases x with
  | none =>
    obtain ⟨p, l, e, R, s, m, args, below, meth, c, D, cl', A, nL', Q⟩ := X
    obtain ⟨hx, hb, hml, ho, hts, rfl, hK, hA, hE, rfl, rfl⟩ := hC
    intro H locs ls hP hD hS h9
    exact lv_aloadN hx hb hd (lv_at h9 q hq) (kk H locs ls hP hD hS h9)
  | some a => exact zr_aload hC q hq hd kk
theorem zr_istore_n (hC : zC X cc own Ts cl tys E nL rm) {k : Fin 4} {i : Nat} {x : Int32} (hi : (k : Nat) = i) (hn : i < nL) (hl : (i, Value.int x) :: lv.filter (fun q => !(q.1 == i) && !(q.1 + 1 == i && q.2.category == 2)) = lv') (hd : decode cc pc = .ok (.istore_n k, 1)) (kk : zV X cells slots ws lv' (st) (pc + 1)) : zV X cells slots ws lv (.int x :: st) pc := by
  obtain ⟨p, l, e, R, s, m, args, below, meth, c, D, cl', A, nL', Q⟩ := X
  obtain ⟨hx, hb, hml, ho, hts, rfl, hK, hA, hE, rfl, rfl⟩ := hC
  intro H locs ls hP hD hS h9
  exact lv_istore_n hx hb hd hi h9 hn hl (fun ls h9 => kk H locs ls hP hD hS h9)
theorem zr_istore (hC : zC X cc own Ts cl tys E nL rm) {i : Nat} {x : Int32} (hn : i < nL) (hl : (i, Value.int x) :: lv.filter (fun q => !(q.1 == i) && !(q.1 + 1 == i && q.2.category == 2)) = lv') (hd : decode cc pc = .ok (.istore i, 2)) (kk : zV X cells slots ws lv' (st) (pc + 2)) : zV X cells slots ws lv (.int x :: st) pc := by
  obtain ⟨p, l, e, R, s, m, args, below, meth, c, D, cl', A, nL', Q⟩ := X
  obtain ⟨hx, hb, hml, ho, hts, rfl, hK, hA, hE, rfl, rfl⟩ := hC
  intro H locs ls hP hD hS h9
  exact lv_istore hx hb hd h9 hn hl (fun ls h9 => kk H locs ls hP hD hS h9)
theorem zr_astore_n (hC : zC X cc own Ts cl tys E nL rm) {k : Fin 4} {i : Nat} {x : Nat} (hi : (k : Nat) = i) (hn : i < nL) (hl : (i, Value.ref x) :: lv.filter (fun q => !(q.1 == i) && !(q.1 + 1 == i && q.2.category == 2)) = lv') (hd : decode cc pc = .ok (.astore_n k, 1)) (kk : zV X cells slots ws lv' (st) (pc + 1)) : zV X cells slots ws lv (.ref x :: st) pc := by
  obtain ⟨p, l, e, R, s, m, args, below, meth, c, D, cl', A, nL', Q⟩ := X
  obtain ⟨hx, hb, hml, ho, hts, rfl, hK, hA, hE, rfl, rfl⟩ := hC
  intro H locs ls hP hD hS h9
  exact lv_astore_n hx hb hd hi h9 hn hl (fun ls h9 => kk H locs ls hP hD hS h9)
theorem zr_astore (hC : zC X cc own Ts cl tys E nL rm) {i : Nat} {x : Nat} (hn : i < nL) (hl : (i, Value.ref x) :: lv.filter (fun q => !(q.1 == i) && !(q.1 + 1 == i && q.2.category == 2)) = lv') (hd : decode cc pc = .ok (.astore i, 2)) (kk : zV X cells slots ws lv' (st) (pc + 2)) : zV X cells slots ws lv (.ref x :: st) pc := by
  obtain ⟨p, l, e, R, s, m, args, below, meth, c, D, cl', A, nL', Q⟩ := X
  obtain ⟨hx, hb, hml, ho, hts, rfl, hK, hA, hE, rfl, rfl⟩ := hC
  intro H locs ls hP hD hS h9
  exact lv_astore hx hb hd h9 hn hl (fun ls h9 => kk H locs ls hP hD hS h9)
theorem zr_lstore_n (hC : zC X cc own Ts cl tys E nL rm) {k : Fin 4} {i : Nat} {x : Int64} (hi : (k : Nat) = i) (hn : i + 1 < nL) (hl : (i, Value.long x) :: lv.filter (fun q => !(q.1 == i) && (!(q.1 == i + 1) && !(q.1 + 1 == i && q.2.category == 2))) = lv') (hd : decode cc pc = .ok (.lstore_n k, 1)) (kk : zV X cells slots ws lv' (st) (pc + 1)) : zV X cells slots ws lv (.long x :: st) pc := by
  obtain ⟨p, l, e, R, s, m, args, below, meth, c, D, cl', A, nL', Q⟩ := X
  obtain ⟨hx, hb, hml, ho, hts, rfl, hK, hA, hE, rfl, rfl⟩ := hC
  intro H locs ls hP hD hS h9
  exact lv_lstore_n hx hb hd hi h9 hn hl (fun ls h9 => kk H locs ls hP hD hS h9)
theorem zr_lstore (hC : zC X cc own Ts cl tys E nL rm) {i : Nat} {x : Int64} (hn : i + 1 < nL) (hl : (i, Value.long x) :: lv.filter (fun q => !(q.1 == i) && (!(q.1 == i + 1) && !(q.1 + 1 == i && q.2.category == 2))) = lv') (hd : decode cc pc = .ok (.lstore i, 2)) (kk : zV X cells slots ws lv' (st) (pc + 2)) : zV X cells slots ws lv (.long x :: st) pc := by
  obtain ⟨p, l, e, R, s, m, args, below, meth, c, D, cl', A, nL', Q⟩ := X
  obtain ⟨hx, hb, hml, ho, hts, rfl, hK, hA, hE, rfl, rfl⟩ := hC
  intro H locs ls hP hD hS h9
  exact lv_lstore hx hb hd h9 hn hl (fun ls h9 => kk H locs ls hP hD hS h9)
theorem zr_astore_nO (hC : zC X cc own Ts cl tys E nL rm) {k : Fin 4} {i : Nat} {x : Option Nat} (hi : (k : Nat) = i) (hn : i < nL) (hl : (i, va_rf x) :: lv.filter (fun q => !(q.1 == i) && !(q.1 + 1 == i && q.2.category == 2)) = lv') (hd : decode cc pc = .ok (.astore_n k, 1)) (kk : zV X cells slots ws lv' st (pc + 1)) : zV X cells slots ws lv (va_rf x :: st) pc := by
  cases x with
  | none =>
    obtain ⟨p, l, e, R, s, m, args, below, meth, c, D, cl', A, nL', Q⟩ := X
    obtain ⟨hx, hb, hml, ho, hts, rfl, hK, hA, hE, rfl, rfl⟩ := hC
    intro H locs ls hP hD hS h9
    exact lv_astore_nN hx hb hd hi h9 hn hl (fun ls h9 => kk H locs ls hP hD hS h9)
  | some a => exact zr_astore_n hC hi hn hl hd kk
theorem zr_astoreO (hC : zC X cc own Ts cl tys E nL rm) {i : Nat} {x : Option Nat} (hn : i < nL) (hl : (i, va_rf x) :: lv.filter (fun q => !(q.1 == i) && !(q.1 + 1 == i && q.2.category == 2)) = lv') (hd : decode cc pc = .ok (.astore i, 2)) (kk : zV X cells slots ws lv' st (pc + 2)) : zV X cells slots ws lv (va_rf x :: st) pc := by
  cases x with
  | none =>
    obtain ⟨p, l, e, R, s, m, args, below, meth, c, D, cl', A, nL', Q⟩ := X
    obtain ⟨hx, hb, hml, ho, hts, rfl, hK, hA, hE, rfl, rfl⟩ := hC
    intro H locs ls hP hD hS h9
    exact lv_astoreN hx hb hd h9 hn hl (fun ls h9 => kk H locs ls hP hD hS h9)
  | some a => exact zr_astore hC hn hl hd kk
theorem zr_iinc (hC : zC X cc own Ts cl tys E nL rm) {i k : Nat} {n : Int} {x y : Int32} (hy : Int32.ofInt n = y) (hn : i < nL) (hk : lv[k]? = some (i, .int x)) (hl : (i, Value.int (x + y)) :: lv.filter (fun q => !(q.1 == i) && !(q.1 + 1 == i && q.2.category == 2)) = lv') (hd : decode cc pc = .ok (.iinc i n, 3)) (kk : zV X cells slots ws lv' (st) (pc + 3)) : zV X cells slots ws lv (st) pc := by
  obtain ⟨p, l, e, R, s, m, args, below, meth, c, D, cl', A, nL', Q⟩ := X
  obtain ⟨hx, hb, hml, ho, hts, rfl, hK, hA, hE, rfl, rfl⟩ := hC
  intro H locs ls hP hD hS h9
  exact lv_iinc hx hb hd h9 hk (by rw [hy]) hn hl (fun ls h9 => kk H locs ls hP hD hS h9)
theorem zr_if_eq (hC : zC X cc own Ts cl tys E nL rm) {x : Int32} {off : Int} {tgt : Nat} (hd : decode cc pc = .ok (.ifCond .eq off, 3)) (ht : (pc : Int) + off = (tgt : Int)) (kt : x = 0 → zV X cells slots ws lv st tgt) (kf : ¬ x = 0 → zV X cells slots ws lv st (pc + 3)) : zV X cells slots ws lv (.int x :: st) pc := by
  obtain ⟨p, l, e, R, s, m, args, below, meth, c, D, cl', A, nL', Q⟩ := X
  obtain ⟨hx, hb, hml, ho, hts, rfl, hK, hA, hE, rfl, rfl⟩ := hC
  intro H locs ls hP hD hS h9
  exact lv_if_eq hx hb hd ht (fun h => kt h H locs ls hP hD hS h9) (fun h => kf h H locs ls hP hD hS h9)
theorem zr_icmp_eq (hC : zC X cc own Ts cl tys E nL rm) {x y : Int32} {off : Int} {tgt : Nat} (hd : decode cc pc = .ok (.if_icmp .eq off, 3)) (ht : (pc : Int) + off = (tgt : Int)) (kt : x = y → zV X cells slots ws lv st tgt) (kf : ¬ x = y → zV X cells slots ws lv st (pc + 3)) : zV X cells slots ws lv (.int y :: .int x :: st) pc := by
  obtain ⟨p, l, e, R, s, m, args, below, meth, c, D, cl', A, nL', Q⟩ := X
  obtain ⟨hx, hb, hml, ho, hts, rfl, hK, hA, hE, rfl, rfl⟩ := hC
  intro H locs ls hP hD hS h9
  exact lv_icmp_eq hx hb hd ht (fun h => kt h H locs ls hP hD hS h9) (fun h => kf h H locs ls hP hD hS h9)
theorem zr_if_ne (hC : zC X cc own Ts cl tys E nL rm) {x : Int32} {off : Int} {tgt : Nat} (hd : decode cc pc = .ok (.ifCond .ne off, 3)) (ht : (pc : Int) + off = (tgt : Int)) (kt : ¬ x = 0 → zV X cells slots ws lv st tgt) (kf : x = 0 → zV X cells slots ws lv st (pc + 3)) : zV X cells slots ws lv (.int x :: st) pc := by
  obtain ⟨p, l, e, R, s, m, args, below, meth, c, D, cl', A, nL', Q⟩ := X
  obtain ⟨hx, hb, hml, ho, hts, rfl, hK, hA, hE, rfl, rfl⟩ := hC
  intro H locs ls hP hD hS h9
  exact lv_if_ne hx hb hd ht (fun h => kt h H locs ls hP hD hS h9) (fun h => kf h H locs ls hP hD hS h9)
theorem zr_icmp_ne (hC : zC X cc own Ts cl tys E nL rm) {x y : Int32} {off : Int} {tgt : Nat} (hd : decode cc pc = .ok (.if_icmp .ne off, 3)) (ht : (pc : Int) + off = (tgt : Int)) (kt : ¬ x = y → zV X cells slots ws lv st tgt) (kf : x = y → zV X cells slots ws lv st (pc + 3)) : zV X cells slots ws lv (.int y :: .int x :: st) pc := by
  obtain ⟨p, l, e, R, s, m, args, below, meth, c, D, cl', A, nL', Q⟩ := X
  obtain ⟨hx, hb, hml, ho, hts, rfl, hK, hA, hE, rfl, rfl⟩ := hC
  intro H locs ls hP hD hS h9
  exact lv_icmp_ne hx hb hd ht (fun h => kt h H locs ls hP hD hS h9) (fun h => kf h H locs ls hP hD hS h9)
theorem zr_if_lt (hC : zC X cc own Ts cl tys E nL rm) {x : Int32} {off : Int} {tgt : Nat} (hd : decode cc pc = .ok (.ifCond .lt off, 3)) (ht : (pc : Int) + off = (tgt : Int)) (kt : x < 0 → zV X cells slots ws lv st tgt) (kf : ¬ x < 0 → zV X cells slots ws lv st (pc + 3)) : zV X cells slots ws lv (.int x :: st) pc := by
  obtain ⟨p, l, e, R, s, m, args, below, meth, c, D, cl', A, nL', Q⟩ := X
  obtain ⟨hx, hb, hml, ho, hts, rfl, hK, hA, hE, rfl, rfl⟩ := hC
  intro H locs ls hP hD hS h9
  exact lv_if_lt hx hb hd ht (fun h => kt h H locs ls hP hD hS h9) (fun h => kf h H locs ls hP hD hS h9)
theorem zr_icmp_lt (hC : zC X cc own Ts cl tys E nL rm) {x y : Int32} {off : Int} {tgt : Nat} (hd : decode cc pc = .ok (.if_icmp .lt off, 3)) (ht : (pc : Int) + off = (tgt : Int)) (kt : x < y → zV X cells slots ws lv st tgt) (kf : ¬ x < y → zV X cells slots ws lv st (pc + 3)) : zV X cells slots ws lv (.int y :: .int x :: st) pc := by
  obtain ⟨p, l, e, R, s, m, args, below, meth, c, D, cl', A, nL', Q⟩ := X
  obtain ⟨hx, hb, hml, ho, hts, rfl, hK, hA, hE, rfl, rfl⟩ := hC
  intro H locs ls hP hD hS h9
  exact lv_icmp_lt hx hb hd ht (fun h => kt h H locs ls hP hD hS h9) (fun h => kf h H locs ls hP hD hS h9)
theorem zr_if_ge (hC : zC X cc own Ts cl tys E nL rm) {x : Int32} {off : Int} {tgt : Nat} (hd : decode cc pc = .ok (.ifCond .ge off, 3)) (ht : (pc : Int) + off = (tgt : Int)) (kt : 0 ≤ x → zV X cells slots ws lv st tgt) (kf : ¬ 0 ≤ x → zV X cells slots ws lv st (pc + 3)) : zV X cells slots ws lv (.int x :: st) pc := by
  obtain ⟨p, l, e, R, s, m, args, below, meth, c, D, cl', A, nL', Q⟩ := X
  obtain ⟨hx, hb, hml, ho, hts, rfl, hK, hA, hE, rfl, rfl⟩ := hC
  intro H locs ls hP hD hS h9
  exact lv_if_ge hx hb hd ht (fun h => kt h H locs ls hP hD hS h9) (fun h => kf h H locs ls hP hD hS h9)
theorem zr_icmp_ge (hC : zC X cc own Ts cl tys E nL rm) {x y : Int32} {off : Int} {tgt : Nat} (hd : decode cc pc = .ok (.if_icmp .ge off, 3)) (ht : (pc : Int) + off = (tgt : Int)) (kt : y ≤ x → zV X cells slots ws lv st tgt) (kf : ¬ y ≤ x → zV X cells slots ws lv st (pc + 3)) : zV X cells slots ws lv (.int y :: .int x :: st) pc := by
  obtain ⟨p, l, e, R, s, m, args, below, meth, c, D, cl', A, nL', Q⟩ := X
  obtain ⟨hx, hb, hml, ho, hts, rfl, hK, hA, hE, rfl, rfl⟩ := hC
  intro H locs ls hP hD hS h9
  exact lv_icmp_ge hx hb hd ht (fun h => kt h H locs ls hP hD hS h9) (fun h => kf h H locs ls hP hD hS h9)
theorem zr_if_gt (hC : zC X cc own Ts cl tys E nL rm) {x : Int32} {off : Int} {tgt : Nat} (hd : decode cc pc = .ok (.ifCond .gt off, 3)) (ht : (pc : Int) + off = (tgt : Int)) (kt : 0 < x → zV X cells slots ws lv st tgt) (kf : ¬ 0 < x → zV X cells slots ws lv st (pc + 3)) : zV X cells slots ws lv (.int x :: st) pc := by
  obtain ⟨p, l, e, R, s, m, args, below, meth, c, D, cl', A, nL', Q⟩ := X
  obtain ⟨hx, hb, hml, ho, hts, rfl, hK, hA, hE, rfl, rfl⟩ := hC
  intro H locs ls hP hD hS h9
  exact lv_if_gt hx hb hd ht (fun h => kt h H locs ls hP hD hS h9) (fun h => kf h H locs ls hP hD hS h9)
theorem zr_icmp_gt (hC : zC X cc own Ts cl tys E nL rm) {x y : Int32} {off : Int} {tgt : Nat} (hd : decode cc pc = .ok (.if_icmp .gt off, 3)) (ht : (pc : Int) + off = (tgt : Int)) (kt : y < x → zV X cells slots ws lv st tgt) (kf : ¬ y < x → zV X cells slots ws lv st (pc + 3)) : zV X cells slots ws lv (.int y :: .int x :: st) pc := by
  obtain ⟨p, l, e, R, s, m, args, below, meth, c, D, cl', A, nL', Q⟩ := X
  obtain ⟨hx, hb, hml, ho, hts, rfl, hK, hA, hE, rfl, rfl⟩ := hC
  intro H locs ls hP hD hS h9
  exact lv_icmp_gt hx hb hd ht (fun h => kt h H locs ls hP hD hS h9) (fun h => kf h H locs ls hP hD hS h9)
theorem zr_if_le (hC : zC X cc own Ts cl tys E nL rm) {x : Int32} {off : Int} {tgt : Nat} (hd : decode cc pc = .ok (.ifCond .le off, 3)) (ht : (pc : Int) + off = (tgt : Int)) (kt : x ≤ 0 → zV X cells slots ws lv st tgt) (kf : ¬ x ≤ 0 → zV X cells slots ws lv st (pc + 3)) : zV X cells slots ws lv (.int x :: st) pc := by
  obtain ⟨p, l, e, R, s, m, args, below, meth, c, D, cl', A, nL', Q⟩ := X
  obtain ⟨hx, hb, hml, ho, hts, rfl, hK, hA, hE, rfl, rfl⟩ := hC
  intro H locs ls hP hD hS h9
  exact lv_if_le hx hb hd ht (fun h => kt h H locs ls hP hD hS h9) (fun h => kf h H locs ls hP hD hS h9)
theorem zr_icmp_le (hC : zC X cc own Ts cl tys E nL rm) {x y : Int32} {off : Int} {tgt : Nat} (hd : decode cc pc = .ok (.if_icmp .le off, 3)) (ht : (pc : Int) + off = (tgt : Int)) (kt : x ≤ y → zV X cells slots ws lv st tgt) (kf : ¬ x ≤ y → zV X cells slots ws lv st (pc + 3)) : zV X cells slots ws lv (.int y :: .int x :: st) pc := by
  obtain ⟨p, l, e, R, s, m, args, below, meth, c, D, cl', A, nL', Q⟩ := X
  obtain ⟨hx, hb, hml, ho, hts, rfl, hK, hA, hE, rfl, rfl⟩ := hC
  intro H locs ls hP hD hS h9
  exact lv_icmp_le hx hb hd ht (fun h => kt h H locs ls hP hD hS h9) (fun h => kf h H locs ls hP hD hS h9)
theorem zr_goto (hC : zC X cc own Ts cl tys E nL rm) {off : Int} {tgt : Nat} (hd : decode cc pc = .ok (.goto off, 3)) (ht : (pc : Int) + off = (tgt : Int)) (kk : zV X cells slots ws lv st tgt) : zV X cells slots ws lv st pc := by
  obtain ⟨p, l, e, R, s, m, args, below, meth, c, D, cl', A, nL', Q⟩ := X
  obtain ⟨hx, hb, hml, ho, hts, rfl, hK, hA, hE, rfl, rfl⟩ := hC
  intro H locs ls hP hD hS h9
  exact lv_goto hx hb hd ht (kk H locs ls hP hD hS h9)
theorem zr_ifnull (hC : zC X cc own Ts cl tys E nL rm) {x : Option Nat} {off : Int} {tgt : Nat} (hd : decode cc pc = .ok (.ifnull off, 3)) (ht : (pc : Int) + off = (tgt : Int)) (kt : x = none → zV X cells slots ws lv st tgt) (kf : ∀ a, x = some a → zV X cells slots ws lv st (pc + 3)) : zV X cells slots ws lv (va_rf x :: st) pc := by
  cases x with
  | none =>
    have kk := kt rfl
    obtain ⟨p, l, e, R, s, m, args, below, meth, c, D, cl', A, nL', Q⟩ := X
    obtain ⟨hx, hb, hml, ho, hts, rfl, hK, hA, hE, rfl, rfl⟩ := hC
    intro H locs ls hP hD hS h9
    exact lv_ifnullN hx hb hd ht (kk H locs ls hP hD hS h9)
  | some a =>
    have kk := kf a rfl
    obtain ⟨p, l, e, R, s, m, args, below, meth, c, D, cl', A, nL', Q⟩ := X
    obtain ⟨hx, hb, hml, ho, hts, rfl, hK, hA, hE, rfl, rfl⟩ := hC
    intro H locs ls hP hD hS h9
    exact lv_ifnull hx hb hd (kk H locs ls hP hD hS h9)
theorem zr_ifnonnull (hC : zC X cc own Ts cl tys E nL rm) {x : Option Nat} {off : Int} {tgt : Nat} (hd : decode cc pc = .ok (.ifnonnull off, 3)) (ht : (pc : Int) + off = (tgt : Int)) (kt : ∀ a, x = some a → zV X cells slots ws lv st tgt) (kf : x = none → zV X cells slots ws lv st (pc + 3)) : zV X cells slots ws lv (va_rf x :: st) pc := by
  cases x with
  | none =>
    have kk := kf rfl
    obtain ⟨p, l, e, R, s, m, args, below, meth, c, D, cl', A, nL', Q⟩ := X
    obtain ⟨hx, hb, hml, ho, hts, rfl, hK, hA, hE, rfl, rfl⟩ := hC
    intro H locs ls hP hD hS h9
    exact lv_ifnonnullN hx hb hd (kk H locs ls hP hD hS h9)
  | some a =>
    have kk := kt a rfl
    obtain ⟨p, l, e, R, s, m, args, below, meth, c, D, cl', A, nL', Q⟩ := X
    obtain ⟨hx, hb, hml, ho, hts, rfl, hK, hA, hE, rfl, rfl⟩ := hC
    intro H locs ls hP hD hS h9
    exact lv_ifnonnull hx hb hd ht (kk H locs ls hP hD hS h9)
theorem zr_tabIn (hC : zC X cc own Ts cl tys E nL rm) {dflt lo hi : Int} {offs : Array Int} {len : Nat} {x : Int32} {off : Int} {tgt : Nat} (hd : decode cc pc = .ok (.tableswitch dflt lo hi offs, len)) (h1 : ¬ x.toInt < lo) (h2 : ¬ hi < x.toInt) (ho2 : offs[(x.toInt - lo).toNat]? = some off) (ht : (pc : Int) + off = (tgt : Int)) (kk : zV X cells slots ws lv st tgt) : zV X cells slots ws lv (.int x :: st) pc := by
  obtain ⟨p, l, e, R, s, m, args, below, meth, c, D, cl', A, nL', Q⟩ := X
  obtain ⟨hx, hb, hml, ho, hts, rfl, hK, hA, hE, rfl, rfl⟩ := hC
  intro H locs ls hP hD hS h9
  exact lv_tableIn hx hb hd h1 h2 ho2 ht (kk H locs ls hP hD hS h9)
theorem zr_tabOut (hC : zC X cc own Ts cl tys E nL rm) {dflt lo hi : Int} {offs : Array Int} {len : Nat} {x : Int32} {tgt : Nat} (hd : decode cc pc = .ok (.tableswitch dflt lo hi offs, len)) (h : x.toInt < lo ∨ hi < x.toInt) (ht : (pc : Int) + dflt = (tgt : Int)) (kk : zV X cells slots ws lv st tgt) : zV X cells slots ws lv (.int x :: st) pc := by
  obtain ⟨p, l, e, R, s, m, args, below, meth, c, D, cl', A, nL', Q⟩ := X
  obtain ⟨hx, hb, hml, ho, hts, rfl, hK, hA, hE, rfl, rfl⟩ := hC
  intro H locs ls hP hD hS h9
  exact lv_tableOut hx hb hd h ht (kk H locs ls hP hD hS h9)
theorem zr_lookup (hC : zC X cc own Ts cl tys E nL rm) {dflt : Int} {ps : Array (Int × Int)} {len : Nat} {x : Int32} {off : Int} {tgt : Nat} (hd : decode cc pc = .ok (.lookupswitch dflt ps, len)) (hp : (ps.toList.zip (ps.toList.drop 1)).all (fun (a, next) => a.1 < next.1) = true) (ho2 : Op.lookupswitch.offset ps.toList dflt x.toInt = off) (ht : (pc : Int) + off = (tgt : Int)) (kk : zV X cells slots ws lv st tgt) : zV X cells slots ws lv (.int x :: st) pc := by
  obtain ⟨p, l, e, R, s, m, args, below, meth, c, D, cl', A, nL', Q⟩ := X
  obtain ⟨hx, hb, hml, ho, hts, rfl, hK, hA, hE, rfl, rfl⟩ := hC
  intro H locs ls hP hD hS h9
  exact lv_lookup hx hb hd hp ho2 ht (kk H locs ls hP hD hS h9)
theorem zr_get (hC : zC X cc own Ts cl tys E nL rm) {ad : Nat → Nat} {f : Nat → va_E} {N : Nat} (j : Nat) {ci : Nat} {fs : List Value} {C ref : String} {T : u_T} {Nn index : Nat} (hin : ∀ w ∈ u_ws C T Nn, w ∈ Ts) (hj : j < N) (hf : f j = .inr (ci, fs)) (hc : cl[ci]? = some (C, T, Nn)) (k : Nat) (hk : k < Nn) (hl : Cond.fieldLink own index ref (T k).2.1 (T k).2.2.1 ∈ Ts) (hs : (T k).1 = ref) {v : Value} (hv : fs[k]? = some v) (hd : decode cc pc = .ok (.getfield index, 3)) (kk : zV X cells slots (zw ad f N) lv (v :: st) (pc + 3)) : zV X cells slots (zw ad f N) lv (.ref (ad j) :: st) pc := by
  obtain ⟨p, l, e, R, s, m, args, below, meth, c, D, cl', A, nL', Q⟩ := X
  obtain ⟨hx, hb, hml, ho, hts, rfl, hK, hA, hE, rfl, rfl⟩ := hC
  intro H locs ls hP hD hS h9
  exact va_get (D := D) hx hb hts hin ho hK hP j (by rw [zw_get hj, hf]) hc k hk (hts _ hl) (fun _ h => by rw [← hs]; exact h) hv hd (kk H locs ls hP hD hS h9)
theorem zr_put (hC : zC X cc own Ts cl tys E nL rm) {ad : Nat → Nat} {f : Nat → va_E} {N : Nat} {f' : Nat → va_E} (j : Nat) {ci : Nat} {fs : List Value} {C ref : String} {T : u_T} {Nn index : Nat} (hin : ∀ w ∈ u_ws C T Nn, w ∈ Ts) (ty0 : Nat → FieldType) (hty : ∀ k, k < Nn → parseFieldDescriptor (T k).2.2.1 = some (ty0 k)) (hnm : ∀ a, a < Nn → ∀ b, b < Nn → a ≠ b → (T a).2.1 ≠ (T b).2.1) (hj : j < N) (hf : f j = .inr (ci, fs)) (hc : cl[ci]? = some (C, T, Nn)) (k : Nat) (hk : k < Nn) (hl : Cond.fieldLink own index ref (T k).2.1 (T k).2.2.1 ∈ Ts) (hs : (T k).1 = ref) (hfin : (T k).2.2.2 = false) {ty : FieldType} {v : Value} (hty2 : ty0 k = ty) (hn : narrow ty v = v) (hfit : fits ty v = true) (hlen : k < fs.length) (hf2 : ∀ i, (if i = j then .inr (ci, fs.set k v) else f i) = f' i) (hd : decode cc pc = .ok (.putfield index, 3)) (kk : zV X cells slots (zw ad f' N) lv st (pc + 3)) : zV X cells slots (zw ad f N) lv (v :: .ref (ad j) :: st) pc := by
  obtain ⟨p, l, e, R, s, m, args, below, meth, c, D, cl', A, nL', Q⟩ := X
  obtain ⟨hx, hb, hml, ho, hts, rfl, hK, hA, hE, rfl, rfl⟩ := hC
  intro H locs ls hP hD hS h9
  refine va_put (D := D) hx hb hts hin ty0 hty hnm ho hK hP hD hS j (by rw [zw_get hj, hf]) hc k hk (hts _ hl) (fun _ h => by rw [← hs]; exact h) hfin (hty2 ▸ hty k hk) hn hfit hlen hd (fun H locs hP hD hS => ?_)
  rw [zw_set hf2] at hP hD
  exact kk H locs ls hP hD hS h9
theorem zr_iald (hC : zC X cc own Ts cl tys E nL rm) {ad : Nat → Nat} {f : Nat → va_E} {N : Nat} (j t0 : Nat) {cA : ClassId} {n : Nat} {g : Nat → Int32} {i : Int32} (hj : j < N) (hf : f j = .inl (cA, n, .inl g)) (ht : tys[t0]? = some (cA, .int)) (hi : ¬ (i < 0 ∨ n ≤ i.toNatClampNeg)) (hd : decode cc pc = .ok (.iaload, 1)) (kk : zV X cells slots (zw ad f N) lv (.int (g i.toNatClampNeg) :: st) (pc + 1)) : zV X cells slots (zw ad f N) lv (.int i :: .ref (ad j) :: st) pc := by
  obtain ⟨p, l, e, R, s, m, args, below, meth, c, D, cl', A, nL', Q⟩ := X
  obtain ⟨hx, hb, hml, ho, hts, rfl, hK, hA, hE, rfl, rfl⟩ := hC
  intro H locs ls hP hD hS h9
  exact va_iald (D := D) hx hb hK hP j t0 (by rw [zw_get hj, hf]) ht hi hd (kk H locs ls hP hD hS h9)
theorem zr_lald (hC : zC X cc own Ts cl tys E nL rm) {ad : Nat → Nat} {f : Nat → va_E} {N : Nat} (j t0 : Nat) {cA : ClassId} {n : Nat} {g : Nat → Int64} {i : Int32} (hj : j < N) (hf : f j = .inl (cA, n, .inr (.inl g))) (ht : tys[t0]? = some (cA, .long)) (hi : ¬ (i < 0 ∨ n ≤ i.toNatClampNeg)) (hd : decode cc pc = .ok (.laload, 1)) (kk : zV X cells slots (zw ad f N) lv (.long (g i.toNatClampNeg) :: st) (pc + 1)) : zV X cells slots (zw ad f N) lv (.int i :: .ref (ad j) :: st) pc := by
  obtain ⟨p, l, e, R, s, m, args, below, meth, c, D, cl', A, nL', Q⟩ := X
  obtain ⟨hx, hb, hml, ho, hts, rfl, hK, hA, hE, rfl, rfl⟩ := hC
  intro H locs ls hP hD hS h9
  exact va_lald (D := D) hx hb hK hP j t0 (by rw [zw_get hj, hf]) ht hi hd (kk H locs ls hP hD hS h9)
theorem zr_iast (hC : zC X cc own Ts cl tys E nL rm) {ad : Nat → Nat} {f : Nat → va_E} {N : Nat} {f' : Nat → va_E} (j t0 : Nat) {cA : ClassId} {n : Nat} {g : Nat → Int32} {i x : Int32} (hj : j < N) (hf : f j = .inl (cA, n, .inl g)) (ht : tys[t0]? = some (cA, .int)) (hi : ¬ (i < 0 ∨ n ≤ i.toNatClampNeg)) (hf2 : ∀ k, (if k = j then .inl (cA, n, .inl (upd g i.toNatClampNeg x)) else f k) = f' k) (hd : decode cc pc = .ok (.iastore, 1)) (kk : zV X cells slots (zw ad f' N) lv st (pc + 1)) : zV X cells slots (zw ad f N) lv (.int x :: .int i :: .ref (ad j) :: st) pc := by
  obtain ⟨p, l, e, R, s, m, args, below, meth, c, D, cl', A, nL', Q⟩ := X
  obtain ⟨hx, hb, hml, ho, hts, rfl, hK, hA, hE, rfl, rfl⟩ := hC
  intro H locs ls hP hD hS h9
  refine va_iast (D := D) hx hb hK hP hD hS j t0 (by rw [zw_get hj, hf]) ht hi hd (fun H locs hP hD hS => ?_)
  rw [zw_set hf2] at hP hD
  exact kk H locs ls hP hD hS h9
theorem zr_last (hC : zC X cc own Ts cl tys E nL rm) {ad : Nat → Nat} {f : Nat → va_E} {N : Nat} {f' : Nat → va_E} (j t0 : Nat) {cA : ClassId} {n : Nat} {g : Nat → Int64} {i : Int32} {x : Int64} (hj : j < N) (hf : f j = .inl (cA, n, .inr (.inl g))) (ht : tys[t0]? = some (cA, .long)) (hi : ¬ (i < 0 ∨ n ≤ i.toNatClampNeg)) (hf2 : ∀ k, (if k = j then .inl (cA, n, .inr (.inl (vp_updL g i.toNatClampNeg x))) else f k) = f' k) (hd : decode cc pc = .ok (.lastore, 1)) (kk : zV X cells slots (zw ad f' N) lv st (pc + 1)) : zV X cells slots (zw ad f N) lv (.long x :: .int i :: .ref (ad j) :: st) pc := by
  obtain ⟨p, l, e, R, s, m, args, below, meth, c, D, cl', A, nL', Q⟩ := X
  obtain ⟨hx, hb, hml, ho, hts, rfl, hK, hA, hE, rfl, rfl⟩ := hC
  intro H locs ls hP hD hS h9
  refine va_last (D := D) hx hb hK hP hD hS j t0 (by rw [zw_get hj, hf]) ht hi hd (fun H locs hP hD hS => ?_)
  rw [zw_set hf2] at hP hD
  exact kk H locs ls hP hD hS h9
theorem zr_alen (hC : zC X cc own Ts cl tys E nL rm) {ad : Nat → Nat} {f : Nat → va_E} {N : Nat} (j t0 : Nat) {cA : ClassId} {x : vp_A} {ty : FieldType} {v : Int32} (hj : j < N) (hf : f j = .inl (cA, x)) (ht : tys[t0]? = some (cA, ty)) (hv : Int32.ofNat x.1 = v) (hd : decode cc pc = .ok (.arraylength, 1)) (kk : zV X cells slots (zw ad f N) lv (.int v :: st) (pc + 1)) : zV X cells slots (zw ad f N) lv (.ref (ad j) :: st) pc := by
  obtain ⟨p, l, e, R, s, m, args, below, meth, c, D, cl', A, nL', Q⟩ := X
  obtain ⟨hx, hb, hml, ho, hts, rfl, hK, hA, hE, rfl, rfl⟩ := hC
  intro H locs ls hP hD hS h9
  exact va_alen (D := D) hx hb hK hP j t0 (by rw [zw_get hj, hf]) ht hv hd (kk H locs ls hP hD hS h9)
theorem zr_aald (hC : zC X cc own Ts cl tys E nL rm) {ad : Nat → Nat} {f : Nat → va_E} {N : Nat} (j t0 : Nat) {cA : ClassId} {C : String} {n : Nat} {g : Nat → Option Nat} {i : Int32} (hj : j < N) (hf : f j = .inl (cA, n, .inr (.inr (.inr (.inr g))))) (ht : tys[t0]? = some (cA, .object C)) (hi : ¬ (i < 0 ∨ n ≤ i.toNatClampNeg)) (hd : decode cc pc = .ok (.aaload, 1)) (kk : zV X cells slots (zw ad f N) lv (va_rf (g i.toNatClampNeg) :: st) (pc + 1)) : zV X cells slots (zw ad f N) lv (.int i :: .ref (ad j) :: st) pc := by
  obtain ⟨p, l, e, R, s, m, args, below, meth, c, D, cl', A, nL', Q⟩ := X
  obtain ⟨hx, hb, hml, ho, hts, rfl, hK, hA, hE, rfl, rfl⟩ := hC
  intro H locs ls hP hD hS h9
  exact va_aldq (D := D) hx hb hK hP j t0 (by rw [zw_get hj, hf]) ht hi hd (kk H locs ls hP hD hS h9)
theorem zr_iret (hC : zC X cc own Ts cl tys E nL rm) {Po : Option Value → va_W → Prop} {mc ms : Nat} {x : Int32} (hR : zR X (some .int) Po mc ms) (hpo : Po (some (.int x)) ws) (h1 : cells ≤ mc) (h2 : slots ≤ ms) (hd : decode cc pc = .ok (.ireturn, 1)) : zV X cells slots ws lv [.int x] pc := by
  obtain ⟨p, l, e, R, s, m, args, below, meth, c, D, cl', A, nL', Q⟩ := X
  obtain ⟨hx, hb, hml, ho, hts, rfl, hK, hA, hE, rfl, rfl⟩ := hC
  obtain ⟨hr, hlocks, rfl⟩ := hR
  intro H locs ls hP hD hS h9
  refine W.widen h1 h2 ?_
  exact W.iret hx hb hr (fun t ht hW => ⟨⟨_, ws, rfl, hpo, by rw [ht]; exact hP, hD⟩, hS.F ht⟩) hS.2.2 hd
theorem zr_zret (hC : zC X cc own Ts cl tys E nL rm) {Po : Option Value → va_W → Prop} {mc ms : Nat} {x : Int32} (hR : zR X (some .boolean) Po mc ms) (hz : x = 0 ∨ x = 1) (hpo : Po (some (.int x)) ws) (h1 : cells ≤ mc) (h2 : slots ≤ ms) (hd : decode cc pc = .ok (.ireturn, 1)) : zV X cells slots ws lv [.int x] pc := by
  obtain ⟨p, l, e, R, s, m, args, below, meth, c, D, cl', A, nL', Q⟩ := X
  obtain ⟨hx, hb, hml, ho, hts, rfl, hK, hA, hE, rfl, rfl⟩ := hC
  obtain ⟨hr, hlocks, rfl⟩ := hR
  intro H locs ls hP hD hS h9
  refine W.widen h1 h2 ?_
  exact W.zret hx hb hr (znb hz) (fun t ht hW => ⟨⟨_, ws, rfl, hpo, by rw [ht]; exact hP, hD⟩, hS.F ht⟩) hS.2.2 hd
theorem zr_lret (hC : zC X cc own Ts cl tys E nL rm) {Po : Option Value → va_W → Prop} {mc ms : Nat} {x : Int64} (hR : zR X (some .long) Po mc ms) (hpo : Po (some (.long x)) ws) (h1 : cells ≤ mc) (h2 : slots ≤ ms) (hd : decode cc pc = .ok (.lreturn, 1)) : zV X cells slots ws lv [.long x] pc := by
  obtain ⟨p, l, e, R, s, m, args, below, meth, c, D, cl', A, nL', Q⟩ := X
  obtain ⟨hx, hb, hml, ho, hts, rfl, hK, hA, hE, rfl, rfl⟩ := hC
  obtain ⟨hr, hlocks, rfl⟩ := hR
  intro H locs ls hP hD hS h9
  refine W.widen h1 h2 ?_
  exact W.lret hx hb hr (fun t ht hW => ⟨⟨_, ws, rfl, hpo, by rw [ht]; exact hP, hD⟩, hS.F ht⟩) hS.2.2 hd
theorem zr_vret (hC : zC X cc own Ts cl tys E nL rm) {Po : Option Value → va_W → Prop} {mc ms : Nat} (hR : zR X none Po mc ms) (hpo : Po none ws) (h1 : cells ≤ mc) (h2 : slots ≤ ms) (hd : decode cc pc = .ok (.return_, 1)) : zV X cells slots ws lv [] pc := by
  obtain ⟨p, l, e, R, s, m, args, below, meth, c, D, cl', A, nL', Q⟩ := X
  obtain ⟨hx, hb, hml, ho, hts, rfl, hK, hA, hE, rfl, rfl⟩ := hC
  obtain ⟨hr, hlocks, rfl⟩ := hR
  intro H locs ls hP hD hS h9
  refine W.widen h1 h2 ?_
  exact W.vret hx hb hr (fun t ht hW => ⟨⟨_, ws, rfl, hpo, by rw [ht]; exact hP, hD⟩, hS.F ht⟩) hS.2.2 hd
theorem zr_aret (hC : zC X cc own Ts cl tys E nL rm) {Po : Option Value → va_W → Prop} {mc ms : Nat} {C : String} {x : Option Nat} (hR : zR X (some (.object C)) Po mc ms) (hpo : Po (some (va_rf x)) ws) (h1 : cells ≤ mc) (h2 : slots ≤ ms) (hd : decode cc pc = .ok (.areturn, 1)) : zV X cells slots ws lv [va_rf x] pc := by
  obtain ⟨p, l, e, R, s, m, args, below, meth, c, D, cl', A, nL', Q⟩ := X
  obtain ⟨hx, hb, hml, ho, hts, rfl, hK, hA, hE, rfl, rfl⟩ := hC
  obtain ⟨hr, hlocks, rfl⟩ := hR
  intro H locs ls hP hD hS h9
  refine W.widen h1 h2 ?_
  exact W.aret hx hb hr (Or.inl ⟨C, rfl⟩) (va_rf_or x) (fun t ht hW => ⟨⟨_, ws, rfl, hpo, by rw [ht]; exact hP, hD⟩, hS.F ht⟩) hS.2.2 hd
theorem znf {x : Int32} (h : x = 0 ∨ x = 1) : fits .boolean (.int x) = true := by
  rcases h with rfl | rfl <;> decide
end ZR
theorem zpre_blind {E : zEn} (hEk : zEk E) {D : va_G} {tys : List (ClassId × FieldType)} {cl : List vw_C} {av : List Value} {sz : Nat} {ws : va_W} {A : Nat → Prop} : FrameBlind (va_Pc av (fun U => U.heap.size = sz ∧ va_P D cl ws U.heap ∧ va_K D cl tys U ∧ va_D (fun _ => True) ws ∧ E A U)) := fun a U g mk q => by
  obtain ⟨q0, q1, qP, qK, qD, qE⟩ := q
  exact ⟨q0, q1, qP, va_K.moved (u := U) (U := U.calling g mk a) (Vm.Alike.refl U.vm) qK, qD, hEk.2 _ _ _ _ _ qE⟩
theorem zfree {A : Nat → Prop} {ws : va_W} {s : State} {H : Heap} {locs : List Loc} (hD : va_D A ws) (hS : va_S A s.heap H locs) (hA : ∀ q : Nat, s.heap.size ≤ q → A q) : ∀ q, va_A ws H.size q → A q := by
  intro q h
  rcases h with ⟨k, e, h⟩ | h
  · exact hD.2 k (q, e) h
  · exact hA q (Nat.le_trans hS.1 h)
theorem zpre_at {E : zEn} (hEk : zEk E) {D : va_G} {tys : List (ClassId × FieldType)} {cl : List vw_C} {av : List Value} {ws : va_W} {A : Nat → Prop} {s : State} {H : Heap} {locs : List Loc} (hK : va_K D cl tys s) (hP : va_P D cl ws H) (hD : va_D A ws) (hS : va_S A s.heap H locs) (hA : ∀ q : Nat, s.heap.size ≤ q → A q) (hE : E A s) (U : State) (hU : U.heap = H) (hW : s.WarmedH U.vm) : va_Pc av (fun U => U.heap.size = H.size ∧ va_P D cl ws U.heap ∧ va_K D cl tys U ∧ va_D (fun _ => True) ws ∧ E (va_A ws H.size) U) av.toArray U :=
  ⟨rfl, by rw [hU], by rw [hU]; exact hP, va_K.moved hW.alike hK, hD.weaken (fun _ _ _ _ => trivial), hEk.1 A (va_A ws H.size) s U hW (fun a ha hn => by rw [hU]; exact hS.2.1 a ha hn) (zfree hD hS hA) hE⟩
section ZC
variable {p : Program} {l : Launch} {e : Env} {R : Room} {s : State} {m : MethodId} {args : Array Value} {below : List Frame} {meth : Method} {c : Code} {H : Heap} {locs : List Loc} {cells slots : Nat} {Q : State → Prop}
theorem zcall_core {ls : Array Slot} {lv : zLv} {nL pc mc ms : Nat} {st0 rest : List Value} {D : va_G} {cl : List vw_C} {A : Nat → Prop} {ws : va_W} {Po : Option Value → va_W → Prop} {av : Array Value} (hP : va_P D cl ws H) (hD : va_D A ws) (hS : va_S A s.heap H locs) (h9 : lv_has ls nL lv) (hA : ∀ q : Nat, s.heap.size ≤ q → A q)
    (hr : va_Run p l e R s m args below meth c H locs cells slots mc ms (F0 m pc ls st0) rest (zQ D cl (va_A ws H.size) Po av) (va_A ws H.size))
    (kk : ∀ (rv : Option Value) (w1 : va_W), Po rv w1 → zV (p, l, e, R, s, m, args, below, meth, c, D, cl, A, nL, Q) (cells + mc) (slots + ms) w1 lv (rv.toList ++ rest) (pc + 3)) : W p l e R s m args below meth c H locs cells slots Q (F0 m pc ls st0) := by
  have hF := zfree hD hS hA
  intro T hT X
  obtain ⟨v, st₀, t, T', L, h0, X', hL, e1, e2, ⟨⟨rv, w1, hv, hpo, hP1, hD1⟩, hz, hk⟩, st⟩ := hr T hT X
  cases hv
  rw [h0] at hz hk
  obtain ⟨t2, a1, b1⟩ := kk v w1 hpo T'.heap (locs ++ L) ls (by rw [e1]; exact hP1) (hD1.weaken (fun _ q _ h => hF q.1 h))
    ⟨Nat.le_trans hS.1 (by rw [e1]; exact hz), fun q h1 h2 => by rw [e1, hk q (Nat.lt_of_lt_of_le h1 hS.1) (fun z => h2 (hF q z))]; exact hS.2.1 q h1 h2, fun q hq => by
      rcases List.mem_append.mp hq with h | h
      · exact hS.2.2 q h
      · exact hF _ (hL q h)⟩ h9 T' rfl X'
  exact ⟨t2, st t2 a1, b1⟩
end ZC
section ZD
variable {X : zX} {cells slots : Nat} {ws : va_W} {lv lv' : zLv} {st : List Value} {pc : Nat} {cc : ByteArray} {own : String} {Ts : List Cond} {cl : List vw_C} {tys : List (ClassId × FieldType)} {E : zEn} {nL : Nat} {rm : Room}
variable {y : MethodName} {bytes : ByteArray} {maxL mc ms index : Nat} {ret : Option FieldType} {wsc wsc' : List Cond} {rmc : Room} {Po : Option Value → va_W → Prop}
theorem zr_callV (hC : zC X cc own Ts cl tys E nL rm) (hEk : zEk E) {ad : Nat → Nat} {f : Nat → va_E} {N : Nat} (As rest : List Value) (j n : Nat) {ci Nn : Nat} {fs : List Value} {C : String} {T : u_T} {st0 : List Value} (hM : ∀ (l : Launch) (D : va_G), zCT E D cl tys l y wsc rmc mc ms (.ref (ad j) :: As) (zw ad f N) Po) (hG : GoodIn Ts (wsV own index C y wsc)) (hw : wsc = Cond.code y bytes maxL ret :: wsc') (hrc : rmc.cells = mc) (hrs : rmc.slots = ms) (hR : rmc.frames + 1 ≤ rm.frames ∧ 8 + (maxL + 11) + rmc.locals ≤ rm.locals) (hy : y.cls = C ∧ y.cls ≠ "java/lang/invoke/MethodHandle" ∧ y.cls ≠ "java/lang/invoke/VarHandle" ∧ (parseMethodDescriptor y.desc).map (fun d => d.parameters.length) = some n) (hj : j < N) (hf : f j = .inr (ci, fs)) (hc : cl[ci]? = some (C, T, Nn)) (hn : As.length = n) (hst : st0 = As.reverse ++ .ref (ad j) :: rest) (hcat : (rest.map fun v => v.category).sum ≤ 8) (hfit : cells + mc ≤ rm.cells ∧ slots + ms ≤ rm.slots) (hd : decode cc pc = .ok (.invokevirtual index, 3)) (kk : ∀ (rv : Option Value) (w1 : va_W), Po rv w1 → zV X (cells + mc) (slots + ms) w1 lv (rv.toList ++ rest) (pc + 3)) : zV X cells slots (zw ad f N) lv st0 pc := by
  obtain ⟨p, l, e, R, s, m, args, below, meth, c, D, cl', A, nL', Q⟩ := X
  obtain ⟨hx, hb, hml, ho, hts, rfl, hK, hA, hE, rfl, rfl⟩ := hC
  intro H locs ls hP hD hS h9
  exact zcall_core hP hD hS h9 hA (va_runV (As := As) (rest := rest) ⟨hx, hb, hml, ho, hts⟩ (hM l D H.size) (cwV n hts hG hw hrc hrs hy hR) ⟨zpre_blind hEk, va_recv hK hP hc (by rw [zw_get hj, hf]), zpre_at hEk hK hP hD hS hA hE⟩ rfl hn h9.1 hst (lv_room hcat) hd hfit) kk
theorem zr_callS (hC : zC X cc own Ts cl tys E nL rm) (hEk : zEk E) (As rest : List Value) (n : Nat) {st0 : List Value} (hM : ∀ (l : Launch) (D : va_G), zCT E D cl tys l y wsc rmc mc ms As ws Po) (hG : GoodIn Ts (va_wsS own index y wsc)) (hw : wsc = Cond.code y bytes maxL ret :: wsc') (hrc : rmc.cells = mc) (hrs : rmc.slots = ms) (hR : rmc.frames + 1 ≤ rm.frames ∧ 8 + (maxL + 11) + rmc.locals ≤ rm.locals) (hy : y.cls ≠ "java/lang/invoke/MethodHandle" ∧ y.cls ≠ "java/lang/invoke/VarHandle" ∧ (parseMethodDescriptor y.desc).map (fun d => d.parameters.length) = some n) (hn : As.length = n) (hst : st0 = As.reverse ++ rest) (hcat : (rest.map fun v => v.category).sum ≤ 8) (hfit : cells + mc ≤ rm.cells ∧ slots + ms ≤ rm.slots) (hd : decode cc pc = .ok (.invokestatic index, 3)) (kk : ∀ (rv : Option Value) (w1 : va_W), Po rv w1 → zV X (cells + mc) (slots + ms) w1 lv (rv.toList ++ rest) (pc + 3)) : zV X cells slots ws lv st0 pc := by
  obtain ⟨p, l, e, R, s, m, args, below, meth, c, D, cl', A, nL', Q⟩ := X
  obtain ⟨hx, hb, hml, ho, hts, rfl, hK, hA, hE, rfl, rfl⟩ := hC
  intro H locs ls hP hD hS h9
  exact zcall_core hP hD hS h9 hA (va_runS (As := As) (rest := rest) ⟨hx, hb, hml, ho, hts⟩ (hM l D H.size) (va_cwS n hts hG hw hrc hrs hy hR) ⟨zpre_blind hEk, zpre_at hEk hK hP hD hS hA hE⟩ rfl hn h9.1 hst (lv_room hcat) hd hfit) kk
end ZD
