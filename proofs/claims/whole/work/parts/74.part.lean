/-! what is behind a word: itself, and what is behind the next ones -/
def zop {β : Type} (o : β → β → β) (u : β) (f : Nat → β) : Nat → β
  | 0 => u
  | n + 1 => o (zop o u f n) (f n)
theorem zop_congr {β : Type} {o : β → β → β} {u : β} {f g : Nat → β} : ∀ {n : Nat}, (∀ i, i < n → f i = g i) → zop o u f n = zop o u g n
  | 0, _ => rfl
  | n + 1, h => by
    show o (zop o u f n) (f n) = o (zop o u g n) (g n)
    rw [zop_congr (fun i hi => h i (by omega)), h n (by omega)]
theorem zop_u {β : Type} {o : β → β → β} {u : β} (hu : ∀ x, o x u = x) {f : Nat → β} : ∀ {n : Nat}, (∀ i, i < n → f i = u) → zop o u f n = u
  | 0, _ => rfl
  | n + 1, h => by
    show o (zop o u f n) (f n) = u
    rw [zop_u hu (fun i hi => h i (by omega)), h n (by omega), hu]
theorem zop_op {β : Type} {o : β → β → β} {u : β} (ha : ∀ x y z, o (o x y) z = o x (o y z)) (hc : ∀ x y, o x y = o y x) (hu : ∀ x, o x u = x) {f g : Nat → β} : ∀ {n : Nat}, zop o u (fun i => o (f i) (g i)) n = o (zop o u f n) (zop o u g n)
  | 0 => (hu u).symm
  | n + 1 => by
    show o (zop o u (fun i => o (f i) (g i)) n) (o (f n) (g n)) = o (o (zop o u f n) (f n)) (o (zop o u g n) (g n))
    rw [zop_op ha hc hu, ha, ha, ← ha (zop o u g n), hc (zop o u g n) (f n), ha]
theorem zop_comm {β : Type} {o : β → β → β} {u : β} (ha : ∀ x y z, o (o x y) z = o x (o y z)) (hc : ∀ x y, o x y = o y x) (hu : ∀ x, o x u = x) {f : Nat → Nat → β} {m : Nat} : ∀ {n : Nat}, zop o u (fun i => zop o u (f i) m) n = zop o u (fun j => zop o u (fun i => f i j) n) m
  | 0 => (zop_u hu (fun _ _ => rfl)).symm
  | n + 1 => by
    show o (zop o u (fun i => zop o u (f i) m) n) (zop o u (f n) m) = zop o u (fun j => o (zop o u (fun i => f i j) n) (f n j)) m
    rw [zop_op ha hc hu, zop_comm ha hc hu]
theorem zop_one {β : Type} {o : β → β → β} {u : β} (hc : ∀ x y, o x y = o y x) (hu : ∀ x, o x u = x) {x : β} {e : Nat} : ∀ {n : Nat}, zop o u (fun i => if i = e then x else u) n = if e < n then x else u
  | 0 => (if_neg (Nat.not_lt_zero _)).symm
  | n + 1 => by
    show o (zop o u (fun i => if i = e then x else u) n) (if n = e then x else u) = _
    rw [zop_one hc hu]
    rcases Nat.lt_trichotomy e n with g | g | g
    · rw [if_pos g, if_neg (by omega), if_pos (by omega), hu]
    · rw [if_neg (by omega), if_pos g.symm, if_pos (by omega), hc, hu]
    · rw [if_neg (by omega), if_neg (by omega), if_neg (by omega), hu]
/-- the next word on the way: one alone -/
theorem zop_way {β : Type} {o : β → β → β} {u : β} (ha : ∀ x y z, o (o x y) z = o x (o y z)) (hc : ∀ x y, o x y = o y x) (hu : ∀ x, o x u = x) {n : Nat} {par wt ans : Nat → Nat} (hV : zVT n par wt ans) {w : Nat} {x : β} : ∀ (k e : Nat), e ≤ k → e < n → zop o u (fun c => if (0 < c ∧ par c = w) ∧ zbe par e c = true then x else u) n = if zbe par e w = true ∧ e ≠ w then x else u
  | 0, e, h1, h2 => by
    obtain rfl : e = 0 := by omega
    rw [zop_u hu, if_neg]
    · rintro ⟨a, b⟩
      rw [zbe_0] at a
      exact b (eq_of_beq a)
    · intro c _
      refine if_neg ?_
      rintro ⟨a, b⟩
      rw [zbe_0] at b
      have := eq_of_beq b
      omega
  | k + 1, e, h1, h2 => by
    rcases Nat.eq_zero_or_pos e with rfl | g
    · exact zop_way ha hc hu hV k 0 (by omega) h2
    · have hp := (hV.2.2.1 e g h2).1
      have ih := zop_way ha hc hu hV (w := w) (x := x) k (par e) (by omega) (by omega)
      have hself : zbe par (par e) e = false := by
        cases hq : zbe par (par e) e with
        | false => rfl
        | true =>
          have := zbe_le hV (par e) (par e) e (Nat.le_refl _) (by omega) hq
          omega
      have e1 : zop o u (fun c => if (0 < c ∧ par c = w) ∧ zbe par e c = true then x else u) n = zop o u (fun c => o (if (0 < c ∧ par c = w) ∧ zbe par (par e) c = true then x else u) (if c = e then (if par e = w then x else u) else u)) n := by
        refine zop_congr (fun c hc' => ?_)
        try dsimp only
        rw [zbe_s hV g h2]
        by_cases q : c = e
        · subst q
          rw [hself, if_neg (fun z : (0 < c ∧ par c = w) ∧ false = true => absurd z.2 (by decide)), if_pos rfl, hc, hu]
          by_cases r : par c = w
          · rw [if_pos r, if_pos ⟨⟨g, r⟩, by simp⟩]
          · rw [if_neg r, if_neg (fun z => r z.1.2)]
        · have q' : (e == c) = false := beq_eq_false_iff_ne.mpr (fun z => q z.symm)
          rw [q', Bool.false_or, if_neg q, hu]
      rw [e1, zop_op ha hc hu, ih, zop_one hc hu, if_pos h2]
      have e2 : (zbe par e w = true ∧ e ≠ w) = (zbe par (par e) w = true) := by
        refine propext ⟨fun z => ?_, fun z => ⟨?_, ?_⟩⟩
        · have h3 := z.1
          rw [zbe_s hV g h2, beq_eq_false_iff_ne.mpr z.2, Bool.false_or] at h3
          exact h3
        · rw [zbe_s hV g h2, z, Bool.or_true]
        · have := zbe_le hV (par e) (par e) w (Nat.le_refl _) (by omega) z
          omega
      by_cases r : par e = w
      · have r2 : zbe par (par e) w = true := by rw [r]; exact zbe_self
        rw [if_neg (fun z => z.2 r), if_pos r, hc, hu, if_pos (by rw [e2]; exact r2)]
      · rw [if_neg r, hu]
        by_cases r3 : zbe par (par e) w = true
        · rw [if_pos ⟨r3, r⟩, if_pos (by rw [e2]; exact r3)]
        · rw [if_neg (fun z => r3 z.1), if_neg (by rw [e2]; exact r3)]
theorem zop_part {β : Type} {o : β → β → β} {u : β} (ha : ∀ x y z, o (o x y) z = o x (o y z)) (hc : ∀ x y, o x y = o y x) (hu : ∀ x, o x u = x) {n : Nat} {par wt ans : Nat → Nat} (hV : zVT n par wt ans) {w : Nat} (hw : w < n) (g : Nat → β) : zop o u (fun e => if zbe par e w = true then g e else u) n = o (g w) (zop o u (fun c => if 0 < c ∧ par c = w then zop o u (fun e => if zbe par e c = true then g e else u) n else u) n) := by
  have e1 : zop o u (fun c => if 0 < c ∧ par c = w then zop o u (fun e => if zbe par e c = true then g e else u) n else u) n = zop o u (fun c => zop o u (fun e => if (0 < c ∧ par c = w) ∧ zbe par e c = true then g e else u) n) n := by
    refine zop_congr (fun c _ => ?_)
    try dsimp only
    by_cases q : 0 < c ∧ par c = w
    · rw [if_pos q]
      refine zop_congr (fun e _ => ?_)
      try dsimp only
      by_cases r : zbe par e c = true
      · rw [if_pos r, if_pos ⟨q, r⟩]
      · rw [if_neg r, if_neg (fun z => r z.2)]
    · rw [if_neg q]
      exact (zop_u hu (fun e _ => if_neg (fun z => q z.1))).symm
  rw [e1, zop_comm ha hc hu]
  have e2 : zop o u (fun e => zop o u (fun c => if (0 < c ∧ par c = w) ∧ zbe par e c = true then g e else u) n) n = zop o u (fun e => if zbe par e w = true ∧ e ≠ w then g e else u) n :=
    zop_congr (fun e he => zop_way ha hc hu hV e e (Nat.le_refl _) he)
  have e3 : g w = zop o u (fun e => if e = w then g w else u) n := by
    rw [zop_one hc hu, if_pos hw]
  rw [e2]
  conv => rhs; lhs; rw [e3]
  rw [← zop_op ha hc hu]
  refine zop_congr (fun e _ => ?_)
  try dsimp only
  by_cases q : e = w
  · subst q
    rw [if_pos zbe_self, if_pos rfl, if_neg (fun z => z.2 rfl), hu]
  · rw [if_neg q, hc, hu]
    by_cases r : zbe par e w = true
    · rw [if_pos r, if_pos ⟨r, q⟩]
    · rw [if_neg r, if_neg (fun z => r z.1)]
theorem zsum_op {f : Nat → Nat} : ∀ n : Nat, zsum f n = zop (· + ·) 0 f n
  | 0 => rfl
  | n + 1 => congrArg (· + f n) (zsum_op n)
theorem zprod_op {f : Nat → Nat} : ∀ n : Nat, zprod f n = zop (· * ·) 1 f n
  | 0 => rfl
  | n + 1 => congrArg (· * f n) (zprod_op n)
theorem zsum_part {n : Nat} {par wt ans : Nat → Nat} (hV : zVT n par wt ans) {w : Nat} (hw : w < n) (g : Nat → Nat) : zsum (fun e => if zbe par e w = true then g e else 0) n = g w + zsum (fun c => if 0 < c ∧ par c = w then zsum (fun e => if zbe par e c = true then g e else 0) n else 0) n := by
  simp only [zsum_op]
  exact zop_part Nat.add_assoc Nat.add_comm Nat.add_zero hV hw g
theorem zprod_part {n : Nat} {par wt ans : Nat → Nat} (hV : zVT n par wt ans) {w : Nat} (hw : w < n) (g : Nat → Nat) : zprod (fun e => if zbe par e w = true then g e else 1) n = g w * zprod (fun c => if 0 < c ∧ par c = w then zprod (fun e => if zbe par e c = true then g e else 1) n else 1) n := by
  simp only [zprod_op]
  exact zop_part Nat.mul_assoc Nat.mul_comm Nat.mul_one hV hw g
theorem zsum_mul {f : Nat → Nat} {k : Nat} : ∀ {n : Nat}, zsum (fun i => f i * k) n = zsum f n * k
  | 0 => (Nat.zero_mul k).symm
  | n + 1 => by
    show zsum (fun i => f i * k) n + f n * k = (zsum f n + f n) * k
    rw [zsum_mul, Nat.add_mul]
theorem zsum_mono {f g : Nat → Nat} : ∀ {n : Nat}, (∀ i, i < n → f i ≤ g i) → zsum f n ≤ zsum g n
  | 0, _ => Nat.le_refl _
  | n + 1, h => Nat.add_le_add (zsum_mono (fun i hi => h i (by omega))) (h n (by omega))
theorem zprod_dvd {f : Nat → Nat} : ∀ {n i : Nat}, i < n → f i ∣ zprod f n
  | 0, _, h => absurd h (Nat.not_lt_zero _)
  | n + 1, i, h => by
    show f i ∣ zprod f n * f n
    rcases Nat.lt_or_ge i n with g | g
    · exact Nat.dvd_mul_right_of_dvd (zprod_dvd g) _
    · obtain rfl : i = n := by omega
      exact Nat.dvd_mul_left _ _
/-- from the last word back -/
theorem zback {n : Nat} {P : Nat → Prop} (h : ∀ w, w < n → (∀ c, w < c → c < n → P c) → P w) : ∀ w, w < n → P w := by
  have key : ∀ k w, n ≤ w + k → w < n → P w := by
    intro k
    induction k with
    | zero => intro w h1 h2; omega
    | succ k ih =>
      intro w h1 h2
      exact h w h2 (fun c c1 c2 => ih c (by omega) c2)
  exact fun w hw => key n w (by omega) hw
