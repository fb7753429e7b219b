/-! the players' objects: every place names one that is there -/
section
variable {α β : Type}
theorem zobi {o : Option α} {f : α → Option β} {r : β} (h : o.bind f = some r) : ∃ a, o = some a ∧ f a = some r := by
  cases o with
  | none => cases h
  | some a => exact ⟨a, rfl, h⟩
theorem zoif {c : Prop} [Decidable c] {x y : α} (h : (if c then some x else none) = some y) : x = y := by
  by_cases g : c
  · rw [if_pos g] at h; exact Option.some.inj h
  · rw [if_neg g] at h; cases h
/-- whatever comes out -/
def zh (o : Option α) (Q : α → Prop) : Prop := ∀ r, o = some r → Q r
theorem zh_n {Q : α → Prop} : zh (none : Option α) Q := fun _ h => by cases h
theorem zh_s {Q : α → Prop} {a : α} (h : Q a) : zh (some a) Q := fun _ e => Option.some.inj e ▸ h
theorem zh_b {o : Option α} {f : α → Option β} {Q : β → Prop} (h : zh o (fun a => zh (f a) Q)) : zh (o.bind f) Q := fun r e => by
  obtain ⟨a, e1, e2⟩ := zobi e
  exact h a e1 r e2
theorem zh_a {o : Option α} {f : α → Option β} {Q : β → Prop} (h : ∀ a, zh (f a) Q) : zh (o.bind f) Q := zh_b (fun a _ => h a)
theorem zh_i {c : Prop} [Decidable c] {a b : Option α} {Q : α → Prop} (h1 : zh a Q) (h2 : zh b Q) : zh (if c then a else b) Q := by
  by_cases g : c
  · rw [if_pos g]; exact h1
  · rw [if_neg g]; exact h2
theorem zh_l {a : α} {f : α → Option β} {Q : β → Prop} (h : zh (f a) Q) : zh (zlet a f) Q := h
theorem zh_o {o : Option α} {f : Option β} {g : α → Option β} {Q : β → Prop} (h1 : zh f Q) (h2 : ∀ a, zh (g a) Q) : zh (zon o f g) Q := by
  cases o with
  | none => exact h1
  | some a => exact h2 a
theorem zh_e {γ : Type} {q : α ⊕ β} {f : α → Option γ} {g : β → Option γ} {Q : γ → Prop} {A : α → Prop} {B : β → Prop} (h : Sum.elim A B q) (h1 : ∀ a, A a → zh (f a) Q) (h2 : ∀ b, B b → zh (g b) Q) : zh (Sum.elim f g q) Q := by
  cases q with
  | inl a => exact h1 a h
  | inr b => exact h2 b h
theorem zh_it {f : α → Option (α ⊕ β)} (J : α → Prop) {Q : β → Prop} (step : ∀ a, J a → zh (f a) (Sum.elim J Q)) : ∀ (n : Nat) (a : α), J a → zh (x_it f n a) Q
  | 0, _, _ => fun _ h => by cases h
  | n + 1, a, h => fun r e => by
    unfold x_it at e
    cases hf : f a with
    | none => rw [hf] at e; cases e
    | some q =>
      have hq := step a h q hf
      rw [hf] at e
      cases q with
      | inl a' => exact zh_it J step n a' hq r e
      | inr b => exact Option.some.inj e ▸ hq
end
def zPk (P P' : zP) : Prop := P'.1 = P.1 ∧ P'.2.2.2 = P.2.2.2
theorem zPk_r {P : zP} : zPk P P := ⟨rfl, rfl⟩
theorem zPk_t {A B C : zP} (h1 : zPk A B) (h2 : zPk B C) : zPk A C := ⟨h2.1.trans h1.1, h2.2.trans h1.2⟩
theorem zPk_w {P P' : zP} (hw : zPwf P) (h : zPk P P') : zPwf P' := fun i a e => by
  rw [h.1] at e
  rw [h.2]
  exact hw i a e
theorem zk_tell {P : zP} {a : Nat} {v : Int32} : zh (xv_tell P a v) (zPk P) := by
  unfold xv_tell
  refine zh_i (zh_a fun _ => zh_s zPk_r) (zh_i (zh_a fun _ => zh_s zPk_r) (zh_i (zh_a fun _ => zh_s zPk_r) (zh_i (zh_a fun _ => zh_s zPk_r) (zh_i ?_ ?_))))
  · unfold xX9_tell_k4
    exact zh_b (zh_l (zh_s (zh_s ⟨rfl, rfl⟩)))
  · unfold xX9_tell_k5
    exact zh_b (zh_l (zh_s (zh_s ⟨rfl, rfl⟩)))
theorem zk_setOf {T R B : zM} {P : zP} {v1 v2 : Int32} : zh (xX11_setOf T R B P v1 v2) (fun r => zPk P r.2.2) := by
  unfold xX11_setOf
  exact zh_a fun _ => zh_o (zh_a fun _ => zh_s zPk_r) fun a => zh_i zh_n (zh_a fun _ => zh_i (zh_a fun _ => zh_i (zh_a fun _ => zh_b fun q e => zh_s (zk_tell q e)) (zh_a fun _ => zh_s zPk_r)) (zh_a fun _ => zh_s zPk_r))
theorem zk_on {T R F B : zM} {P : zP} : zh (xX11_on T R F B P) (fun r => zPk P r.2.2.2.2.2) := by
  unfold xX11_on
  refine zh_i (zh_a fun _ => zh_s zPk_r) (zh_a fun q2 => zh_a fun q3 => zh_a fun q4 => zh_a fun q5 => zh_a fun q6 => zh_b fun q7 e7 => zh_a fun _ => zh_s ?_)
  refine zh_it (fun z : zP × Int32 => zPk P z.1) (Q := fun z : zP => zPk P z) ?_ zFU (P, (0 : Int32)) zPk_r q7 e7
  rintro ⟨w0, w1⟩ hw
  try dsimp only at hw ⊢
  unfold xX11_on_L87
  exact zh_i (zh_s hw) (zh_a fun _ => zh_o (zh_s hw) fun a => zh_i zh_n (zh_i zh_n (zh_b fun q e => zh_s (zPk_t hw (zk_tell q e)))))
theorem zk_rest {T R B : zM} {P : zP} {v1 v2 : Int32} : zh (xX11_rest T R B P v1 v2) (fun r => zPk P r.2.2.2) := by
  unfold xX11_rest
  refine zh_a fun _ => zh_a fun _ => zh_o (zh_a fun _ => zh_s zPk_r) fun a3 => zh_i zh_n (zh_o (zh_a fun _ => zh_s zPk_r) fun a7 => zh_i zh_n (zh_i (zh_a fun _ => zh_s zPk_r) (zh_a fun _ => zh_i (zh_a fun _ => zh_i (zh_a fun _ => zh_i (zh_a fun _ => zh_s zPk_r) (zh_b fun q e => ?_)) (zh_a fun _ => zh_s zPk_r)) (zh_a fun _ => zh_s zPk_r))))
  refine zh_e (A := fun z : zM × zP × Int32 => zPk P z.2.1) (B := fun z : zM × zP => zPk P z.2) (q := q) ?_ (fun b hb => zh_s hb) (fun c hc => zh_s hc)
  refine zh_it (fun z : zM × zP × Int32 => zPk P z.2.1) (Q := Sum.elim (fun z : zM × zP × Int32 => zPk P z.2.1) (fun z : zM × zP => zPk P z.2)) ?_ zFU (R, P, (1 : Int32)) zPk_r q e
  rintro ⟨w0, w1, w2⟩ hw
  try dsimp only at hw ⊢
  unfold xX11_rest_L83
  refine zh_i (zh_s hw) (zh_i zh_n (zh_a fun q3 => zh_i zh_n (zh_a fun q5 => zh_a fun q6 => zh_b fun q7 e7 => zh_a fun q8 => zh_i zh_n (zh_b fun q10 e10 => ?_))))
  have h10 : zPk P q10 := zPk_t (zPk_t hw (zk_tell q7 e7)) (zk_tell q10 e10)
  exact zh_i zh_n (zh_a fun q12 => zh_i (zh_i zh_n (zh_a fun q15 => zh_i (zh_s h10) (zh_s h10))) (zh_s h10))
section
variable {T R X F B M : zM} {P : zP} {a1 a2 a3 : Int32}
theorem zw_0 (hw : zPwf P) : zh (xL_0 T R X F B P M a1 a2 a3) (fun S => zPwf S.2.2.2.2.2.1) := by
  unfold xL_0
  exact zh_a fun q0 => zh_a fun q1 => zh_i (zh_s hw) zh_n
theorem zw_2 (hw : zPwf P) : zh (xL_2 T R X F B P M a1 a2 a3) (fun S => zPwf S.2.2.2.2.2.1) := by
  unfold xL_2
  exact zh_a fun q0 => zh_a fun q1 => zh_i (zh_s hw) zh_n
theorem zw_3 (hw : zPwf P) : zh (xL_3 T R X F B P M a1 a2 a3) (fun S => zPwf S.2.2.2.2.2.1) := by
  unfold xL_3
  exact zh_a fun q0 => zh_a fun q1 => zh_i (zh_s hw) zh_n
theorem zw_4 (hw : zPwf P) : zh (xL_4 T R X F B P M a1 a2 a3) (fun S => zPwf S.2.2.2.2.2.1) := by
  unfold xL_4
  exact zh_a fun q0 => zh_a fun q1 => zh_i (zh_s hw) zh_n
theorem zw_5 (hw : zPwf P) : zh (xL_5 T R X F B P M a1 a2 a3) (fun S => zPwf S.2.2.2.2.2.1) := by
  unfold xL_5
  exact zh_a fun q0 => zh_a fun q1 => zh_i (zh_s hw) zh_n
theorem zw_6 (hw : zPwf P) : zh (xL_6 T R X F B P M a1 a2 a3) (fun S => zPwf S.2.2.2.2.2.1) := by
  unfold xL_6
  exact zh_a fun q0 => zh_a fun q1 => zh_i (zh_s hw) zh_n
theorem zw_7 (hw : zPwf P) : zh (xL_7 T R X F B P M a1 a2 a3) (fun S => zPwf S.2.2.2.2.2.1) := by
  unfold xL_7
  exact zh_a fun q0 => zh_a fun q1 => zh_i (zh_s hw) zh_n
theorem zw_8 (hw : zPwf P) : zh (xL_8 T R X F B P M a1 a2 a3) (fun S => zPwf S.2.2.2.2.2.1) := by
  unfold xL_8
  exact zh_a fun q0 => zh_a fun q1 => zh_i (zh_s hw) zh_n
theorem zw_9 (hw : zPwf P) : zh (xL_9 T R X F B P M a1 a2 a3) (fun S => zPwf S.2.2.2.2.2.1) := by
  unfold xL_9
  exact zh_b fun q0 e0 => zh_a fun q1 => zh_i (zh_s (zPk_w hw (zk_setOf q0 e0))) zh_n
theorem zw_10 (hw : zPwf P) : zh (xL_10 T R X F B P M a1 a2 a3) (fun S => zPwf S.2.2.2.2.2.1) := by
  unfold xL_10
  exact zh_a fun q0 => zh_a fun q1 => zh_i (zh_s hw) zh_n
theorem zw_11 (hw : zPwf P) : zh (xL_11 T R X F B P M a1 a2 a3) (fun S => zPwf S.2.2.2.2.2.1) := by
  unfold xL_11
  exact zh_a fun q0 => zh_a fun q1 => zh_i (zh_s hw) zh_n
theorem zw_12 (hw : zPwf P) : zh (xL_12 T R X F B P M a1 a2 a3) (fun S => zPwf S.2.2.2.2.2.1) := by
  unfold xL_12
  exact zh_a fun q0 => zh_a fun q1 => zh_i (zh_s hw) zh_n
theorem zw_13 (hw : zPwf P) : zh (xL_13 T R X F B P M a1 a2 a3) (fun S => zPwf S.2.2.2.2.2.1) := by
  unfold xL_13
  exact zh_a fun q0 => zh_a fun q1 => zh_i (zh_s hw) zh_n
theorem zw_14 (hw : zPwf P) : zh (xL_14 T R X F B P M a1 a2 a3) (fun S => zPwf S.2.2.2.2.2.1) := by
  unfold xL_14
  exact zh_a fun q0 => zh_a fun q1 => zh_i (zh_s hw) zh_n
theorem zw_15 (hw : zPwf P) : zh (xL_15 T R X F B P M a1 a2 a3) (fun S => zPwf S.2.2.2.2.2.1) := by
  unfold xL_15
  exact zh_a fun q0 => zh_a fun q1 => zh_i (zh_s hw) zh_n
theorem zw_16 (hw : zPwf P) : zh (xL_16 T R X F B P M a1 a2 a3) (fun S => zPwf S.2.2.2.2.2.1) := by
  unfold xL_16
  exact zh_a fun q0 => zh_a fun q1 => zh_i (zh_s hw) zh_n
theorem zw_17 (hw : zPwf P) : zh (xL_17 T R X F B P M a1 a2 a3) (fun S => zPwf S.2.2.2.2.2.1) := by
  unfold xL_17
  exact zh_a fun q0 => zh_a fun q1 => zh_i (zh_s hw) zh_n
theorem zw_18 (hw : zPwf P) : zh (xL_18 T R X F B P M a1 a2 a3) (fun S => zPwf S.2.2.2.2.2.1) := by
  unfold xL_18
  exact zh_a fun q0 => zh_a fun q1 => zh_i (zh_s hw) zh_n
theorem zw_19 (hw : zPwf P) : zh (xL_19 T R X F B P M a1 a2 a3) (fun S => zPwf S.2.2.2.2.2.1) := by
  unfold xL_19
  exact zh_b fun q0 e0 => zh_a fun q1 => zh_i (zh_s (zPk_w hw (zk_rest q0 e0))) zh_n
theorem zw_20 (hw : zPwf P) : zh (xL_20 T R X F B P M a1 a2 a3) (fun S => zPwf S.2.2.2.2.2.1) := by
  unfold xL_20
  exact zh_a fun q0 => zh_a fun q1 => zh_i (zh_s hw) zh_n
theorem zw_21 (hw : zPwf P) : zh (xL_21 T R X F B P M a1 a2 a3) (fun S => zPwf S.2.2.2.2.2.1) := by
  unfold xL_21
  exact zh_a fun q0 => zh_a fun q1 => zh_i (zh_s hw) zh_n
theorem zw_22 (hw : zPwf P) : zh (xL_22 T R X F B P M a1 a2 a3) (fun S => zPwf S.2.2.2.2.2.1) := by
  unfold xL_22
  exact zh_a fun q0 => zh_a fun q1 => zh_i (zh_s hw) zh_n
theorem zw_23 (hw : zPwf P) : zh (xL_23 T R X F B P M a1 a2 a3) (fun S => zPwf S.2.2.2.2.2.1) := by
  unfold xL_23
  exact zh_a fun q0 => zh_a fun q1 => zh_i (zh_s hw) zh_n
theorem zw_24 (hw : zPwf P) : zh (xL_24 T R X F B P M a1 a2 a3) (fun S => zPwf S.2.2.2.2.2.1) := by
  unfold xL_24
  exact zh_a fun q0 => zh_a fun q1 => zh_i (zh_s hw) zh_n
theorem zw_25 (hw : zPwf P) : zh (xL_25 T R X F B P M a1 a2 a3) (fun S => zPwf S.2.2.2.2.2.1) := by
  unfold xL_25
  exact zh_a fun q0 => zh_a fun q1 => zh_i (zh_s hw) zh_n
theorem zw_26 (hw : zPwf P) : zh (xL_26 T R X F B P M a1 a2 a3) (fun S => zPwf S.2.2.2.2.2.1) := by
  unfold xL_26
  exact zh_a fun q0 => zh_a fun q1 => zh_i (zh_s hw) zh_n
theorem zw_27 (hw : zPwf P) : zh (xL_27 T R X F B P M a1 a2 a3) (fun S => zPwf S.2.2.2.2.2.1) := by
  unfold xL_27
  exact zh_a fun q0 => zh_a fun q1 => zh_i (zh_s hw) zh_n
theorem zw_28 (hw : zPwf P) : zh (xL_28 T R X F B P M a1 a2 a3) (fun S => zPwf S.2.2.2.2.2.1) := by
  unfold xL_28
  exact zh_a fun q0 => zh_a fun q1 => zh_i (zh_s hw) zh_n
theorem zw_29 (hw : zPwf P) : zh (xL_29 T R X F B P M a1 a2 a3) (fun S => zPwf S.2.2.2.2.2.1) := by
  unfold xL_29
  exact zh_a fun q0 => zh_a fun q1 => zh_i (zh_s hw) zh_n
theorem zw_30 (hw : zPwf P) : zh (xL_30 T R X F B P M a1 a2 a3) (fun S => zPwf S.2.2.2.2.2.1) := by
  unfold xL_30
  exact zh_a fun q0 => zh_a fun q1 => zh_i (zh_s hw) zh_n
theorem zw_31 (hw : zPwf P) : zh (xL_31 T R X F B P M a1 a2 a3) (fun S => zPwf S.2.2.2.2.2.1) := by
  unfold xL_31
  exact zh_a fun q0 => zh_a fun q1 => zh_i (zh_s hw) zh_n
theorem zw_32 (hw : zPwf P) : zh (xL_32 T R X F B P M a1 a2 a3) (fun S => zPwf S.2.2.2.2.2.1) := by
  unfold xL_32
  exact zh_b fun q0 e0 => zh_a fun q1 => zh_i (zh_s (zPk_w hw (zk_on q0 e0))) zh_n
theorem zw_33 (hw : zPwf P) : zh (xL_33 T R X F B P M a1 a2 a3) (fun S => zPwf S.2.2.2.2.2.1) := by
  unfold xL_33
  exact zh_a fun q0 => zh_a fun q1 => zh_i (zh_s hw) zh_n
end
