/-! the step keeps what holds all along -/
def zIw (S : zSt) : Prop := zInvS S ∧ zPwf S.2.2.2.2.2.1
theorem zIw_0 : zIw (zT0, zR0, zX0, zF0, zB0, zP0, zM0) := ⟨zInv0, fun i a h => absurd (show (none : Option Nat) = some a from h) (fun z => by cases z)⟩
theorem zIw_g {x : Option zSt} (h1 : zgo x) (h2 : zh x (fun S => zPwf S.2.2.2.2.2.1)) : ∃ S9, x = some S9 ∧ zIw S9 := by
  obtain ⟨S9, e, h⟩ := h1
  exact ⟨S9, e, h, h2 S9 e⟩
theorem zIw_step (S : zSt) (a0 a1 a2 a3 : Int32) (h : zIw S) : ∃ S9 : zSt, xL_step S.1 S.2.1 S.2.2.1 S.2.2.2.1 S.2.2.2.2.1 S.2.2.2.2.2.1 S.2.2.2.2.2.2 a0 a1 a2 a3 = some S9 ∧ zIw S9 := by
  obtain ⟨T, R, X, F, B, P, M⟩ := S
  obtain ⟨hI, hw⟩ := id h
  obtain ⟨n, np, nf, nt, nr, par, wt, ans, ad, kd, kn, hd, su, td, pt, fc, tp, rw, hJ⟩ := (show zInv T R X F B P M from hI)
  have hw : zPwf P := hw
  show ∃ S9 : zSt, xL_step T R X F B P M a0 a1 a2 a3 = some S9 ∧ zIw S9
  unfold xL_step
  by_cases g0 : (a0 &&& (63 : Int32)) = (0 : Int32)
  · rw [if_pos g0]
    exact zIw_g (zc_feed hJ a1 a2 a3) (zw_0 hw)
  rw [if_neg g0]
  by_cases g1 : (a0 &&& (63 : Int32)) = (1 : Int32)
  · rw [if_pos g1]
    obtain ⟨S9, e, h1, h2⟩ := zc_quiz hJ hw a1 a2 a3
    exact ⟨S9, e, h1, h2⟩
  rw [if_neg g1]
  by_cases g2 : (a0 &&& (63 : Int32)) = (2 : Int32)
  · rw [if_pos g2]
    exact zIw_g (zc_word hJ a1 a2 a3) (zw_2 hw)
  rw [if_neg g2]
  by_cases g3 : (a0 &&& (63 : Int32)) = (3 : Int32)
  · rw [if_pos g3]
    exact zIw_g (zc_player hJ a1 a2 a3) (zw_3 hw)
  rw [if_neg g3]
  by_cases g4 : (a0 &&& (63 : Int32)) = (4 : Int32)
  · rw [if_pos g4]
    exact zIw_g (zc_whole hJ a1 a2 a3) (zw_4 hw)
  rw [if_neg g4]
  by_cases g5 : (a0 &&& (63 : Int32)) = (5 : Int32)
  · rw [if_pos g5]
    exact zIw_g (zc_left hJ a1 a2 a3) (zw_5 hw)
  rw [if_neg g5]
  by_cases g6 : (a0 &&& (63 : Int32)) = (6 : Int32)
  · rw [if_pos g6]
    exact zIw_g (zc_chance hJ a1 a2 a3) (zw_6 hw)
  rw [if_neg g6]
  by_cases g7 : (a0 &&& (63 : Int32)) = (7 : Int32)
  · rw [if_pos g7]
    exact zIw_g (zc_guess hJ a1 a2 a3) (zw_7 hw)
  rw [if_neg g7]
  by_cases g8 : (a0 &&& (63 : Int32)) = (8 : Int32)
  · rw [if_pos g8]
    exact zIw_g (zc_points hJ a1 a2 a3) (zw_8 hw)
  rw [if_neg g8]
  by_cases g9 : (a0 &&& (63 : Int32)) = (9 : Int32)
  · rw [if_pos g9]
    exact zIw_g (zc_setOf hJ a1 a2 a3) (zw_9 hw)
  rw [if_neg g9]
  by_cases g10 : (a0 &&& (63 : Int32)) = (10 : Int32)
  · rw [if_pos g10]
    exact zIw_g (zc_presses hJ a1 a2 a3) (zw_10 hw)
  rw [if_neg g10]
  by_cases g11 : (a0 &&& (63 : Int32)) = (11 : Int32)
  · rw [if_pos g11]
    exact zIw_g (zc_run hJ a1 a2 a3) (zw_11 hw)
  rw [if_neg g11]
  by_cases g12 : (a0 &&& (63 : Int32)) = (12 : Int32)
  · rw [if_pos g12]
    exact zIw_g (zc_wins hJ a1 a2 a3) (zw_12 hw)
  rw [if_neg g12]
  by_cases g13 : (a0 &&& (63 : Int32)) = (13 : Int32)
  · rw [if_pos g13]
    exact zIw_g (zc_worth hJ a1 a2 a3) (zw_13 hw)
  rw [if_neg g13]
  by_cases g14 : (a0 &&& (63 : Int32)) = (14 : Int32)
  · rw [if_pos g14]
    exact zIw_g (zc_nobody hJ a1 a2 a3) (zw_14 hw)
  rw [if_neg g14]
  by_cases g15 : (a0 &&& (63 : Int32)) = (15 : Int32)
  · rw [if_pos g15]
    exact zIw_g (zc_dull hJ a1 a2 a3) (zw_15 hw)
  rw [if_neg g15]
  by_cases g16 : (a0 &&& (63 : Int32)) = (16 : Int32)
  · rw [if_pos g16]
    exact zIw_g (zc_value hJ a1 a2 a3) (zw_16 hw)
  rw [if_neg g16]
  by_cases g17 : (a0 &&& (63 : Int32)) = (17 : Int32)
  · rw [if_pos g17]
    exact zIw_g (zc_alone hJ a1 a2 a3) (zw_17 hw)
  rw [if_neg g17]
  by_cases g18 : (a0 &&& (63 : Int32)) = (18 : Int32)
  · rw [if_pos g18]
    exact zIw_g (zc_reply hJ a1 a2 a3) (zw_18 hw)
  rw [if_neg g18]
  by_cases g19 : (a0 &&& (63 : Int32)) = (19 : Int32)
  · rw [if_pos g19]
    exact zIw_g (zc_rest hJ a1 a2 a3) (zw_19 hw)
  rw [if_neg g19]
  by_cases g20 : (a0 &&& (63 : Int32)) = (20 : Int32)
  · rw [if_pos g20]
    exact zIw_g (zc_law hJ a1 a2 a3) (zw_20 hw)
  rw [if_neg g20]
  by_cases g21 : (a0 &&& (63 : Int32)) = (21 : Int32)
  · rw [if_pos g21]
    exact zIw_g (zc_mostEarly hJ a1 a2 a3) (zw_21 hw)
  rw [if_neg g21]
  by_cases g22 : (a0 &&& (63 : Int32)) = (22 : Int32)
  · rw [if_pos g22]
    exact zIw_g (zc_silent hJ a1 a2 a3) (zw_22 hw)
  rw [if_neg g22]
  by_cases g23 : (a0 &&& (63 : Int32)) = (23 : Int32)
  · rw [if_pos g23]
    exact zIw_g (zc_partners hJ a1 a2 a3) (zw_23 hw)
  rw [if_neg g23]
  by_cases g24 : (a0 &&& (63 : Int32)) = (24 : Int32)
  · rw [if_pos g24]
    exact zIw_g (zc_fact hJ a1 a2 a3) (zw_24 hw)
  rw [if_neg g24]
  by_cases g25 : (a0 &&& (63 : Int32)) = (25 : Int32)
  · rw [if_pos g25]
    exact zIw_g (zc_had hJ a1 a2 a3) (zw_25 hw)
  rw [if_neg g25]
  by_cases g26 : (a0 &&& (63 : Int32)) = (26 : Int32)
  · rw [if_pos g26]
    exact zIw_g (zc_late hJ a1 a2 a3) (zw_26 hw)
  rw [if_neg g26]
  by_cases g27 : (a0 &&& (63 : Int32)) = (27 : Int32)
  · rw [if_pos g27]
    exact zIw_g (zc_soon hJ a1 a2 a3) (zw_27 hw)
  rw [if_neg g27]
  by_cases g28 : (a0 &&& (63 : Int32)) = (28 : Int32)
  · rw [if_pos g28]
    exact zIw_g (zc_evening hJ a1 a2 a3) (zw_28 hw)
  rw [if_neg g28]
  by_cases g29 : (a0 &&& (63 : Int32)) = (29 : Int32)
  · rw [if_pos g29]
    exact zIw_g (zc_row hJ a1 a2 a3) (zw_29 hw)
  rw [if_neg g29]
  by_cases g30 : (a0 &&& (63 : Int32)) = (30 : Int32)
  · rw [if_pos g30]
    exact zIw_g (zc_judge hJ a1 a2 a3) (zw_30 hw)
  rw [if_neg g30]
  by_cases g31 : (a0 &&& (63 : Int32)) = (31 : Int32)
  · rw [if_pos g31]
    exact zIw_g (zc_image hJ a1 a2 a3) (zw_31 hw)
  rw [if_neg g31]
  by_cases g32 : (a0 &&& (63 : Int32)) = (32 : Int32)
  · rw [if_pos g32]
    exact zIw_g (zc_on hJ a1 a2 a3) (zw_32 hw)
  rw [if_neg g32]
  by_cases g33 : (a0 &&& (63 : Int32)) = (33 : Int32)
  · rw [if_pos g33]
    exact zIw_g (zc_count hJ a1 a2 a3) (zw_33 hw)
  rw [if_neg g33]
  exact ⟨_, rfl, h⟩
