/-! the law: step and loop -/
theorem zsw_out_0_34 {x : Int32} (h0 : ¬ x = (0 : Int32)) (h1 : ¬ x = (1 : Int32)) (h2 : ¬ x = (2 : Int32)) (h3 : ¬ x = (3 : Int32)) (h4 : ¬ x = (4 : Int32)) (h5 : ¬ x = (5 : Int32)) (h6 : ¬ x = (6 : Int32)) (h7 : ¬ x = (7 : Int32)) (h8 : ¬ x = (8 : Int32)) (h9 : ¬ x = (9 : Int32)) (h10 : ¬ x = (10 : Int32)) (h11 : ¬ x = (11 : Int32)) (h12 : ¬ x = (12 : Int32)) (h13 : ¬ x = (13 : Int32)) (h14 : ¬ x = (14 : Int32)) (h15 : ¬ x = (15 : Int32)) (h16 : ¬ x = (16 : Int32)) (h17 : ¬ x = (17 : Int32)) (h18 : ¬ x = (18 : Int32)) (h19 : ¬ x = (19 : Int32)) (h20 : ¬ x = (20 : Int32)) (h21 : ¬ x = (21 : Int32)) (h22 : ¬ x = (22 : Int32)) (h23 : ¬ x = (23 : Int32)) (h24 : ¬ x = (24 : Int32)) (h25 : ¬ x = (25 : Int32)) (h26 : ¬ x = (26 : Int32)) (h27 : ¬ x = (27 : Int32)) (h28 : ¬ x = (28 : Int32)) (h29 : ¬ x = (29 : Int32)) (h30 : ¬ x = (30 : Int32)) (h31 : ¬ x = (31 : Int32)) (h32 : ¬ x = (32 : Int32)) (h33 : ¬ x = (33 : Int32)) : x.toInt < 0 ∨ 33 < x.toInt := by
  rcases Int.lt_or_le x.toInt 0 with h | h
  · exact Or.inl h
  · rcases Int.lt_or_le 33 x.toInt with g | g
    · exact Or.inr g
    · exfalso
      rcases (show x.toInt = 0 ∨ x.toInt = 1 ∨ x.toInt = 2 ∨ x.toInt = 3 ∨ x.toInt = 4 ∨ x.toInt = 5 ∨ x.toInt = 6 ∨ x.toInt = 7 ∨ x.toInt = 8 ∨ x.toInt = 9 ∨ x.toInt = 10 ∨ x.toInt = 11 ∨ x.toInt = 12 ∨ x.toInt = 13 ∨ x.toInt = 14 ∨ x.toInt = 15 ∨ x.toInt = 16 ∨ x.toInt = 17 ∨ x.toInt = 18 ∨ x.toInt = 19 ∨ x.toInt = 20 ∨ x.toInt = 21 ∨ x.toInt = 22 ∨ x.toInt = 23 ∨ x.toInt = 24 ∨ x.toInt = 25 ∨ x.toInt = 26 ∨ x.toInt = 27 ∨ x.toInt = 28 ∨ x.toInt = 29 ∨ x.toInt = 30 ∨ x.toInt = 31 ∨ x.toInt = 32 ∨ x.toInt = 33 by omega) with e | e | e | e | e | e | e | e | e | e | e | e | e | e | e | e | e | e | e | e | e | e | e | e | e | e | e | e | e | e | e | e | e | e
      · exact h0 (Int32.toInt.inj (e.trans (by decide)))
      · exact h1 (Int32.toInt.inj (e.trans (by decide)))
      · exact h2 (Int32.toInt.inj (e.trans (by decide)))
      · exact h3 (Int32.toInt.inj (e.trans (by decide)))
      · exact h4 (Int32.toInt.inj (e.trans (by decide)))
      · exact h5 (Int32.toInt.inj (e.trans (by decide)))
      · exact h6 (Int32.toInt.inj (e.trans (by decide)))
      · exact h7 (Int32.toInt.inj (e.trans (by decide)))
      · exact h8 (Int32.toInt.inj (e.trans (by decide)))
      · exact h9 (Int32.toInt.inj (e.trans (by decide)))
      · exact h10 (Int32.toInt.inj (e.trans (by decide)))
      · exact h11 (Int32.toInt.inj (e.trans (by decide)))
      · exact h12 (Int32.toInt.inj (e.trans (by decide)))
      · exact h13 (Int32.toInt.inj (e.trans (by decide)))
      · exact h14 (Int32.toInt.inj (e.trans (by decide)))
      · exact h15 (Int32.toInt.inj (e.trans (by decide)))
      · exact h16 (Int32.toInt.inj (e.trans (by decide)))
      · exact h17 (Int32.toInt.inj (e.trans (by decide)))
      · exact h18 (Int32.toInt.inj (e.trans (by decide)))
      · exact h19 (Int32.toInt.inj (e.trans (by decide)))
      · exact h20 (Int32.toInt.inj (e.trans (by decide)))
      · exact h21 (Int32.toInt.inj (e.trans (by decide)))
      · exact h22 (Int32.toInt.inj (e.trans (by decide)))
      · exact h23 (Int32.toInt.inj (e.trans (by decide)))
      · exact h24 (Int32.toInt.inj (e.trans (by decide)))
      · exact h25 (Int32.toInt.inj (e.trans (by decide)))
      · exact h26 (Int32.toInt.inj (e.trans (by decide)))
      · exact h27 (Int32.toInt.inj (e.trans (by decide)))
      · exact h28 (Int32.toInt.inj (e.trans (by decide)))
      · exact h29 (Int32.toInt.inj (e.trans (by decide)))
      · exact h30 (Int32.toInt.inj (e.trans (by decide)))
      · exact h31 (Int32.toInt.inj (e.trans (by decide)))
      · exact h32 (Int32.toInt.inj (e.trans (by decide)))
      · exact h33 (Int32.toInt.inj (e.trans (by decide)))
noncomputable def xL_step (pT : zM) (pR : zM) (pX : zM) (pF : zM) (pB : zM) (pP : zP) (M : zM) (a0 a1 a2 a3 : Int32) : Option zSt :=
  if (a0 &&& (63 : Int32)) = (0 : Int32) then xL_0 pT pR pX pF pB pP M a1 a2 a3 else
  if (a0 &&& (63 : Int32)) = (1 : Int32) then xL_1 pT pR pX pF pB pP M a1 a2 a3 else
  if (a0 &&& (63 : Int32)) = (2 : Int32) then xL_2 pT pR pX pF pB pP M a1 a2 a3 else
  if (a0 &&& (63 : Int32)) = (3 : Int32) then xL_3 pT pR pX pF pB pP M a1 a2 a3 else
  if (a0 &&& (63 : Int32)) = (4 : Int32) then xL_4 pT pR pX pF pB pP M a1 a2 a3 else
  if (a0 &&& (63 : Int32)) = (5 : Int32) then xL_5 pT pR pX pF pB pP M a1 a2 a3 else
  if (a0 &&& (63 : Int32)) = (6 : Int32) then xL_6 pT pR pX pF pB pP M a1 a2 a3 else
  if (a0 &&& (63 : Int32)) = (7 : Int32) then xL_7 pT pR pX pF pB pP M a1 a2 a3 else
  if (a0 &&& (63 : Int32)) = (8 : Int32) then xL_8 pT pR pX pF pB pP M a1 a2 a3 else
  if (a0 &&& (63 : Int32)) = (9 : Int32) then xL_9 pT pR pX pF pB pP M a1 a2 a3 else
  if (a0 &&& (63 : Int32)) = (10 : Int32) then xL_10 pT pR pX pF pB pP M a1 a2 a3 else
  if (a0 &&& (63 : Int32)) = (11 : Int32) then xL_11 pT pR pX pF pB pP M a1 a2 a3 else
  if (a0 &&& (63 : Int32)) = (12 : Int32) then xL_12 pT pR pX pF pB pP M a1 a2 a3 else
  if (a0 &&& (63 : Int32)) = (13 : Int32) then xL_13 pT pR pX pF pB pP M a1 a2 a3 else
  if (a0 &&& (63 : Int32)) = (14 : Int32) then xL_14 pT pR pX pF pB pP M a1 a2 a3 else
  if (a0 &&& (63 : Int32)) = (15 : Int32) then xL_15 pT pR pX pF pB pP M a1 a2 a3 else
  if (a0 &&& (63 : Int32)) = (16 : Int32) then xL_16 pT pR pX pF pB pP M a1 a2 a3 else
  if (a0 &&& (63 : Int32)) = (17 : Int32) then xL_17 pT pR pX pF pB pP M a1 a2 a3 else
  if (a0 &&& (63 : Int32)) = (18 : Int32) then xL_18 pT pR pX pF pB pP M a1 a2 a3 else
  if (a0 &&& (63 : Int32)) = (19 : Int32) then xL_19 pT pR pX pF pB pP M a1 a2 a3 else
  if (a0 &&& (63 : Int32)) = (20 : Int32) then xL_20 pT pR pX pF pB pP M a1 a2 a3 else
  if (a0 &&& (63 : Int32)) = (21 : Int32) then xL_21 pT pR pX pF pB pP M a1 a2 a3 else
  if (a0 &&& (63 : Int32)) = (22 : Int32) then xL_22 pT pR pX pF pB pP M a1 a2 a3 else
  if (a0 &&& (63 : Int32)) = (23 : Int32) then xL_23 pT pR pX pF pB pP M a1 a2 a3 else
  if (a0 &&& (63 : Int32)) = (24 : Int32) then xL_24 pT pR pX pF pB pP M a1 a2 a3 else
  if (a0 &&& (63 : Int32)) = (25 : Int32) then xL_25 pT pR pX pF pB pP M a1 a2 a3 else
  if (a0 &&& (63 : Int32)) = (26 : Int32) then xL_26 pT pR pX pF pB pP M a1 a2 a3 else
  if (a0 &&& (63 : Int32)) = (27 : Int32) then xL_27 pT pR pX pF pB pP M a1 a2 a3 else
  if (a0 &&& (63 : Int32)) = (28 : Int32) then xL_28 pT pR pX pF pB pP M a1 a2 a3 else
  if (a0 &&& (63 : Int32)) = (29 : Int32) then xL_29 pT pR pX pF pB pP M a1 a2 a3 else
  if (a0 &&& (63 : Int32)) = (30 : Int32) then xL_30 pT pR pX pF pB pP M a1 a2 a3 else
  if (a0 &&& (63 : Int32)) = (31 : Int32) then xL_31 pT pR pX pF pB pP M a1 a2 a3 else
  if (a0 &&& (63 : Int32)) = (32 : Int32) then xL_32 pT pR pX pF pB pP M a1 a2 a3 else
  if (a0 &&& (63 : Int32)) = (33 : Int32) then xL_33 pT pR pX pF pB pP M a1 a2 a3 else
  some (pT, pR, pX, pF, pB, pP, M)
set_option maxHeartbeats 4000000 in
set_option maxRecDepth 100000 in
theorem tL_step {X : zX} {κ : Nat → ClassId} {tg : Nat} {adK adV ad am : Nat → Nat} {b L : Nat} {xs : Nat → Int32} {i : Int32} {cells slots : Nat} {pT pR pX pF pB M : zM} {pP : zP} {S9 : zSt} (hC : zC X code RL lw_tbl vwCl (zty κ) (zE tg (zS adK adV)) 4 room_1) (hEk : zEk (zE tg (zS adK adV))) (hB : zB X b L xs) (hin0 : vp_in i L) (hin1 : vp_in (i + (1 : Int32)) L) (hin2 : vp_in (i + (2 : Int32)) L) (hin3 : vp_in (i + (3 : Int32)) L) (hc1 : cells + 64 ≤ 600000) (hc2 : slots + 256 ≤ 7302250) (h : xL_step pT pR pX pF pB pP M (xs i.toNatClampNeg) (xs (i + (1 : Int32)).toNatClampNeg) (xs (i + (2 : Int32)).toNatClampNeg) (xs (i + (3 : Int32)).toNatClampNeg) = some S9) (kk : ∀ (ad2 : Nat → Nat) (c2 s2 : Nat), c2 ≤ cells + 64 → s2 ≤ slots + 256 → zV X c2 s2 (zwM κ am S9.2.2.2.2.2.2 ++ zwC κ ad2 S9.1 S9.2.1 S9.2.2.1 S9.2.2.2.1 S9.2.2.2.2.1 S9.2.2.2.2.2.1) [(0, .ref b), (1, .ref (ad2 76)), (2, .ref (am 0)), (3, .int i)] [] 1182) : zV X cells slots (zwM κ am M ++ zwC κ ad pT pR pX pF pB pP) [(0, .ref b), (1, .ref (ad 76)), (2, .ref (am 0)), (3, .int i)] [] 26 := by
  unfold xL_step at h
  refine zr_aload_n (pc := 26) hC 0 rfl rfl dL_law_26 ?_
  refine zr_iload_n (pc := 27) hC 3 rfl rfl dL_law_27 ?_
  refine zr_sld (pc := 28) hC hB hin0 dL_law_28 ?_
  refine zr_bipush (pc := 29) hC zkb_63 dL_law_29 ?_
  refine zr_iand (pc := 31) hC dL_law_31 ?_
  by_cases c0 : (xs i.toNatClampNeg &&& (63 : Int32)) = (0 : Int32)
  · replace h := zip h c0
    refine zr_tabIn (pc := 32) (off := 152) (tgt := 184) hC dL_law_32 (by rw [c0]; decide) (by rw [c0]; decide) (by rw [c0]; decide) (by decide) ?_
    exact tL_0 hC hEk hB hin1 hin2 hin3 hc1 hc2 h kk
  replace h := zin h c0
  by_cases c1 : (xs i.toNatClampNeg &&& (63 : Int32)) = (1 : Int32)
  · replace h := zip h c1
    refine zr_tabIn (pc := 32) (off := 215) (tgt := 247) hC dL_law_32 (by rw [c1]; decide) (by rw [c1]; decide) (by rw [c1]; decide) (by decide) ?_
    exact tL_1 hC hEk hB hin1 hin2 hin3 hc1 hc2 h kk
  replace h := zin h c1
  by_cases c2 : (xs i.toNatClampNeg &&& (63 : Int32)) = (2 : Int32)
  · replace h := zip h c2
    refine zr_tabIn (pc := 32) (off := 228) (tgt := 260) hC dL_law_32 (by rw [c2]; decide) (by rw [c2]; decide) (by rw [c2]; decide) (by decide) ?_
    exact tL_2 hC hEk hB hin1 hin2 hin3 hc1 hc2 h kk
  replace h := zin h c2
  by_cases c3 : (xs i.toNatClampNeg &&& (63 : Int32)) = (3 : Int32)
  · replace h := zip h c3
    refine zr_tabIn (pc := 32) (off := 261) (tgt := 293) hC dL_law_32 (by rw [c3]; decide) (by rw [c3]; decide) (by rw [c3]; decide) (by decide) ?_
    exact tL_3 hC hEk hB hin1 hin2 hin3 hc1 hc2 h kk
  replace h := zin h c3
  by_cases c4 : (xs i.toNatClampNeg &&& (63 : Int32)) = (4 : Int32)
  · replace h := zip h c4
    refine zr_tabIn (pc := 32) (off := 294) (tgt := 326) hC dL_law_32 (by rw [c4]; decide) (by rw [c4]; decide) (by rw [c4]; decide) (by decide) ?_
    exact tL_4 hC hEk hB hin1 hin2 hin3 hc1 hc2 h kk
  replace h := zin h c4
  by_cases c5 : (xs i.toNatClampNeg &&& (63 : Int32)) = (5 : Int32)
  · replace h := zip h c5
    refine zr_tabIn (pc := 32) (off := 307) (tgt := 339) hC dL_law_32 (by rw [c5]; decide) (by rw [c5]; decide) (by rw [c5]; decide) (by decide) ?_
    exact tL_5 hC hEk hB hin1 hin2 hin3 hc1 hc2 h kk
  replace h := zin h c5
  by_cases c6 : (xs i.toNatClampNeg &&& (63 : Int32)) = (6 : Int32)
  · replace h := zip h c6
    refine zr_tabIn (pc := 32) (off := 330) (tgt := 362) hC dL_law_32 (by rw [c6]; decide) (by rw [c6]; decide) (by rw [c6]; decide) (by decide) ?_
    exact tL_6 hC hEk hB hin1 hin2 hin3 hc1 hc2 h kk
  replace h := zin h c6
  by_cases c7 : (xs i.toNatClampNeg &&& (63 : Int32)) = (7 : Int32)
  · replace h := zip h c7
    refine zr_tabIn (pc := 32) (off := 374) (tgt := 406) hC dL_law_32 (by rw [c7]; decide) (by rw [c7]; decide) (by rw [c7]; decide) (by decide) ?_
    exact tL_7 hC hEk hB hin1 hin2 hin3 hc1 hc2 h kk
  replace h := zin h c7
  by_cases c8 : (xs i.toNatClampNeg &&& (63 : Int32)) = (8 : Int32)
  · replace h := zip h c8
    refine zr_tabIn (pc := 32) (off := 407) (tgt := 439) hC dL_law_32 (by rw [c8]; decide) (by rw [c8]; decide) (by rw [c8]; decide) (by decide) ?_
    exact tL_8 hC hEk hB hin1 hin2 hin3 hc1 hc2 h kk
  replace h := zin h c8
  by_cases c9 : (xs i.toNatClampNeg &&& (63 : Int32)) = (9 : Int32)
  · replace h := zip h c9
    refine zr_tabIn (pc := 32) (off := 440) (tgt := 472) hC dL_law_32 (by rw [c9]; decide) (by rw [c9]; decide) (by rw [c9]; decide) (by decide) ?_
    exact tL_9 hC hEk hB hin1 hin2 hin3 hc1 hc2 h kk
  replace h := zin h c9
  by_cases c10 : (xs i.toNatClampNeg &&& (63 : Int32)) = (10 : Int32)
  · replace h := zip h c10
    refine zr_tabIn (pc := 32) (off := 473) (tgt := 505) hC dL_law_32 (by rw [c10]; decide) (by rw [c10]; decide) (by rw [c10]; decide) (by decide) ?_
    exact tL_10 hC hEk hB hin1 hin2 hin3 hc1 hc2 h kk
  replace h := zin h c10
  by_cases c11 : (xs i.toNatClampNeg &&& (63 : Int32)) = (11 : Int32)
  · replace h := zip h c11
    refine zr_tabIn (pc := 32) (off := 506) (tgt := 538) hC dL_law_32 (by rw [c11]; decide) (by rw [c11]; decide) (by rw [c11]; decide) (by decide) ?_
    exact tL_11 hC hEk hB hin1 hin2 hin3 hc1 hc2 h kk
  replace h := zin h c11
  by_cases c12 : (xs i.toNatClampNeg &&& (63 : Int32)) = (12 : Int32)
  · replace h := zip h c12
    refine zr_tabIn (pc := 32) (off := 539) (tgt := 571) hC dL_law_32 (by rw [c12]; decide) (by rw [c12]; decide) (by rw [c12]; decide) (by decide) ?_
    exact tL_12 hC hEk hB hin1 hin2 hin3 hc1 hc2 h kk
  replace h := zin h c12
  by_cases c13 : (xs i.toNatClampNeg &&& (63 : Int32)) = (13 : Int32)
  · replace h := zip h c13
    refine zr_tabIn (pc := 32) (off := 573) (tgt := 605) hC dL_law_32 (by rw [c13]; decide) (by rw [c13]; decide) (by rw [c13]; decide) (by decide) ?_
    exact tL_13 hC hEk hB hin1 hin2 hin3 hc1 hc2 h kk
  replace h := zin h c13
  by_cases c14 : (xs i.toNatClampNeg &&& (63 : Int32)) = (14 : Int32)
  · replace h := zip h c14
    refine zr_tabIn (pc := 32) (off := 607) (tgt := 639) hC dL_law_32 (by rw [c14]; decide) (by rw [c14]; decide) (by rw [c14]; decide) (by decide) ?_
    exact tL_14 hC hEk hB hin1 hin2 hin3 hc1 hc2 h kk
  replace h := zin h c14
  by_cases c15 : (xs i.toNatClampNeg &&& (63 : Int32)) = (15 : Int32)
  · replace h := zip h c15
    refine zr_tabIn (pc := 32) (off := 631) (tgt := 663) hC dL_law_32 (by rw [c15]; decide) (by rw [c15]; decide) (by rw [c15]; decide) (by decide) ?_
    exact tL_15 hC hEk hB hin1 hin2 hin3 hc1 hc2 h kk
  replace h := zin h c15
  by_cases c16 : (xs i.toNatClampNeg &&& (63 : Int32)) = (16 : Int32)
  · replace h := zip h c16
    refine zr_tabIn (pc := 32) (off := 655) (tgt := 687) hC dL_law_32 (by rw [c16]; decide) (by rw [c16]; decide) (by rw [c16]; decide) (by decide) ?_
    exact tL_16 hC hEk hB hin1 hin2 hin3 hc1 hc2 h kk
  replace h := zin h c16
  by_cases c17 : (xs i.toNatClampNeg &&& (63 : Int32)) = (17 : Int32)
  · replace h := zip h c17
    refine zr_tabIn (pc := 32) (off := 699) (tgt := 731) hC dL_law_32 (by rw [c17]; decide) (by rw [c17]; decide) (by rw [c17]; decide) (by decide) ?_
    exact tL_17 hC hEk hB hin1 hin2 hin3 hc1 hc2 h kk
  replace h := zin h c17
  by_cases c18 : (xs i.toNatClampNeg &&& (63 : Int32)) = (18 : Int32)
  · replace h := zip h c18
    refine zr_tabIn (pc := 32) (off := 722) (tgt := 754) hC dL_law_32 (by rw [c18]; decide) (by rw [c18]; decide) (by rw [c18]; decide) (by decide) ?_
    exact tL_18 hC hEk hB hin1 hin2 hin3 hc1 hc2 h kk
  replace h := zin h c18
  by_cases c19 : (xs i.toNatClampNeg &&& (63 : Int32)) = (19 : Int32)
  · replace h := zip h c19
    refine zr_tabIn (pc := 32) (off := 755) (tgt := 787) hC dL_law_32 (by rw [c19]; decide) (by rw [c19]; decide) (by rw [c19]; decide) (by decide) ?_
    exact tL_19 hC hEk hB hin1 hin2 hin3 hc1 hc2 h kk
  replace h := zin h c19
  by_cases c20 : (xs i.toNatClampNeg &&& (63 : Int32)) = (20 : Int32)
  · replace h := zip h c20
    refine zr_tabIn (pc := 32) (off := 788) (tgt := 820) hC dL_law_32 (by rw [c20]; decide) (by rw [c20]; decide) (by rw [c20]; decide) (by decide) ?_
    exact tL_20 hC hEk hB hin1 hin2 hin3 hc1 hc2 h kk
  replace h := zin h c20
  by_cases c21 : (xs i.toNatClampNeg &&& (63 : Int32)) = (21 : Int32)
  · replace h := zip h c21
    refine zr_tabIn (pc := 32) (off := 811) (tgt := 843) hC dL_law_32 (by rw [c21]; decide) (by rw [c21]; decide) (by rw [c21]; decide) (by decide) ?_
    exact tL_21 hC hEk hB hin1 hin2 hin3 hc1 hc2 h kk
  replace h := zin h c21
  by_cases c22 : (xs i.toNatClampNeg &&& (63 : Int32)) = (22 : Int32)
  · replace h := zip h c22
    refine zr_tabIn (pc := 32) (off := 834) (tgt := 866) hC dL_law_32 (by rw [c22]; decide) (by rw [c22]; decide) (by rw [c22]; decide) (by decide) ?_
    exact tL_22 hC hEk hB hin1 hin2 hin3 hc1 hc2 h kk
  replace h := zin h c22
  by_cases c23 : (xs i.toNatClampNeg &&& (63 : Int32)) = (23 : Int32)
  · replace h := zip h c23
    refine zr_tabIn (pc := 32) (off := 867) (tgt := 899) hC dL_law_32 (by rw [c23]; decide) (by rw [c23]; decide) (by rw [c23]; decide) (by decide) ?_
    exact tL_23 hC hEk hB hin1 hin2 hin3 hc1 hc2 h kk
  replace h := zin h c23
  by_cases c24 : (xs i.toNatClampNeg &&& (63 : Int32)) = (24 : Int32)
  · replace h := zip h c24
    refine zr_tabIn (pc := 32) (off := 910) (tgt := 942) hC dL_law_32 (by rw [c24]; decide) (by rw [c24]; decide) (by rw [c24]; decide) (by decide) ?_
    exact tL_24 hC hEk hB hin1 hin2 hin3 hc1 hc2 h kk
  replace h := zin h c24
  by_cases c25 : (xs i.toNatClampNeg &&& (63 : Int32)) = (25 : Int32)
  · replace h := zip h c25
    refine zr_tabIn (pc := 32) (off := 933) (tgt := 965) hC dL_law_32 (by rw [c25]; decide) (by rw [c25]; decide) (by rw [c25]; decide) (by decide) ?_
    exact tL_25 hC hEk hB hin1 hin2 hin3 hc1 hc2 h kk
  replace h := zin h c25
  by_cases c26 : (xs i.toNatClampNeg &&& (63 : Int32)) = (26 : Int32)
  · replace h := zip h c26
    refine zr_tabIn (pc := 32) (off := 966) (tgt := 998) hC dL_law_32 (by rw [c26]; decide) (by rw [c26]; decide) (by rw [c26]; decide) (by decide) ?_
    exact tL_26 hC hEk hB hin1 hin2 hin3 hc1 hc2 h kk
  replace h := zin h c26
  by_cases c27 : (xs i.toNatClampNeg &&& (63 : Int32)) = (27 : Int32)
  · replace h := zip h c27
    refine zr_tabIn (pc := 32) (off := 989) (tgt := 1021) hC dL_law_32 (by rw [c27]; decide) (by rw [c27]; decide) (by rw [c27]; decide) (by decide) ?_
    exact tL_27 hC hEk hB hin1 hin2 hin3 hc1 hc2 h kk
  replace h := zin h c27
  by_cases c28 : (xs i.toNatClampNeg &&& (63 : Int32)) = (28 : Int32)
  · replace h := zip h c28
    refine zr_tabIn (pc := 32) (off := 1012) (tgt := 1044) hC dL_law_32 (by rw [c28]; decide) (by rw [c28]; decide) (by rw [c28]; decide) (by decide) ?_
    exact tL_28 hC hEk hB hin1 hin2 hin3 hc1 hc2 h kk
  replace h := zin h c28
  by_cases c29 : (xs i.toNatClampNeg &&& (63 : Int32)) = (29 : Int32)
  · replace h := zip h c29
    refine zr_tabIn (pc := 32) (off := 1055) (tgt := 1087) hC dL_law_32 (by rw [c29]; decide) (by rw [c29]; decide) (by rw [c29]; decide) (by decide) ?_
    exact tL_29 hC hEk hB hin1 hin2 hin3 hc1 hc2 h kk
  replace h := zin h c29
  by_cases c30 : (xs i.toNatClampNeg &&& (63 : Int32)) = (30 : Int32)
  · replace h := zip h c30
    refine zr_tabIn (pc := 32) (off := 1078) (tgt := 1110) hC dL_law_32 (by rw [c30]; decide) (by rw [c30]; decide) (by rw [c30]; decide) (by decide) ?_
    exact tL_30 hC hEk hB hin1 hin2 hin3 hc1 hc2 h kk
  replace h := zin h c30
  by_cases c31 : (xs i.toNatClampNeg &&& (63 : Int32)) = (31 : Int32)
  · replace h := zip h c31
    refine zr_tabIn (pc := 32) (off := 1101) (tgt := 1133) hC dL_law_32 (by rw [c31]; decide) (by rw [c31]; decide) (by rw [c31]; decide) (by decide) ?_
    exact tL_31 hC hEk hB hin1 hin2 hin3 hc1 hc2 h kk
  replace h := zin h c31
  by_cases c32 : (xs i.toNatClampNeg &&& (63 : Int32)) = (32 : Int32)
  · replace h := zip h c32
    refine zr_tabIn (pc := 32) (off := 1114) (tgt := 1146) hC dL_law_32 (by rw [c32]; decide) (by rw [c32]; decide) (by rw [c32]; decide) (by decide) ?_
    exact tL_32 hC hEk hB hin1 hin2 hin3 hc1 hc2 h kk
  replace h := zin h c32
  by_cases c33 : (xs i.toNatClampNeg &&& (63 : Int32)) = (33 : Int32)
  · replace h := zip h c33
    refine zr_tabIn (pc := 32) (off := 1127) (tgt := 1159) hC dL_law_32 (by rw [c33]; decide) (by rw [c33]; decide) (by rw [c33]; decide) (by decide) ?_
    exact tL_33 hC hEk hB hin1 hin2 hin3 hc1 hc2 h kk
  replace h := zin h c33
  refine zr_tabOut (pc := 32) (tgt := 1182) hC dL_law_32 (zsw_out_0_34 c0 c1 c2 c3 c4 c5 c6 c7 c8 c9 c10 c11 c12 c13 c14 c15 c16 c17 c18 c19 c20 c21 c22 c23 c24 c25 c26 c27 c28 c29 c30 c31 c32 c33) (by decide) ?_
  obtain rfl := Option.some.inj h
  exact kk ad cells slots (by omega) (by omega)
theorem zL_of {n : Nat} (h : n ≤ 4000) : (Int32.ofNat n).toInt = n := Int32.toInt_ofNat_of_lt (by omega)
theorem zL_add {t k : Nat} {c : Int32} (h : 4 * t + k ≤ 4000) (hc : c = Int32.ofNat k) : Int32.ofNat (4 * t) + c = Int32.ofNat (4 * t + k) := by
  rw [hc, Int32.ofNat_add]
theorem zL_in {L t k : Nat} {c : Int32} (hL : L ≤ 2048) (h : 4 * t + k < L) (hc : c = Int32.ofNat k) : vp_in (Int32.ofNat (4 * t) + c) L := by
  rw [zL_add (by omega) hc]
  refine vp_in_iff.mpr ?_
  rw [zL_of (by omega)]
  omega
theorem zL_le {L t : Nat} (hL : L ≤ 2048) (ht : t ≤ 513) (c : ¬ (Int32.ofNat L - 4 < Int32.ofNat (4 * t))) : 4 * t + 4 ≤ L := by
  rw [Int32.lt_iff_toInt_lt, Int32.toInt_sub, zL_of (by omega), zL_of (by omega), show (4 : Int32).toInt = 4 from by decide, Int.bmod_eq_of_le (by omega) (by omega)] at c
  omega
set_option maxHeartbeats 4000000 in
set_option maxRecDepth 100000 in
theorem tL_loop {X : zX} {κ : Nat → ClassId} {tg : Nat} {adK adV : Nat → Nat} {b L : Nat} {xs : Nat → Int32} (hC : zC X code RL lw_tbl vwCl (zty κ) (zE tg (zS adK adV)) 4 room_1) (hEk : zEk (zE tg (zS adK adV))) (hB : zB X b L xs) (hLw : zLw X b) (hL : L ≤ 2048) (I : zSt → Prop) (hI : ∀ (S : zSt) (a0 a1 a2 a3 : Int32), I S → ∃ S9 : zSt, xL_step S.1 S.2.1 S.2.2.1 S.2.2.2.1 S.2.2.2.2.1 S.2.2.2.2.2.1 S.2.2.2.2.2.2 a0 a1 a2 a3 = some S9 ∧ I S9) :
    ∀ (n t : Nat), t + n = 513 → ∀ (S : zSt) (ad am : Nat → Nat) (cells slots : Nat), I S → cells ≤ 120 + 64 * t → slots ≤ 2100 + 256 * t → zV X cells slots (zwM κ am S.2.2.2.2.2.2 ++ zwC κ ad S.1 S.2.1 S.2.2.1 S.2.2.2.1 S.2.2.2.2.1 S.2.2.2.2.2.1) [(0, .ref b), (1, .ref (ad 76)), (2, .ref (am 0)), (3, .int (Int32.ofNat (4 * t)))] [] 18 := by
  intro n
  induction n with
  | zero =>
    intro t ht S ad am cells slots hS hc hs
    refine zr_iload_n (pc := 18) hC 3 rfl rfl dL_law_18 ?_
    refine zr_aload_n (pc := 19) hC 0 rfl rfl dL_law_19 ?_
    refine zr_slen (pc := 20) hC hB dL_law_20 ?_
    refine zr_iconst (pc := 21) hC zki_4 dL_law_21 ?_
    refine zr_isub (pc := 22) hC dL_law_22 ?_
    refine zr_icmp_gt (pc := 23) (tgt := 1188) hC dL_law_23 (by decide) (fun c => ?_) (fun c => ?_)
    · refine zr_iconst (pc := 1188) hC zki_1 dL_law_1188 ?_
      exact zr_lend (pc := 1189) hC hLw (by omega) (by omega) dL_law_1189
    · have := zL_le hL (by omega) c
      omega
  | succ n ih =>
    intro t ht S ad am cells slots hS hc hs
    refine zr_iload_n (pc := 18) hC 3 rfl rfl dL_law_18 ?_
    refine zr_aload_n (pc := 19) hC 0 rfl rfl dL_law_19 ?_
    refine zr_slen (pc := 20) hC hB dL_law_20 ?_
    refine zr_iconst (pc := 21) hC zki_4 dL_law_21 ?_
    refine zr_isub (pc := 22) hC dL_law_22 ?_
    refine zr_icmp_gt (pc := 23) (tgt := 1188) hC dL_law_23 (by decide) (fun c => ?_) (fun c => ?_)
    · refine zr_iconst (pc := 1188) hC zki_1 dL_law_1188 ?_
      exact zr_lend (pc := 1189) hC hLw (by omega) (by omega) dL_law_1189
    · have h4 := zL_le hL (by omega) c
      obtain ⟨S9, h9, hS9⟩ := hI S (xs (Int32.ofNat (4 * t)).toNatClampNeg) (xs (Int32.ofNat (4 * t) + 1).toNatClampNeg) (xs (Int32.ofNat (4 * t) + 2).toNatClampNeg) (xs (Int32.ofNat (4 * t) + 3).toNatClampNeg) hS
      have h0 : vp_in (Int32.ofNat (4 * t)) L := by
        have h0 := zL_in (t := t) (k := 0) (c := 0) hL (by omega) (by decide)
        rwa [zL_add (k := 0) (by omega) (by decide)] at h0
      have hq1 : ∀ c2, c2 ≤ cells + 64 → c2 ≤ 120 + 64 * (t + 1) := fun c2 h => by omega
      have hq2 : ∀ s2, s2 ≤ slots + 256 → s2 ≤ 2100 + 256 * (t + 1) := fun s2 h => by omega
      refine tL_step hC hEk hB h0 (zL_in (k := 1) hL (by omega) (by decide)) (zL_in (k := 2) hL (by omega) (by decide)) (zL_in (k := 3) hL (by omega) (by decide)) (by omega) (by omega) h9 (fun ad2 c2 s2 g1 g2 => ?_)
      refine zr_iinc (pc := 1182) (k := 3) (lv' := [(3, .int (Int32.ofNat (4 * t) + 4)), (0, .ref b), (1, .ref (ad2 76)), (2, .ref (am 0))]) hC zki_4 (by decide) rfl rfl dL_law_1182 ?_
      refine zr_goto (pc := 1185) (tgt := 18) hC dL_law_1185 (by decide) ?_
      refine zV.sub (lv' := [(0, .ref b), (1, .ref (ad2 76)), (2, .ref (am 0)), (3, .int (Int32.ofNat (4 * t) + 4))]) [1, 2, 3, 0] rfl ?_
      rw [zL_add (k := 4) (by omega) (by decide), show 4 * t + 4 = 4 * (t + 1) by omega]
      exact ih (t + 1) (by omega) S9 ad2 am c2 s2 hS9 (hq1 _ g1) (hq2 _ g2)
