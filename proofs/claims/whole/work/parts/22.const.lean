theorem zkb_m9 : (Int8.ofInt (-9)).toInt32 = (-9 : Int32) := by decide
theorem zkb_m6 : (Int8.ofInt (-6)).toInt32 = (-6 : Int32) := by decide
theorem zkb_m4 : (Int8.ofInt (-4)).toInt32 = (-4 : Int32) := by decide
theorem zkb_m3 : (Int8.ofInt (-3)).toInt32 = (-3 : Int32) := by decide
theorem zkb_m2 : (Int8.ofInt (-2)).toInt32 = (-2 : Int32) := by decide
theorem zkb_6 : (Int8.ofInt (6)).toInt32 = (6 : Int32) := by decide
theorem zkb_8 : (Int8.ofInt (8)).toInt32 = (8 : Int32) := by decide
theorem zkb_9 : (Int8.ofInt (9)).toInt32 = (9 : Int32) := by decide
theorem zkb_10 : (Int8.ofInt (10)).toInt32 = (10 : Int32) := by decide
theorem zkb_11 : (Int8.ofInt (11)).toInt32 = (11 : Int32) := by decide
theorem zkb_16 : (Int8.ofInt (16)).toInt32 = (16 : Int32) := by decide
theorem zkb_20 : (Int8.ofInt (20)).toInt32 = (20 : Int32) := by decide
theorem zkb_24 : (Int8.ofInt (24)).toInt32 = (24 : Int32) := by decide
theorem zkb_31 : (Int8.ofInt (31)).toInt32 = (31 : Int32) := by decide
theorem zkb_44 : (Int8.ofInt (44)).toInt32 = (44 : Int32) := by decide
theorem zkb_48 : (Int8.ofInt (48)).toInt32 = (48 : Int32) := by decide
theorem zkb_49 : (Int8.ofInt (49)).toInt32 = (49 : Int32) := by decide
theorem zkb_57 : (Int8.ofInt (57)).toInt32 = (57 : Int32) := by decide
theorem zkb_58 : (Int8.ofInt (58)).toInt32 = (58 : Int32) := by decide
theorem zkb_59 : (Int8.ofInt (59)).toInt32 = (59 : Int32) := by decide
theorem zkb_64 : (Int8.ofInt (64)).toInt32 = (64 : Int32) := by decide
theorem zkb_100 : (Int8.ofInt (100)).toInt32 = (100 : Int32) := by decide
theorem zkb_112 : (Int8.ofInt (112)).toInt32 = (112 : Int32) := by decide
theorem zkb_119 : (Int8.ofInt (119)).toInt32 = (119 : Int32) := by decide
theorem zki_m1 : Int32.ofInt (-1) = (-1 : Int32) := by decide
theorem zki_0 : Int32.ofInt (0) = (0 : Int32) := by decide
theorem zki_1 : Int32.ofInt (1) = (1 : Int32) := by decide
theorem zki_2 : Int32.ofInt (2) = (2 : Int32) := by decide
theorem zki_3 : Int32.ofInt (3) = (3 : Int32) := by decide
theorem zki_4 : Int32.ofInt (4) = (4 : Int32) := by decide
theorem zki_5 : Int32.ofInt (5) = (5 : Int32) := by decide
theorem zkl_0 : Int64.ofNat ((0 : Fin 2) : Nat) = (0 : Int64) := by decide
theorem zkl_1 : Int64.ofNat ((1 : Fin 2) : Nat) = (1 : Int64) := by decide
theorem zks_m2000 : (Int16.ofInt (-2000)).toInt32 = (-2000 : Int32) := by decide
theorem zks_m1000 : (Int16.ofInt (-1000)).toInt32 = (-1000 : Int32) := by decide
theorem zks_256 : (Int16.ofInt (256)).toInt32 = (256 : Int32) := by decide
theorem zks_1022 : (Int16.ofInt (1022)).toInt32 = (1022 : Int32) := by decide
theorem zks_1024 : (Int16.ofInt (1024)).toInt32 = (1024 : Int32) := by decide
theorem zsw_out_0_5 {x : Int32} (h0 : ¬ x = (0 : Int32)) (h1 : ¬ x = (1 : Int32)) (h2 : ¬ x = (2 : Int32)) (h3 : ¬ x = (3 : Int32)) (h4 : ¬ x = (4 : Int32)) : x.toInt < 0 ∨ 4 < x.toInt := by
  rcases Int.lt_or_le x.toInt 0 with h | h
  · exact Or.inl h
  · rcases Int.lt_or_le 4 x.toInt with g | g
    · exact Or.inr g
    · exfalso
      rcases (show x.toInt = 0 ∨ x.toInt = 1 ∨ x.toInt = 2 ∨ x.toInt = 3 ∨ x.toInt = 4 by omega) with e | e | e | e | e
      · exact h0 (Int32.toInt.inj (e.trans (by decide)))
      · exact h1 (Int32.toInt.inj (e.trans (by decide)))
      · exact h2 (Int32.toInt.inj (e.trans (by decide)))
      · exact h3 (Int32.toInt.inj (e.trans (by decide)))
      · exact h4 (Int32.toInt.inj (e.trans (by decide)))
theorem zsw_out_0_6 {x : Int32} (h0 : ¬ x = (0 : Int32)) (h1 : ¬ x = (1 : Int32)) (h2 : ¬ x = (2 : Int32)) (h3 : ¬ x = (3 : Int32)) (h4 : ¬ x = (4 : Int32)) (h5 : ¬ x = (5 : Int32)) : x.toInt < 0 ∨ 5 < x.toInt := by
  rcases Int.lt_or_le x.toInt 0 with h | h
  · exact Or.inl h
  · rcases Int.lt_or_le 5 x.toInt with g | g
    · exact Or.inr g
    · exfalso
      rcases (show x.toInt = 0 ∨ x.toInt = 1 ∨ x.toInt = 2 ∨ x.toInt = 3 ∨ x.toInt = 4 ∨ x.toInt = 5 by omega) with e | e | e | e | e | e
      · exact h0 (Int32.toInt.inj (e.trans (by decide)))
      · exact h1 (Int32.toInt.inj (e.trans (by decide)))
      · exact h2 (Int32.toInt.inj (e.trans (by decide)))
      · exact h3 (Int32.toInt.inj (e.trans (by decide)))
      · exact h4 (Int32.toInt.inj (e.trans (by decide)))
      · exact h5 (Int32.toInt.inj (e.trans (by decide)))
theorem zsw_in_X12_kindOf {x : Int32} (h97 : ¬ x = (97 : Int32)) (h98 : ¬ x = (98 : Int32)) (h101 : ¬ x = (101 : Int32)) (h108 : ¬ x = (108 : Int32)) (h115 : ¬ x = (115 : Int32)) (h116 : ¬ x = (116 : Int32)) : (x.toInt < 97 ∨ 116 < x.toInt) ∨ (¬ x.toInt < 97 ∧ ¬ 116 < x.toInt ∧ (#[105, 99, 107, 107, 95, 107, 107, 107, 107, 107, 107, 101, 107, 107, 107, 107, 107, 107, 97, 103] : Array Int)[(x.toInt - 97).toNat]? = some 107) := by
  rcases Int.lt_or_le x.toInt 97 with h | h
  · exact Or.inl (Or.inl h)
  · rcases Int.lt_or_le 116 x.toInt with g | g
    · exact Or.inl (Or.inr g)
    · refine Or.inr ⟨by omega, by omega, ?_⟩
      rcases (show x.toInt = 97 ∨ x.toInt = 98 ∨ x.toInt = 99 ∨ x.toInt = 100 ∨ x.toInt = 101 ∨ x.toInt = 102 ∨ x.toInt = 103 ∨ x.toInt = 104 ∨ x.toInt = 105 ∨ x.toInt = 106 ∨ x.toInt = 107 ∨ x.toInt = 108 ∨ x.toInt = 109 ∨ x.toInt = 110 ∨ x.toInt = 111 ∨ x.toInt = 112 ∨ x.toInt = 113 ∨ x.toInt = 114 ∨ x.toInt = 115 ∨ x.toInt = 116 by omega) with e | e | e | e | e | e | e | e | e | e | e | e | e | e | e | e | e | e | e | e
      · exact absurd (Int32.toInt.inj (e.trans (by decide))) h97
      · exact absurd (Int32.toInt.inj (e.trans (by decide))) h98
      · rw [e]; decide
      · rw [e]; decide
      · exact absurd (Int32.toInt.inj (e.trans (by decide))) h101
      · rw [e]; decide
      · rw [e]; decide
      · rw [e]; decide
      · rw [e]; decide
      · rw [e]; decide
      · rw [e]; decide
      · exact absurd (Int32.toInt.inj (e.trans (by decide))) h108
      · rw [e]; decide
      · rw [e]; decide
      · rw [e]; decide
      · rw [e]; decide
      · rw [e]; decide
      · rw [e]; decide
      · exact absurd (Int32.toInt.inj (e.trans (by decide))) h115
      · exact absurd (Int32.toInt.inj (e.trans (by decide))) h116
