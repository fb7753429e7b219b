theorem zkb_m9 : (Int8.ofInt (-9)).toInt32 = (-9 : Int32) := by decide
theorem zkb_m6 : (Int8.ofInt (-6)).toInt32 = (-6 : Int32) := by decide
theorem zkb_m4 : (Int8.ofInt (-4)).toInt32 = (-4 : Int32) := by decide
theorem zkb_m3 : (Int8.ofInt (-3)).toInt32 = (-3 : Int32) := by decide
theorem zkb_m2 : (Int8.ofInt (-2)).toInt32 = (-2 : Int32) := by decide
theorem zkb_6 : (Int8.ofInt (6)).toInt32 = (6 : Int32) := by decide
theorem zkb_8 : (Int8.ofInt (8)).toInt32 = (8 : Int32) := by decide
theorem zkb_9 : (Int8.ofInt (9)).toInt32 = (9 : Int32) := by decide
theorem zkb_10 : (Int8.ofInt (10)).toInt32 = (10 : Int32) := by decide
theorem zkb_11 : (Int8.ofInt (11)).toInt32 = (11 : Int32) := by decide
theorem zkb_16 : (Int8.ofInt (16)).toInt32 = (16 : Int32) := by decide
theorem zkb_20 : (Int8.ofInt (20)).toInt32 = (20 : Int32) := by decide
theorem zkb_24 : (Int8.ofInt (24)).toInt32 = (24 : Int32) := by decide
theorem zkb_31 : (Int8.ofInt (31)).toInt32 = (31 : Int32) := by decide
theorem zkb_44 : (Int8.ofInt (44)).toInt32 = (44 : Int32) := by decide
theorem zkb_48 : (Int8.ofInt (48)).toInt32 = (48 : Int32) := by decide
theorem zkb_49 : (Int8.ofInt (49)).toInt32 = (49 : Int32) := by decide
theorem zkb_57 : (Int8.ofInt (57)).toInt32 = (57 : Int32) := by decide
theorem zkb_59 : (Int8.ofInt (59)).toInt32 = (59 : Int32) := by decide
theorem zkb_64 : (Int8.ofInt (64)).toInt32 = (64 : Int32) := by decide
theorem zkb_100 : (Int8.ofInt (100)).toInt32 = (100 : Int32) := by decide
theorem zkb_119 : (Int8.ofInt (119)).toInt32 = (119 : Int32) := by decide
theorem zki_m1 : Int32.ofInt (-1) = (-1 : Int32) := by decide
theorem zki_0 : Int32.ofInt (0) = (0 : Int32) := by decide
theorem zki_1 : Int32.ofInt (1) = (1 : Int32) := by decide
theorem zki_2 : Int32.ofInt (2) = (2 : Int32) := by decide
theorem zki_3 : Int32.ofInt (3) = (3 : Int32) := by decide
theorem zki_4 : Int32.ofInt (4) = (4 : Int32) := by decide
theorem zki_5 : Int32.ofInt (5) = (5 : Int32) := by decide
theorem zkl_0 : Int64.ofNat ((0 : Fin 2) : Nat) = (0 : Int64) := by decide
theorem zkl_1 : Int64.ofNat ((1 : Fin 2) : Nat) = (1 : Int64) := by decide
theorem zks_256 : (Int16.ofInt (256)).toInt32 = (256 : Int32) := by decide
theorem zks_1022 : (Int16.ofInt (1022)).toInt32 = (1022 : Int32) := by decide
theorem zks_1024 : (Int16.ofInt (1024)).toInt32 = (1024 : Int32) := by decide
theorem zsw_out_0_5 {x : Int32} (h0 : ¬ x = (0 : Int32)) (h1 : ¬ x = (1 : Int32)) (h2 : ¬ x = (2 : Int32)) (h3 : ¬ x = (3 : Int32)) (h4 : ¬ x = (4 : Int32)) : x.toInt < 0 ∨ 4 < x.toInt := by
  rcases Int.lt_or_le x.toInt 0 with h | h
  · exact Or.inl h
  · rcases Int.lt_or_le 4 x.toInt with g | g
    · exact Or.inr g
    · exfalso
      rcases (show x.toInt = 0 ∨ x.toInt = 1 ∨ x.toInt = 2 ∨ x.toInt = 3 ∨ x.toInt = 4 by omega) with e | e | e | e | e
      · exact h0 (Int32.toInt.inj (e.trans (by decide)))
      · exact h1 (Int32.toInt.inj (e.trans (by decide)))
      · exact h2 (Int32.toInt.inj (e.trans (by decide)))
      · exact h3 (Int32.toInt.inj (e.trans (by decide)))
      · exact h4 (Int32.toInt.inj (e.trans (by decide)))
theorem zsw_out_0_6 {x : Int32} (h0 : ¬ x = (0 : Int32)) (h1 : ¬ x = (1 : Int32)) (h2 : ¬ x = (2 : Int32)) (h3 : ¬ x = (3 : Int32)) (h4 : ¬ x = (4 : Int32)) (h5 : ¬ x = (5 : Int32)) : x.toInt < 0 ∨ 5 < x.toInt := by
  rcases Int.lt_or_le x.toInt 0 with h | h
  · exact Or.inl h
  · rcases Int.lt_or_le 5 x.toInt with g | g
    · exact Or.inr g
    · exfalso
      rcases (show x.toInt = 0 ∨ x.toInt = 1 ∨ x.toInt = 2 ∨ x.toInt = 3 ∨ x.toInt = 4 ∨ x.toInt = 5 by omega) with e | e | e | e | e | e
      · exact h0 (Int32.toInt.inj (e.trans (by decide)))
      · exact h1 (Int32.toInt.inj (e.trans (by decide)))
      · exact h2 (Int32.toInt.inj (e.trans (by decide)))
      · exact h3 (Int32.toInt.inj (e.trans (by decide)))
      · exact h4 (Int32.toInt.inj (e.trans (by decide)))
      · exact h5 (Int32.toInt.inj (e.trans (by decide)))
