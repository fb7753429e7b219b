theorem zkb_23 : (Int8.ofInt (23)).toInt32 = (23 : Int32) := by decide
theorem zkb_63 : (Int8.ofInt (63)).toInt32 = (63 : Int32) := by decide
theorem zkb_120 : (Int8.ofInt (120)).toInt32 = (120 : Int32) := by decide
theorem zks_m1023 : (Int16.ofInt (-1023)).toInt32 = (-1023 : Int32) := by decide
theorem zks_255 : (Int16.ofInt (255)).toInt32 = (255 : Int32) := by decide
