/-! what the landed class has of its own: private members that a nest mate uses, static rows -/
def k_nwM : List (String × Nat × MethodName × String) := [(RX6, 98, yX8_within, RX8), (RX1, 39, yX8_has, RX8), (RX5, 49, yX8_power, RX8)]
def k_nwF : List (String × Nat × String × String × String × String) := [(RX1, 80, RX8, "EFFORT", "[I", RX8)]
def k_tIS : Nat → Int32 := fun i => ([1, 3, 7, 11, 17, 49] : List Int32).getD i 0
def k_tEF : Nat → Int32 := fun i => ([0, 2, 3, 2, 1, 0] : List Int32).getD i 0
def k_sts : List (Nat × String × String × String × Nat × (Nat → Int32)) := [(1000, RX8, "IS", "[I", 6, k_tIS), (1001, RX8, "EFFORT", "[I", 6, k_tEF)]
def k_ty (cA : Nat → ClassId) : List (ClassId × FieldType) := [(cA 1, .int), (cA 2, .long), (cA 3, .boolean), (cA 4, .object RX7), (cA 5, .object RX4)]
