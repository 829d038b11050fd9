theorem i_X8_isField {a : Int32} {σ : kS} : Run SX jX8_isField [.ref 0, .int a] σ (some (.int (bI (wn a (σ.1 3 1))))) σ := t_X8_isField ⟨rfl, rfl⟩
theorem i_X8_isSinger {a : Int32} {σ : kS} : Run SX jX8_isSinger [.ref 0, .int a] σ (some (.int (bI (wn a (σ.1 3 2))))) σ := t_X8_isSinger ⟨rfl, rfl⟩
theorem i_X9_isField {a : Int32} {σ : kS} : Run SM jX9_isField [.ref 0, .int a] σ (some (.int (bI (iv a 0 ((σ.1 5 2) - 1))))) σ := t_X9_isField ⟨rfl, rfl⟩
theorem i_X9_isOne {a : Int32} {σ : kS} : Run SM jX9_isOne [.ref 0, .int a] σ (some (.int (bI (iv a 0 ((σ.1 5 3) - 1))))) σ := t_X9_isOne ⟨rfl, rfl⟩
theorem i_X9_isSheet {a : Int32} {σ : kS} : Run SM jX9_isSheet [.int a] σ (some (.int (bI (iv a 0 3)))) σ := t_X9_isSheet ⟨rfl, rfl⟩
