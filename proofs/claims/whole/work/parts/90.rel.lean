/-! THE RELATION (open) -/
def F9 : Nat := 70000
def Rel9 (_ _ : St) : Prop := True
theorem rel_0 : Rel9 S0N S0M := trivial
theorem rel_ok : RelOK F9 Rel9 := sorry
