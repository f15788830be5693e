def Rel (c m : vMH) : Prop := c = c ∧ m = m
theorem rel_ops : Ops Rel := sorry
theorem rel_0 : Rel mhC0 mhM0 := sorry
