/-- one place of a throw for each class of exceptions -/
def zE0 : List (String × String × Nat) := []
