/-- one place of a throw for each class of exceptions -/
def zE0 : List (String × String × Nat) := [("java/lang/IllegalArgumentException", "HeapwrightLab", 60), ("java/lang/IllegalStateException", "HeapwrightLab", 95), ("java/lang/IndexOutOfBoundsException", "HeapwrightLab", 154)]
