/-! a step's row, under a name of its own -/
def sRW (t : ST) : Option Nat := t.1
