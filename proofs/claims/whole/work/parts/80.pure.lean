def pN : Nat := 2 ^ 60
def pInv (a b : xT) : Prop := True
theorem pure_all : xAll pN pInv := sorry
theorem pure_start : pInv a0 b1 := trivial
