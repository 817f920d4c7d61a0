def FU : Nat := 5000
