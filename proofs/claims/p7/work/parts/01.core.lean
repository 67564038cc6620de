theorem tst_a : (1 : Nat) + 1 = 2 := rfl
