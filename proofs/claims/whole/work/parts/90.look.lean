theorem look_one : (1 : Nat) = 1 := rfl
