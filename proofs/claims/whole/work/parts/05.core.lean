theorem xx_probe : (1 : Nat) = 1 := rfl
