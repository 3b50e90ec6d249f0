/-! ===== a bit of a small number, both ways ===== -/
theorem ybit : ∀ v : Nat, v < 10 → ∀ w : Nat, w < 1024 → (if zand w (zshl 1 v) = 0 then (0 : Int) else 1) = zand (zshr w v) 1 := by decide +kernel
