theorem law_true : ∀ (L : Nat) (xs : Nat → Int32), L ≤ 3072 → lawF L xs mZ = some 1 := law_of_best (fun _ h => c_best h)
