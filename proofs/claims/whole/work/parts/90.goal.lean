theorem c_best {m : Me} (hI' : Inv m) : PairI (f_NC_best m) f_Mo_best := by
  sorry
theorem law_true : ∀ (L : Nat) (xs : Nat → Int32), L ≤ 3072 → lawF L xs mZ = some 1 := law_of_best (fun _ h => c_best h)
