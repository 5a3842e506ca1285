/-! PURE PART: what a box covers -/
def cvS (l t r b x y : Int) : Prop := l < x ∧ x < r ∧ t < y ∧ y < b
theorem covers_ok {m : Me} {o : Nat} {l t r b x y : Int} (h0 : m.1 o 0 = iI l) (h1 : m.1 o 1 = iI t) (h2 : m.1 o 2 = iI r) (h3 : m.1 o 3 = iI b) (q1 : -2000 ≤ l ∧ l ≤ 70000) (q2 : -2000 ≤ t ∧ t ≤ 70000) (q3 : -2000 ≤ r ∧ r ≤ 70000) (q4 : -2000 ≤ b ∧ b ≤ 70000) (rx : -2000 ≤ x ∧ x ≤ 70000) (ry : -2000 ≤ y ∧ y ≤ 70000) :
    IsB (f_Box_covers o (iI x) (iI y) m) (cvS l t r b x y) := by
  unfold f_Box_covers cvS
  rw [h0, h1, h2, h3]
  simp only [b_le (x := x) (y := l) (by omega) (by omega) (by omega) (by omega), b_le (x := r) (y := x) (by omega) (by omega) (by omega) (by omega), b_le (x := y) (y := t) (by omega) (by omega) (by omega) (by omega), b_le (x := b) (y := y) (by omega) (by omega) (by omega) (by omega)]
  unfold IsB
  by_cases p : l < x ∧ x < r ∧ t < y ∧ y < b
  · left
    refine ⟨p, ?_⟩
    repeat' split
    all_goals first | rfl | (exfalso; omega)
  · right
    refine ⟨p, ?_⟩
    repeat' split
    all_goals first | rfl | (exfalso; omega)
