theorem sgp {d a : Int} (h : 0 < d) : (0 < d * a ↔ 0 < a) ∧ (d * a < 0 ↔ a < 0) := by
  rcases Int.lt_trichotomy a 0 with q | q | q
  · have : d * a < 0 := Int.mul_neg_of_pos_of_neg h q
    omega
  · subst q; simp
  · have : 0 < d * a := Int.mul_pos h q
    omega
theorem sgn {d a : Int} (h : d < 0) : (0 < d * a ↔ a < 0) ∧ (d * a < 0 ↔ 0 < a) := by
  rcases Int.lt_trichotomy a 0 with q | q | q
  · have : 0 < d * a := Int.mul_pos_of_neg_of_neg h q
    omega
  · subst q; simp
  · have : d * a < 0 := Int.mul_neg_of_neg_of_pos h q
    omega
theorem cross_iff {fx fy tx ty l t r b : Int} (hl : l < r) (ht : t < b) (hne : tx ≠ fx ∨ ty ≠ fy) : crossI fx fy (tx - fx) (ty - fy) l t r b ↔ enterI fx fy tx ty l t r b := by
  obtain ⟨dx, rfl⟩ : ∃ d, tx = fx + d := ⟨tx - fx, by omega⟩
  obtain ⟨dy, rfl⟩ : ∃ d, ty = fy + d := ⟨ty - fy, by omega⟩
  obtain ⟨p, rfl⟩ : ∃ d, l = fx + d := ⟨l - fx, by omega⟩
  obtain ⟨q, rfl⟩ : ∃ d, r = fx + d := ⟨r - fx, by omega⟩
  obtain ⟨u, rfl⟩ : ∃ d, t = fy + d := ⟨t - fy, by omega⟩
  obtain ⟨v, rfl⟩ : ∃ d, b = fy + d := ⟨b - fy, by omega⟩
  have c1 : ∀ x y : Int, x + y - x = y := fun x y => by omega
  have c2 : ∀ x y : Int, x - (x + y) = -y := fun x y => by omega
  unfold crossI enterI cuF cuT sdI
  simp only [c1, c2]
  have hpq : p < q := by omega
  have huv : u < v := by omega
  have hz : dx ≠ 0 ∨ dy ≠ 0 := by omega
  clear hne
  rcases Int.lt_trichotomy dx 0 with hx | hx | hx <;> rcases Int.lt_trichotomy dy 0 with hy | hy | hy
  · simp only [if_neg (show ¬ dx = 0 by omega), if_neg (show ¬ dx > 0 by omega), if_neg (show ¬ dy = 0 by omega), if_neg (show ¬ dy > 0 by omega)]
    rw [pair4 (by omega) (by omega) (by omega) (by omega)]
    have m1 : dx * v < dx * u := Int.mul_lt_mul_of_neg_left huv hx
    have m2 : dy * q < dy * p := Int.mul_lt_mul_of_neg_left hpq hy
    have m3 : dx * q < dx * p := Int.mul_lt_mul_of_neg_left hpq hx
    have m4 : dy * v < dy * u := Int.mul_lt_mul_of_neg_left huv hy
    simp only [Int.neg_mul, Int.mul_neg, Int.mul_comm p dx, Int.mul_comm q dx, Int.mul_comm p dy, Int.mul_comm q dy, Int.mul_comm u dx, Int.mul_comm v dx, Int.mul_comm u dy, Int.mul_comm v dy]
    omega
  · subst hy
    simp only [if_pos trivial, if_neg (show ¬ dx = 0 by omega), if_neg (show ¬ dx > 0 by omega), ite_true, true_implies, forall_const, Int.zero_mul]
    rw [pair2 (by omega) (by omega)]
    have m2 : dx * q < dx * p := Int.mul_lt_mul_of_neg_left hpq hx
    have m4 : dx * v < dx * u := Int.mul_lt_mul_of_neg_left huv hx
    have su : (0 < dx * u ↔ u < 0) ∧ (dx * u < 0 ↔ 0 < u) := sgn hx
    have sv : (0 < dx * v ↔ v < 0) ∧ (dx * v < 0 ↔ 0 < v) := sgn hx
    simp only [Int.neg_mul, Int.mul_neg, Int.mul_comm p dx, Int.mul_comm q dx]
    obtain ⟨su1, su2⟩ := su
    obtain ⟨sv1, sv2⟩ := sv
    omega
  · simp only [if_neg (show ¬ dx = 0 by omega), if_neg (show ¬ dx > 0 by omega), if_neg (show ¬ dy = 0 by omega), if_pos (show dy > 0 by omega)]
    rw [pair4 (by omega) (by omega) (by omega) (by omega)]
    have m1 : dx * v < dx * u := Int.mul_lt_mul_of_neg_left huv hx
    have m2 : dy * p < dy * q := Int.mul_lt_mul_of_pos_left hpq hy
    have m3 : dx * q < dx * p := Int.mul_lt_mul_of_neg_left hpq hx
    have m4 : dy * u < dy * v := Int.mul_lt_mul_of_pos_left huv hy
    simp only [Int.neg_mul, Int.mul_neg, Int.mul_comm p dx, Int.mul_comm q dx, Int.mul_comm p dy, Int.mul_comm q dy, Int.mul_comm u dx, Int.mul_comm v dx, Int.mul_comm u dy, Int.mul_comm v dy]
    omega
  · subst hx
    simp only [if_pos trivial, if_neg (show ¬ dy = 0 by omega), if_neg (show ¬ dy > 0 by omega), ite_true, true_implies, forall_const, Int.zero_mul]
    rw [pair2 (by omega) (by omega)]
    have m2 : dy * q < dy * p := Int.mul_lt_mul_of_neg_left hpq hy
    have m4 : dy * v < dy * u := Int.mul_lt_mul_of_neg_left huv hy
    have n0 : dy ≠ 0 := by omega
    have sp : (0 < dy * p ↔ p < 0) ∧ (dy * p < 0 ↔ 0 < p) := sgn hy
    have sq : (0 < dy * q ↔ q < 0) ∧ (dy * q < 0 ↔ 0 < q) := sgn hy
    simp only [Int.neg_mul, Int.mul_neg, Int.mul_comm u dy, Int.mul_comm v dy]
    obtain ⟨sp1, sp2⟩ := sp
    obtain ⟨sq1, sq2⟩ := sq
    omega
  · exfalso; omega
  · subst hx
    simp only [if_pos trivial, if_neg (show ¬ dy = 0 by omega), if_pos (show dy > 0 by omega), ite_true, true_implies, forall_const, Int.zero_mul]
    rw [pair2 (by omega) (by omega)]
    have m2 : dy * p < dy * q := Int.mul_lt_mul_of_pos_left hpq hy
    have m4 : dy * u < dy * v := Int.mul_lt_mul_of_pos_left huv hy
    have n0 : dy ≠ 0 := by omega
    have sp : (0 < dy * p ↔ 0 < p) ∧ (dy * p < 0 ↔ p < 0) := sgp hy
    have sq : (0 < dy * q ↔ 0 < q) ∧ (dy * q < 0 ↔ q < 0) := sgp hy
    simp only [Int.neg_mul, Int.mul_neg, Int.mul_comm u dy, Int.mul_comm v dy]
    obtain ⟨sp1, sp2⟩ := sp
    obtain ⟨sq1, sq2⟩ := sq
    omega
  · simp only [if_neg (show ¬ dx = 0 by omega), if_pos (show dx > 0 by omega), if_neg (show ¬ dy = 0 by omega), if_neg (show ¬ dy > 0 by omega)]
    rw [pair4 (by omega) (by omega) (by omega) (by omega)]
    have m1 : dx * u < dx * v := Int.mul_lt_mul_of_pos_left huv hx
    have m2 : dy * q < dy * p := Int.mul_lt_mul_of_neg_left hpq hy
    have m3 : dx * p < dx * q := Int.mul_lt_mul_of_pos_left hpq hx
    have m4 : dy * v < dy * u := Int.mul_lt_mul_of_neg_left huv hy
    simp only [Int.neg_mul, Int.mul_neg, Int.mul_comm p dx, Int.mul_comm q dx, Int.mul_comm p dy, Int.mul_comm q dy, Int.mul_comm u dx, Int.mul_comm v dx, Int.mul_comm u dy, Int.mul_comm v dy]
    omega
  · subst hy
    simp only [if_pos trivial, if_neg (show ¬ dx = 0 by omega), if_pos (show dx > 0 by omega), ite_true, true_implies, forall_const, Int.zero_mul]
    rw [pair2 (by omega) (by omega)]
    have m2 : dx * p < dx * q := Int.mul_lt_mul_of_pos_left hpq hx
    have m4 : dx * u < dx * v := Int.mul_lt_mul_of_pos_left huv hx
    have su : (0 < dx * u ↔ 0 < u) ∧ (dx * u < 0 ↔ u < 0) := sgp hx
    have sv : (0 < dx * v ↔ 0 < v) ∧ (dx * v < 0 ↔ v < 0) := sgp hx
    simp only [Int.neg_mul, Int.mul_neg, Int.mul_comm p dx, Int.mul_comm q dx]
    obtain ⟨su1, su2⟩ := su
    obtain ⟨sv1, sv2⟩ := sv
    omega
  · simp only [if_neg (show ¬ dx = 0 by omega), if_pos (show dx > 0 by omega), if_neg (show ¬ dy = 0 by omega), if_pos (show dy > 0 by omega)]
    rw [pair4 (by omega) (by omega) (by omega) (by omega)]
    have m1 : dx * u < dx * v := Int.mul_lt_mul_of_pos_left huv hx
    have m2 : dy * p < dy * q := Int.mul_lt_mul_of_pos_left hpq hy
    have m3 : dx * p < dx * q := Int.mul_lt_mul_of_pos_left hpq hx
    have m4 : dy * u < dy * v := Int.mul_lt_mul_of_pos_left huv hy
    simp only [Int.neg_mul, Int.mul_neg, Int.mul_comm p dx, Int.mul_comm q dx, Int.mul_comm p dy, Int.mul_comm q dy, Int.mul_comm u dx, Int.mul_comm v dx, Int.mul_comm u dy, Int.mul_comm v dy]
    omega
