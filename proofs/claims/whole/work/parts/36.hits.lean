/-! PURE PART: the class's test of two boxes -/
def IsB (x : Option Int32) (P : Prop) : Prop := (P ∧ x = some 1) ∨ (¬ P ∧ x = some 0)
theorem IsB.cg {x : Option Int32} {P Q : Prop} (h : IsB x P) (e : P ↔ Q) : IsB x Q := by
  rcases h with ⟨a, b⟩ | ⟨a, b⟩
  · exact Or.inl ⟨e.mp a, b⟩
  · exact Or.inr ⟨fun q => a (e.mpr q), b⟩
/-- the numbers of a box, and their bounds -/
def Bx (m : Me) (o : Nat) (l t r b fx fy tx ty : Int) : Prop := m.1 o 0 = iI l ∧ m.1 o 1 = iI t ∧ m.1 o 2 = iI r ∧ m.1 o 3 = iI b ∧ m.1 o 5 = iI fx ∧ m.1 o 6 = iI fy ∧ m.1 o 7 = iI tx ∧ m.1 o 8 = iI ty
def Rg (l t r b fx fy tx ty : Int) : Prop := (-2000 ≤ l ∧ l ≤ 70000) ∧ (-2000 ≤ t ∧ t ≤ 70000) ∧ (-2000 ≤ r ∧ r ≤ 70000) ∧ (-2000 ≤ b ∧ b ≤ 70000) ∧ (-4000 ≤ fx ∧ fx ≤ 140000) ∧ (-4000 ≤ fy ∧ fy ≤ 140000) ∧ (-4000 ≤ tx ∧ tx ≤ 140000) ∧ (-4000 ≤ ty ∧ ty ≤ 140000) ∧ (-1500 ≤ tx - fx ∧ tx - fx ≤ 1500) ∧ (-1500 ≤ ty - fy ∧ ty - fy ≤ 1500)
theorem mul_rg {x y A B : Int} (h1 : -A ≤ x) (h2 : x ≤ A) (h3 : -B ≤ y) (h4 : y ≤ B) (hA : 0 ≤ A) (hB : 0 ≤ B) : -(A * B) ≤ x * y ∧ x * y ≤ A * B := by
  have k1 : x.natAbs ≤ A.natAbs := by omega
  have k2 : y.natAbs ≤ B.natAbs := by omega
  have k3 : (x * y).natAbs ≤ (A * B).natAbs := by rw [Int.natAbs_mul, Int.natAbs_mul]; exact Nat.mul_le_mul k1 k2
  have k4 : 0 ≤ A * B := Int.mul_nonneg hA hB
  omega
theorem sd_rg {dx dy fx fy x y : Int} (h1 : -1500 ≤ dx) (h2 : dx ≤ 1500) (h3 : -1500 ≤ dy) (h4 : dy ≤ 1500) (h5 : -150000 ≤ x - fx) (h6 : x - fx ≤ 150000) (h7 : -150000 ≤ y - fy) (h8 : y - fy ≤ 150000) : -450000000 ≤ sdI dx dy fx fy x y ∧ sdI dx dy fx fy x y ≤ 450000000 := by
  unfold sdI
  have a := mul_rg (A := 1500) (B := 150000) h1 h2 h7 h8 (by decide) (by decide)
  have b := mul_rg (A := 1500) (B := 150000) h3 h4 h5 h6 (by decide) (by decide)
  omega
theorem side_ok {m : Me} {o : Nat} {l t r b fx fy tx ty : Int} (h : Bx m o l t r b fx fy tx ty) (x y : Int) : f_Box_sideOf o (iI x) (iI y) m = some (iI (sdI (tx - fx) (ty - fy) fx fy x y)) := by
  obtain ⟨-, -, -, -, h5, h6, h7, h8⟩ := h
  unfold f_Box_sideOf sdI
  rw [h5, h6, h7, h8]
  simp only [iI_sub, iI_mul]
theorem mx_i {a b : Int} (h1 : -2000000000 ≤ a) (h2 : a ≤ 2000000000) (h3 : -2000000000 ≤ b) (h4 : b ≤ 2000000000) : mx (iI a) (iI b) = iI (if a < b then b else a) := by
  unfold mx
  have e := iI_lt (a := a) (b := b) (by omega) (by omega) (by omega) (by omega)
  by_cases h : a < b
  · rw [if_pos h, if_pos (e.mpr h)]
  · rw [if_neg h, if_neg (fun q => h (e.mp q))]
theorem mn_i {a b : Int} (h1 : -2000000000 ≤ a) (h2 : a ≤ 2000000000) (h3 : -2000000000 ≤ b) (h4 : b ≤ 2000000000) : mn (iI a) (iI b) = iI (if b < a then b else a) := by
  unfold mn
  have e := iI_lt (a := b) (b := a) (by omega) (by omega) (by omega) (by omega)
  by_cases h : b < a
  · rw [if_pos h, if_pos (e.mpr h)]
  · rw [if_neg h, if_neg (fun q => h (e.mp q))]
theorem b_lt {x y : Int} (h1 : -2000000000 ≤ x) (h2 : x ≤ 2000000000) (h3 : -2000000000 ≤ y) (h4 : y ≤ 2000000000) : iI x < iI y ↔ x < y := iI_lt (by omega) (by omega) (by omega) (by omega)
theorem b_le {x y : Int} (h1 : -2000000000 ≤ x) (h2 : x ≤ 2000000000) (h3 : -2000000000 ≤ y) (h4 : y ≤ 2000000000) : iI x ≤ iI y ↔ x ≤ y := iI_le (by omega) (by omega) (by omega) (by omega)
theorem b_lt0 {x : Int} (h1 : -2000000000 ≤ x) (h2 : x ≤ 2000000000) : (iI x < 0 ↔ x < 0) ∧ (0 < iI x ↔ 0 < x) ∧ (iI x ≤ 0 ↔ x ≤ 0) ∧ (0 ≤ iI x ↔ 0 ≤ x) := by
  rw [show (0 : Int32) = iI 0 from rfl]
  exact ⟨b_lt h1 h2 (by decide) (by decide), b_lt (by decide) (by decide) h1 h2, b_le h1 h2 (by decide) (by decide), b_le (by decide) (by decide) h1 h2⟩
theorem i2_mul (x : Int) : (2 : Int32) * iI x = iI (2 * x) := by rw [← iI_mul]; rfl
theorem signs4 {s1 s2 s3 s4 : Int} (h1 : -2000000000 ≤ s1 ∧ s1 ≤ 2000000000) (h2 : -2000000000 ≤ s2 ∧ s2 ≤ 2000000000) (h3 : -2000000000 ≤ s3 ∧ s3 ≤ 2000000000) (h4 : -2000000000 ≤ s4 ∧ s4 ≤ 2000000000) :
    IsB (bd (fun (v9 : Int32) => bd (fun (v10 : Int32) => if v9 = 0 then some (0 : Int32) else if v10 = 0 then some (0 : Int32) else some (1 : Int32)) (fun k184_ => bd ((k184_ (1 : Int32))) (fun k179_ => if 0 < iI s1 then (k179_) else if 0 < iI s2 then (k179_) else if 0 < iI s3 then (k179_) else if iI s4 ≤ 0 then (k184_ (0 : Int32)) else (k179_)))) (fun k157_ => bd ((k157_ (1 : Int32))) (fun k152_ => if iI s1 < 0 then (k152_) else if iI s2 < 0 then (k152_) else if iI s3 < 0 then (k152_) else if 0 ≤ iI s4 then (k157_ (0 : Int32)) else (k152_))))
      ((s1 < 0 ∨ s2 < 0 ∨ s3 < 0 ∨ s4 < 0) ∧ (0 < s1 ∨ 0 < s2 ∨ 0 < s3 ∨ 0 < s4)) := by
  obtain ⟨a1, a2, -, -⟩ := b_lt0 h1.1 h1.2
  obtain ⟨b1, b2, -, -⟩ := b_lt0 h2.1 h2.2
  obtain ⟨c1, c2, -, -⟩ := b_lt0 h3.1 h3.2
  obtain ⟨-, -, d1, d2⟩ := b_lt0 h4.1 h4.2
  simp only [bd, a1, a2, b1, b2, c1, c2, d1, d2]
  unfold IsB
  have z : ¬ (1 : Int32) = 0 := by decide
  simp only [z, if_true, if_false]
  by_cases p : s1 < 0 ∨ s2 < 0 ∨ s3 < 0 ∨ s4 < 0
  · by_cases n : 0 < s1 ∨ 0 < s2 ∨ 0 < s3 ∨ 0 < s4
    · left
      refine ⟨⟨p, n⟩, ?_⟩
      repeat' split
      all_goals first | rfl | (exfalso; omega)
    · right
      refine ⟨fun q => n q.2, ?_⟩
      repeat' split
      all_goals first | rfl | (exfalso; omega)
  · right
    refine ⟨fun q => p q.1, ?_⟩
    repeat' split
    all_goals first | rfl | (exfalso; omega)
theorem enters_ok {m : Me} {o o2 : Nat} {l t r b fx fy tx ty l2 t2 r2 b2 gx gy hx hy : Int} (h : Bx m o l t r b fx fy tx ty) (g : Bx m o2 l2 t2 r2 b2 gx gy hx hy) (R1 : Rg l t r b fx fy tx ty) (R2 : Rg l2 t2 r2 b2 gx gy hx hy) :
    IsB (f_Box_lineEnters o o2 m) (enterI fx fy tx ty (2 * l2) (2 * t2) (2 * r2) (2 * b2)) := by
  obtain ⟨-, -, -, -, h5, h6, h7, h8⟩ := id h
  obtain ⟨g1, g2, g3, g4, -⟩ := g
  obtain ⟨-, -, -, -, q5, q6, q7, q8, q9, q10⟩ := R1
  obtain ⟨w1, w2, w3, w4, -⟩ := R2
  unfold f_Box_lineEnters
  rw [g1, g2, g3, g4, h5, h6, h7, h8, mx_i (by omega) (by omega) (by omega) (by omega), mn_i (by omega) (by omega) (by omega) (by omega), mx_i (by omega) (by omega) (by omega) (by omega), mn_i (by omega) (by omega) (by omega) (by omega)]
  simp only [i2_mul]
  have s1 := sd_rg (dx := tx - fx) (dy := ty - fy) (fx := fx) (fy := fy) (x := 2 * l2) (y := 2 * t2) q9.1 q9.2 q10.1 q10.2 (by omega) (by omega) (by omega) (by omega)
  have s2 := sd_rg (dx := tx - fx) (dy := ty - fy) (fx := fx) (fy := fy) (x := 2 * r2) (y := 2 * t2) q9.1 q9.2 q10.1 q10.2 (by omega) (by omega) (by omega) (by omega)
  have s3 := sd_rg (dx := tx - fx) (dy := ty - fy) (fx := fx) (fy := fy) (x := 2 * r2) (y := 2 * b2) q9.1 q9.2 q10.1 q10.2 (by omega) (by omega) (by omega) (by omega)
  have s4 := sd_rg (dx := tx - fx) (dy := ty - fy) (fx := fx) (fy := fy) (x := 2 * l2) (y := 2 * b2) q9.1 q9.2 q10.1 q10.2 (by omega) (by omega) (by omega) (by omega)
  rw [bd, bd, bd, bd]
  rw [side_ok h, side_ok h, side_ok h, side_ok h]
  simp only [cP]
  have S4 := signs4 (s1 := sdI (tx - fx) (ty - fy) fx fy (2 * l2) (2 * t2)) (s2 := sdI (tx - fx) (ty - fy) fx fy (2 * r2) (2 * t2)) (s3 := sdI (tx - fx) (ty - fy) fx fy (2 * r2) (2 * b2)) (s4 := sdI (tx - fx) (ty - fy) fx fy (2 * l2) (2 * b2)) (by omega) (by omega) (by omega) (by omega)
  unfold enterI
  by_cases c1 : (if fx < tx then tx else fx) ≤ 2 * l2
  · rw [if_pos ((b_le (by split <;> omega) (by split <;> omega) (by omega) (by omega)).mpr c1)]
    refine Or.inr ⟨fun q => ?_, rfl⟩
    have := q.1
    split at c1 <;> omega
  · rw [if_neg (fun q => c1 ((b_le (by split <;> omega) (by split <;> omega) (by omega) (by omega)).mp q))]
    by_cases c2 : (if tx < fx then tx else fx) < 2 * r2
    · rw [if_pos ((b_lt (by split <;> omega) (by split <;> omega) (by omega) (by omega)).mpr c2)]
      by_cases c3 : (if fy < ty then ty else fy) ≤ 2 * t2
      · rw [if_pos ((b_le (by split <;> omega) (by split <;> omega) (by omega) (by omega)).mpr c3)]
        refine Or.inr ⟨fun q => ?_, rfl⟩
        have := q.2.1
        split at c3 <;> omega
      · rw [if_neg (fun q => c3 ((b_le (by split <;> omega) (by split <;> omega) (by omega) (by omega)).mp q))]
        by_cases c4 : (if ty < fy then ty else fy) < 2 * b2
        · rw [if_pos ((b_lt (by split <;> omega) (by split <;> omega) (by omega) (by omega)).mpr c4)]
          refine S4.cg ?_
          have k1 : ¬ ((fx ≤ 2 * l2 ∧ tx ≤ 2 * l2) ∨ (2 * r2 ≤ fx ∧ 2 * r2 ≤ tx)) := by split at c1 <;> split at c2 <;> omega
          have k2 : ¬ ((fy ≤ 2 * t2 ∧ ty ≤ 2 * t2) ∨ (2 * b2 ≤ fy ∧ 2 * b2 ≤ ty)) := by split at c3 <;> split at c4 <;> omega
          exact ⟨fun q => ⟨k1, k2, q.1, q.2⟩, fun q => ⟨q.2.2.1, q.2.2.2⟩⟩
        · rw [if_neg (fun q => c4 ((b_lt (by split <;> omega) (by split <;> omega) (by omega) (by omega)).mp q))]
          refine Or.inr ⟨fun q => ?_, rfl⟩
          have := q.2.1
          split at c4 <;> omega
    · rw [if_neg (fun q => c2 ((b_lt (by split <;> omega) (by split <;> omega) (by omega) (by omega)).mp q))]
      refine Or.inr ⟨fun q => ?_, rfl⟩
      have := q.1
      split at c2 <;> omega
