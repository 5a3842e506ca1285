/-! PURE PART: the class's test of two lines, and of two boxes -/
def meetI (fx fy tx ty gx gy hx hy : Int) : Prop :=
  (¬ ((fx < gx ∧ fx < hx ∧ tx < gx ∧ tx < hx) ∨ (gx < fx ∧ gx < tx ∧ hx < fx ∧ hx < tx)) ∧ ¬ ((fy < gy ∧ fy < hy ∧ ty < gy ∧ ty < hy) ∨ (gy < fy ∧ gy < ty ∧ hy < fy ∧ hy < ty))) ∧
  ¬ sameS (sdI (tx - fx) (ty - fy) fx fy gx gy) (sdI (tx - fx) (ty - fy) fx fy hx hy) ∧ ¬ sameS (sdI (hx - gx) (hy - gy) gx gy fx fy) (sdI (hx - gx) (hy - gy) gx gy tx ty)
theorem signs22 {s1 s2 s3 s4 : Int} (h1 : -2000000000 ≤ s1 ∧ s1 ≤ 2000000000) (h2 : -2000000000 ≤ s2 ∧ s2 ≤ 2000000000) (h3 : -2000000000 ≤ s3 ∧ s3 ≤ 2000000000) (h4 : -2000000000 ≤ s4 ∧ s4 ≤ 2000000000) :
    IsB (bd (fun (v5 : Int32) => bd (fun (v6 : Int32) => if v5 = 0 then if v6 = 0 then some (1 : Int32) else some (0 : Int32) else some (0 : Int32)) (fun k206_ => bd ((k206_ (1 : Int32))) (fun k201_ => bd (bd ((k206_ (0 : Int32))) (fun k205_ => if iI s3 ≤ 0 then (k205_) else if iI s4 ≤ 0 then (k205_) else (k201_))) (fun k191_ => if 0 ≤ iI s3 then (k191_) else if iI s4 < 0 then (k201_) else (k191_))))) (fun k179_ => bd ((k179_ (1 : Int32))) (fun k174_ => bd (bd ((k179_ (0 : Int32))) (fun k178_ => if iI s1 ≤ 0 then (k178_) else if iI s2 ≤ 0 then (k178_) else (k174_))) (fun k166_ => if 0 ≤ iI s1 then (k166_) else if iI s2 < 0 then (k174_) else (k166_)))))
      (¬ sameS s1 s2 ∧ ¬ sameS s3 s4) := by
  obtain ⟨a1, a2, a3, a4⟩ := b_lt0 h1.1 h1.2
  obtain ⟨b1, b2, b3, b4⟩ := b_lt0 h2.1 h2.2
  obtain ⟨c1, c2, c3, c4⟩ := b_lt0 h3.1 h3.2
  obtain ⟨d1, d2, d3, d4⟩ := b_lt0 h4.1 h4.2
  simp only [bd, a3, a4, b1, b3, c3, c4, d1, d3]
  unfold IsB sameS
  have z : ¬ (1 : Int32) = 0 := by decide
  simp only [z, if_true, if_false]
  by_cases p : (s1 < 0 ∧ s2 < 0) ∨ (0 < s1 ∧ 0 < s2)
  · right
    refine ⟨fun q => q.1 p, ?_⟩
    repeat' split
    all_goals first | rfl | (exfalso; omega)
  · by_cases n : (s3 < 0 ∧ s4 < 0) ∨ (0 < s3 ∧ 0 < s4)
    · right
      refine ⟨fun q => q.2 n, ?_⟩
      repeat' split
      all_goals first | rfl | (exfalso; omega)
    · left
      refine ⟨⟨p, n⟩, ?_⟩
      repeat' split
      all_goals first | rfl | (exfalso; omega)
theorem meet_ok {m : Me} {o o2 : Nat} {l t r b fx fy tx ty l2 t2 r2 b2 gx gy hx hy : Int} (h : Bx m o l t r b fx fy tx ty) (g : Bx m o2 l2 t2 r2 b2 gx gy hx hy) (R1 : Rg l t r b fx fy tx ty) (R2 : Rg l2 t2 r2 b2 gx gy hx hy) :
    IsB (f_Box_linesMeet o o2 m) (meetI fx fy tx ty gx gy hx hy) := by
  obtain ⟨-, -, -, -, h5, h6, h7, h8⟩ := id h
  obtain ⟨-, -, -, -, g5, g6, g7, g8⟩ := id g
  obtain ⟨-, -, -, -, q5, q6, q7, q8, q9, q10⟩ := R1
  obtain ⟨-, -, -, -, w5, w6, w7, w8, w9, w10⟩ := R2
  unfold f_Box_linesMeet
  rw [g5, g6, g7, g8, h5, h6, h7, h8, mx_i (by omega) (by omega) (by omega) (by omega), mn_i (by omega) (by omega) (by omega) (by omega), mn_i (by omega) (by omega) (by omega) (by omega), mx_i (by omega) (by omega) (by omega) (by omega), mx_i (by omega) (by omega) (by omega) (by omega), mn_i (by omega) (by omega) (by omega) (by omega), mn_i (by omega) (by omega) (by omega) (by omega), mx_i (by omega) (by omega) (by omega) (by omega)]
  rw [side_ok h, side_ok h, side_ok g, side_ok g]
  simp only [cP]
  have s1 := sd_rg (dx := tx - fx) (dy := ty - fy) (fx := fx) (fy := fy) (x := gx) (y := gy) q9.1 q9.2 q10.1 q10.2 (by omega) (by omega) (by omega) (by omega)
  have s2 := sd_rg (dx := tx - fx) (dy := ty - fy) (fx := fx) (fy := fy) (x := hx) (y := hy) q9.1 q9.2 q10.1 q10.2 (by omega) (by omega) (by omega) (by omega)
  have s3 := sd_rg (dx := hx - gx) (dy := hy - gy) (fx := gx) (fy := gy) (x := fx) (y := fy) w9.1 w9.2 w10.1 w10.2 (by omega) (by omega) (by omega) (by omega)
  have s4 := sd_rg (dx := hx - gx) (dy := hy - gy) (fx := gx) (fy := gy) (x := tx) (y := ty) w9.1 w9.2 w10.1 w10.2 (by omega) (by omega) (by omega) (by omega)
  have S := signs22 (s1 := sdI (tx - fx) (ty - fy) fx fy gx gy) (s2 := sdI (tx - fx) (ty - fy) fx fy hx hy) (s3 := sdI (hx - gx) (hy - gy) gx gy fx fy) (s4 := sdI (hx - gx) (hy - gy) gx gy tx ty) (by omega) (by omega) (by omega) (by omega)
  unfold meetI
  by_cases c1 : (if fx < tx then tx else fx) < (if hx < gx then hx else gx)
  · rw [if_pos ((b_lt (by split <;> omega) (by split <;> omega) (by split <;> omega) (by split <;> omega)).mpr c1)]
    refine Or.inr ⟨fun q => ?_, rfl⟩
    have := q.1.1
    split at c1 <;> split at c1 <;> omega
  · rw [if_neg (fun q => c1 ((b_lt (by split <;> omega) (by split <;> omega) (by split <;> omega) (by split <;> omega)).mp q))]
    by_cases c2 : (if tx < fx then tx else fx) ≤ (if gx < hx then hx else gx)
    · rw [if_pos ((b_le (by split <;> omega) (by split <;> omega) (by split <;> omega) (by split <;> omega)).mpr c2)]
      by_cases c3 : (if fy < ty then ty else fy) < (if hy < gy then hy else gy)
      · rw [if_pos ((b_lt (by split <;> omega) (by split <;> omega) (by split <;> omega) (by split <;> omega)).mpr c3)]
        refine Or.inr ⟨fun q => ?_, rfl⟩
        have := q.1.2
        split at c3 <;> split at c3 <;> omega
      · rw [if_neg (fun q => c3 ((b_lt (by split <;> omega) (by split <;> omega) (by split <;> omega) (by split <;> omega)).mp q))]
        by_cases c4 : (if ty < fy then ty else fy) ≤ (if gy < hy then hy else gy)
        · rw [if_pos ((b_le (by split <;> omega) (by split <;> omega) (by split <;> omega) (by split <;> omega)).mpr c4)]
          refine S.cg ?_
          have k1 : ¬ ((fx < gx ∧ fx < hx ∧ tx < gx ∧ tx < hx) ∨ (gx < fx ∧ gx < tx ∧ hx < fx ∧ hx < tx)) := by
            split at c1 <;> split at c1 <;> split at c2 <;> split at c2 <;> omega
          have k2 : ¬ ((fy < gy ∧ fy < hy ∧ ty < gy ∧ ty < hy) ∨ (gy < fy ∧ gy < ty ∧ hy < fy ∧ hy < ty)) := by
            split at c3 <;> split at c3 <;> split at c4 <;> split at c4 <;> omega
          exact ⟨fun q => ⟨⟨k1, k2⟩, q.1, q.2⟩, fun q => q.2⟩
        · rw [if_neg (fun q => c4 ((b_le (by split <;> omega) (by split <;> omega) (by split <;> omega) (by split <;> omega)).mp q))]
          refine Or.inr ⟨fun q => ?_, rfl⟩
          have := q.1.2
          split at c4 <;> split at c4 <;> omega
    · rw [if_neg (fun q => c2 ((b_le (by split <;> omega) (by split <;> omega) (by split <;> omega) (by split <;> omega)).mp q))]
      refine Or.inr ⟨fun q => ?_, rfl⟩
      have := q.1.1
      split at c2 <;> split at c2 <;> omega
def ovI (l t r b l2 t2 r2 b2 : Int) : Prop := l < r2 ∧ l2 < r ∧ t < b2 ∧ t2 < b
/-- the class's clash -/
def hitI (L1 L2 : Bool) (l t r b fx fy tx ty l2 t2 r2 b2 gx gy hx hy : Int) : Prop :=
  ovI l t r b l2 t2 r2 b2 ∨ (L1 = true ∧ enterI fx fy tx ty (2 * l2) (2 * t2) (2 * r2) (2 * b2)) ∨ (L2 = true ∧ enterI gx gy hx hy (2 * l) (2 * t) (2 * r) (2 * b)) ∨ (L1 = true ∧ L2 = true ∧ meetI fx fy tx ty gx gy hx hy)
theorem over_ok {m : Me} {o : Nat} {l t r b fx fy tx ty l2 t2 r2 b2 : Int} (h : Bx m o l t r b fx fy tx ty) (R1 : Rg l t r b fx fy tx ty) (w1 : -3000 ≤ l2 ∧ l2 ≤ 70000) (w2 : -3000 ≤ t2 ∧ t2 ≤ 70000) (w3 : -3000 ≤ r2 ∧ r2 ≤ 70000) (w4 : -3000 ≤ b2 ∧ b2 ≤ 70000) :
    IsB (f_Box_overlaps o (iI l2) (iI t2) (iI r2) (iI b2) m) (ovI l t r b l2 t2 r2 b2) := by
  obtain ⟨h0, h1, h2, h3, -⟩ := h
  obtain ⟨q1, q2, q3, q4, -⟩ := R1
  unfold f_Box_overlaps ovI
  rw [h0, h1, h2, h3]
  simp only [b_le (x := r2) (y := l) (by omega) (by omega) (by omega) (by omega), b_le (x := r) (y := l2) (by omega) (by omega) (by omega) (by omega), b_le (x := b2) (y := t) (by omega) (by omega) (by omega) (by omega), b_le (x := b) (y := t2) (by omega) (by omega) (by omega) (by omega)]
  unfold IsB
  by_cases p : l < r2 ∧ l2 < r ∧ t < b2 ∧ t2 < b
  · left
    refine ⟨p, ?_⟩
    repeat' split
    all_goals first | rfl | (exfalso; omega)
  · right
    refine ⟨p, ?_⟩
    repeat' split
    all_goals first | rfl | (exfalso; omega)
theorem hits_ok {m : Me} {o o2 : Nat} {L1 L2 : Bool} {l t r b fx fy tx ty l2 t2 r2 b2 gx gy hx hy : Int} (h : Bx m o l t r b fx fy tx ty) (g : Bx m o2 l2 t2 r2 b2 gx gy hx hy) (R1 : Rg l t r b fx fy tx ty) (R2 : Rg l2 t2 r2 b2 gx gy hx hy) (h4 : m.1 o 4 = if L1 = true then 1 else 0) (g4 : m.1 o2 4 = if L2 = true then 1 else 0) :
    IsB (f_Box_hits o o2 m) (hitI L1 L2 l t r b fx fy tx ty l2 t2 r2 b2 gx gy hx hy) := by
  obtain ⟨w1, w2, w3, w4, -⟩ := id R2
  obtain ⟨g0, g1, g2, g3, -⟩ := id g
  have ov := over_ok h R1 (l2 := l2) (t2 := t2) (r2 := r2) (b2 := b2) (by omega) (by omega) (by omega) (by omega)
  have e12 := enters_ok h g R1 R2
  have e21 := enters_ok g h R2 R1
  have mt := meet_ok h g R1 R2
  have z : ¬ (1 : Int32) = 0 := by decide
  unfold f_Box_hits
  rw [g0, g1, g2, g3]
  unfold hitI
  rcases ov with ⟨p, e⟩ | ⟨p, e⟩
  · rw [e]
    left
    exact ⟨Or.inl p, rfl⟩
  · rw [e]
    simp only [cP, bd, if_true]
    rw [h4, g4]
    cases L1 <;> cases L2
    · right
      refine ⟨?_, rfl⟩
      rintro (q | ⟨q, -⟩ | ⟨q, -⟩ | ⟨q, -⟩)
      · exact p q
      · cases q
      · cases q
      · cases q
    · rcases e21 with ⟨k, e'⟩ | ⟨k, e'⟩ <;> rw [e']
      · left
        exact ⟨Or.inr (Or.inr (Or.inl ⟨rfl, k⟩)), rfl⟩
      · right
        refine ⟨?_, rfl⟩
        rintro (q | ⟨q, -⟩ | ⟨-, q⟩ | ⟨q, -⟩)
        · exact p q
        · cases q
        · exact k q
        · cases q
    · rcases e12 with ⟨k, e'⟩ | ⟨k, e'⟩ <;> rw [e']
      · left
        exact ⟨Or.inr (Or.inl ⟨rfl, k⟩), rfl⟩
      · right
        refine ⟨?_, rfl⟩
        rintro (q | ⟨-, q⟩ | ⟨q, -⟩ | ⟨-, q, -⟩)
        · exact p q
        · exact k q
        · cases q
        · cases q
    · rcases e12 with ⟨k, e'⟩ | ⟨k, e'⟩ <;> rw [e']
      · left
        exact ⟨Or.inr (Or.inl ⟨rfl, k⟩), rfl⟩
      · rcases e21 with ⟨k2, e2⟩ | ⟨k2, e2⟩ <;> rw [e2]
        · left
          exact ⟨Or.inr (Or.inr (Or.inl ⟨rfl, k2⟩)), rfl⟩
        · rcases mt with ⟨k3, e3⟩ | ⟨k3, e3⟩ <;> rw [e3]
          · left
            exact ⟨Or.inr (Or.inr (Or.inr ⟨rfl, rfl, k3⟩)), rfl⟩
          · right
            refine ⟨?_, rfl⟩
            rintro (q | ⟨-, q⟩ | ⟨-, q⟩ | ⟨-, -, q⟩)
            · exact p q
            · exact k q
            · exact k2 q
            · exact k3 q
