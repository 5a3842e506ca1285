/-! PURE PART: the reference's test of two lines is the class's -/
theorem IsB.no {P : Prop} (h : ¬ P) : IsB (some 0) P := Or.inr ⟨h, rfl⟩
theorem IsB.yes {P : Prop} (h : P) : IsB (some 1) P := Or.inl ⟨h, rfl⟩
/-- one link of the chain: if z is so and the question says yes, 1; else what follows -/
theorem link {z P R : Prop} [Decidable z] {x : Option Int32} {k : Option Int32} (hx : IsB x P) (hk : IsB k R) : IsB (if z then cP x (fun v => if v = 0 then k else some (1 : Int32)) else k) ((z ∧ P) ∨ R) := by
  by_cases hz : z
  · rw [if_pos hz]
    rcases hx with ⟨p, e⟩ | ⟨p, e⟩ <;> rw [e] <;> simp only [cP]
    · rw [if_neg (by decide)]
      exact IsB.yes (Or.inl ⟨hz, p⟩)
    · rw [if_pos trivial]
      exact hk.cg ⟨Or.inr, fun w => w.elim (fun q => absurd q.2 p) id⟩
  · rw [if_neg hz]
    exact hk.cg ⟨Or.inr, fun w => w.elim (fun q => absurd q.1 hz) id⟩
theorem moMeet_ok {m : Me} {l t r b fx fy tx ty l2 t2 r2 b2 gx gy hx hy : Int} (A : Rw m 211 l t r b fx fy tx ty) (B : Rw m 212 l2 t2 r2 b2 gx gy hx hy) (R1 : Rg l t r b fx fy tx ty) (R2 : Rg l2 t2 r2 b2 gx gy hx hy) (N1 : tx ≠ fx ∨ ty ≠ fy) (N2 : hx ≠ gx ∨ hy ≠ gy) :
    IsB (f_Mo_linesMeet m) (meetI fx fy tx ty gx gy hx hy) := by
  have A' := A
  have B' := B
  obtain ⟨-, -, -, -, a4, a5, a6, a7⟩ := A'
  obtain ⟨-, -, -, -, b4, b5, b6, b7⟩ := B'
  obtain ⟨-, -, -, -, q5, q6, q7, q8, q9, q10⟩ := id R1
  obtain ⟨-, -, -, -, w5, w6, w7, w8, w9, w10⟩ := id R2
  have s1 := sd_rg (dx := tx - fx) (dy := ty - fy) (fx := fx) (fy := fy) (x := gx) (y := gy) q9.1 q9.2 q10.1 q10.2 (by omega) (by omega) (by omega) (by omega)
  have s2 := sd_rg (dx := tx - fx) (dy := ty - fy) (fx := fx) (fy := fy) (x := hx) (y := hy) q9.1 q9.2 q10.1 q10.2 (by omega) (by omega) (by omega) (by omega)
  have s3 := sd_rg (dx := hx - gx) (dy := hy - gy) (fx := gx) (fy := gy) (x := fx) (y := fy) w9.1 w9.2 w10.1 w10.2 (by omega) (by omega) (by omega) (by omega)
  have s4 := sd_rg (dx := hx - gx) (dy := hy - gy) (fx := gx) (fy := gy) (x := tx) (y := ty) w9.1 w9.2 w10.1 w10.2 (by omega) (by omega) (by omega) (by omega)
  have o1 := on_ok (cI := 4) (c := 4) rfl (by decide) (show ln 211 = 8 from rfl) (show ln 212 = 8 from rfl) A R1 b4 b5 w5 w6
  have o2 := on_ok (cI := 6) (c := 6) rfl (by decide) (show ln 211 = 8 from rfl) (show ln 212 = 8 from rfl) A R1 b6 b7 w7 w8
  have o3 := on_ok (cI := 4) (c := 4) rfl (by decide) (show ln 212 = 8 from rfl) (show ln 211 = 8 from rfl) B R2 a4 a5 q5 q6
  have o4 := on_ok (cI := 6) (c := 6) rfl (by decide) (show ln 212 = 8 from rfl) (show ln 211 = 8 from rfl) B R2 a6 a7 q7 q8
  have key := meet0 (a := tx - fx) (b := ty - fy) (p := gx - fx) (q := gy - fy) (r := hx - fx) (s := hy - fy) (by omega) (by omega) (sdI (tx - fx) (ty - fy) fx fy gx gy) (sdI (tx - fx) (ty - fy) fx fy hx hy) (sdI (hx - gx) (hy - gy) gx gy fx fy) (sdI (hx - gx) (hy - gy) gx gy tx ty) rfl rfl
    (by unfold sdI; simp only [Int.sub_mul, Int.mul_sub]; simp only [Int.mul_comm, Int.mul_left_comm]; omega) (by unfold sdI; simp only [Int.sub_mul, Int.mul_sub]; simp only [Int.mul_comm, Int.mul_left_comm]; omega)
  unfold f_Mo_linesMeet
  rw [sideM_ok (cI := 4) (c := 4) rfl (by decide) rfl rfl A b4 b5 (by omega), sideM_ok (cI := 6) (c := 6) rfl (by decide) rfl rfl A b6 b7 (by omega), sideM_ok (cI := 4) (c := 4) rfl (by decide) rfl rfl B a4 a5 (by omega), sideM_ok (cI := 6) (c := 6) rfl (by decide) rfl rfl B a6 a7 (by omega)]
  unfold meetI
  generalize sdI (tx - fx) (ty - fy) fx fy gx gy = y1 at *
  generalize sdI (tx - fx) (ty - fy) fx fy hx hy = y2 at *
  generalize sdI (hx - gx) (hy - gy) gx gy fx fy = y3 at *
  generalize sdI (hx - gx) (hy - gy) gx gy tx ty = y4 at *
  have hK := link (z := sgI y1 = 0) o1 (link (z := sgI y2 = 0) o2 (link (z := sgI y3 = 0) o3 (link (z := sgI y4 = 0) o4 (IsB.no (P := False) id))))
  have m1 := sg_mul (x := y1) (y := y2)
  have m2 := sg_mul (x := y3) (y := y4)
  have tgt : (((oppS y1 y2 ∧ oppS y3 y4) ∨ ((sgI y1 = 0 ∧ bt gx fx tx ∧ bt gy fy ty) ∨ (sgI y2 = 0 ∧ bt hx fx tx ∧ bt hy fy ty) ∨ (sgI y3 = 0 ∧ bt fx gx hx ∧ bt fy gy hy) ∨ (sgI y4 = 0 ∧ bt tx gx hx ∧ bt ty gy hy) ∨ False)) ↔ ((¬ ((fx < gx ∧ fx < hx ∧ tx < gx ∧ tx < hx) ∨ (gx < fx ∧ gx < tx ∧ hx < fx ∧ hx < tx)) ∧ ¬ ((fy < gy ∧ fy < hy ∧ ty < gy ∧ ty < hy) ∨ (gy < fy ∧ gy < ty ∧ hy < fy ∧ hy < ty))) ∧ ¬ sameS y1 y2 ∧ ¬ sameS y3 y4)) := by
    have k1 : (bt (gx - fx) 0 (tx - fx) ∧ bt (gy - fy) 0 (ty - fy)) ↔ (bt gx fx tx ∧ bt gy fy ty) := by unfold bt; omega
    have k2 : (bt (hx - fx) 0 (tx - fx) ∧ bt (hy - fy) 0 (ty - fy)) ↔ (bt hx fx tx ∧ bt hy fy ty) := by unfold bt; omega
    have k3 : (bt 0 (gx - fx) (hx - fx) ∧ bt 0 (gy - fy) (hy - fy)) ↔ (bt fx gx hx ∧ bt fy gy hy) := by unfold bt; omega
    have k4 : (bt (tx - fx) (gx - fx) (hx - fx) ∧ bt (ty - fy) (gy - fy) (hy - fy)) ↔ (bt tx gx hx ∧ bt ty gy hy) := by unfold bt; omega
    rw [k1, k2, k3, k4] at key
    have kx : (¬ ((0 < gx - fx ∧ 0 < hx - fx ∧ tx - fx < gx - fx ∧ tx - fx < hx - fx) ∨ (gx - fx < 0 ∧ hx - fx < 0 ∧ gx - fx < tx - fx ∧ hx - fx < tx - fx))) ↔ ¬ ((fx < gx ∧ fx < hx ∧ tx < gx ∧ tx < hx) ∨ (gx < fx ∧ gx < tx ∧ hx < fx ∧ hx < tx)) := by omega
    have ky : (¬ ((0 < gy - fy ∧ 0 < hy - fy ∧ ty - fy < gy - fy ∧ ty - fy < hy - fy) ∨ (gy - fy < 0 ∧ hy - fy < 0 ∧ gy - fy < ty - fy ∧ hy - fy < ty - fy))) ↔ ¬ ((fy < gy ∧ fy < hy ∧ ty < gy ∧ ty < hy) ∨ (gy < fy ∧ gy < ty ∧ hy < fy ∧ hy < ty)) := by omega
    rw [kx, ky] at key
    rw [key]
    simp only [sg_0, or_false]
  refine IsB.cg ?_ tgt
  simp only [cP, bd] at hK ⊢
  by_cases c1 : 0 ≤ sgI y1 * sgI y2
  · rw [if_pos c1]
    exact hK.cg ⟨Or.inr, fun w => w.elim (fun q => absurd q.1 (m1.mp c1)) id⟩
  · rw [if_neg c1]
    by_cases c2 : 0 ≤ sgI y3 * sgI y4
    · rw [if_pos c2]
      exact hK.cg ⟨Or.inr, fun w => w.elim (fun q => absurd q.2 (m2.mp c2)) id⟩
    · rw [if_neg c2]
      have d1 : oppS y1 y2 := by
        rcases Classical.em (oppS y1 y2) with q | q
        · exact q
        · exact absurd (m1.mpr q) c1
      have d2 : oppS y3 y4 := by
        rcases Classical.em (oppS y3 y4) with q | q
        · exact q
        · exact absurd (m2.mpr q) c2
      exact IsB.yes (Or.inl ⟨d1, d2⟩)
