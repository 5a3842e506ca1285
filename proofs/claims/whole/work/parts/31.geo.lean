/-! PURE PART: a line against a box. Fractions are pairs (a, b), b > 0. -/
theorem fr_tr {a b c d e f : Int} (hb : 0 < b) (hd : 0 < d) (hf : 0 < f) (h1 : a * d ≤ c * b) (h2 : c * f < e * d) : a * f < e * b := by
  have e1 : a * f * d = a * d * f := by rw [Int.mul_assoc, Int.mul_comm f d, ← Int.mul_assoc]
  have e2 : c * b * f = c * f * b := by rw [Int.mul_assoc, Int.mul_comm b f, ← Int.mul_assoc]
  have e3 : e * d * b = e * b * d := by rw [Int.mul_assoc, Int.mul_comm d b, ← Int.mul_assoc]
  have h3 : a * d * f ≤ c * b * f := Int.mul_le_mul_of_nonneg_right h1 (Int.le_of_lt hf)
  have h4 : c * f * b < e * d * b := Int.mul_lt_mul_of_pos_right h2 hb
  have h5 : a * f * d < e * b * d := by rw [e1, ← e3]; rw [e2] at h3; exact Int.lt_of_le_of_lt h3 h4
  exact Int.lt_of_mul_lt_mul_right h5 (Int.le_of_lt hd)
theorem fr_tr2 {a b c d e f : Int} (hb : 0 < b) (hd : 0 < d) (hf : 0 < f) (h1 : e * d < c * f) (h2 : c * b ≤ a * d) : e * b < a * f := by
  have := fr_tr (a := -a) (b := b) (c := -c) (d := d) (e := -e) (f := f) hb hd hf (by rw [Int.neg_mul, Int.neg_mul]; omega) (by rw [Int.neg_mul, Int.neg_mul]; omega)
  rw [Int.neg_mul, Int.neg_mul] at this
  omega
/-- the greater of two fractions, as the reference takes it; the lesser -/
def mxP (p q : Int × Int) : Int × Int := if q.1 * p.2 > p.1 * q.2 then q else p
def mnP (p q : Int × Int) : Int × Int := if q.1 * p.2 < p.1 * q.2 then q else p
theorem mxP_pos {p q : Int × Int} (hp : 0 < p.2) (hq : 0 < q.2) : 0 < (mxP p q).2 := by
  unfold mxP; split <;> assumption
theorem mnP_pos {p q : Int × Int} (hp : 0 < p.2) (hq : 0 < q.2) : 0 < (mnP p q).2 := by
  unfold mnP; split <;> assumption
theorem mxP_lt {p q : Int × Int} {e f : Int} (hp : 0 < p.2) (hq : 0 < q.2) (hf : 0 < f) : (mxP p q).1 * f < e * (mxP p q).2 ↔ (p.1 * f < e * p.2 ∧ q.1 * f < e * q.2) := by
  unfold mxP
  by_cases h : q.1 * p.2 > p.1 * q.2
  · rw [if_pos h]
    refine ⟨fun w => ⟨fr_tr hp hq hf (Int.le_of_lt h) w, w⟩, fun w => w.2⟩
  · rw [if_neg h]
    refine ⟨fun w => ⟨w, fr_tr hq hp hf (by omega) w⟩, fun w => w.1⟩
theorem mnP_gt {p q : Int × Int} {e f : Int} (hp : 0 < p.2) (hq : 0 < q.2) (hf : 0 < f) : e * (mnP p q).2 < (mnP p q).1 * f ↔ (e * p.2 < p.1 * f ∧ e * q.2 < q.1 * f) := by
  unfold mnP
  by_cases h : q.1 * p.2 < p.1 * q.2
  · rw [if_pos h]
    refine ⟨fun w => ⟨fr_tr2 hp hq hf w (Int.le_of_lt h), w⟩, fun w => w.2⟩
  · rw [if_neg h]
    refine ⟨fun w => ⟨w, fr_tr2 hq hp hf w (by omega)⟩, fun w => w.1⟩
/-- what a cut leaves of the fractions -/
def cuF (v d lo hi : Int) (p : Int × Int) : Int × Int := if d = 0 then p else if d > 0 then mxP p (lo - v, d) else mxP p (v - hi, -d)
def cuT (v d lo hi : Int) (p : Int × Int) : Int × Int := if d = 0 then p else if d > 0 then mnP p (hi - v, d) else mnP p (v - lo, -d)
/-- the reference's answer: does the line from (fx, fy) by (dx, dy) come into the inside of the box -/
def crossI (fx fy dx dy l t r b : Int) : Prop :=
  (dx = 0 → l < fx ∧ fx < r) ∧ (dy = 0 → t < fy ∧ fy < b) ∧
  (cuF fy dy t b (cuF fx dx l r (-1, 1))).1 * (cuT fy dy t b (cuT fx dx l r (2, 1))).2 < (cuT fy dy t b (cuT fx dx l r (2, 1))).1 * (cuF fy dy t b (cuF fx dx l r (-1, 1))).2 ∧
  (cuF fy dy t b (cuF fx dx l r (-1, 1))).1 < (cuF fy dy t b (cuF fx dx l r (-1, 1))).2 ∧ 0 < (cuT fy dy t b (cuT fx dx l r (2, 1))).1
def sdI (dx dy fx fy x y : Int) : Int := dx * (y - fy) - dy * (x - fx)
/-- the class's answer -/
def enterI (fx fy tx ty l t r b : Int) : Prop :=
  ¬ ((fx ≤ l ∧ tx ≤ l) ∨ (r ≤ fx ∧ r ≤ tx)) ∧ ¬ ((fy ≤ t ∧ ty ≤ t) ∨ (b ≤ fy ∧ b ≤ ty)) ∧
  (sdI (tx - fx) (ty - fy) fx fy l t < 0 ∨ sdI (tx - fx) (ty - fy) fx fy r t < 0 ∨ sdI (tx - fx) (ty - fy) fx fy r b < 0 ∨ sdI (tx - fx) (ty - fy) fx fy l b < 0) ∧
  (0 < sdI (tx - fx) (ty - fy) fx fy l t ∨ 0 < sdI (tx - fx) (ty - fy) fx fy r t ∨ 0 < sdI (tx - fx) (ty - fy) fx fy r b ∨ 0 < sdI (tx - fx) (ty - fy) fx fy l b)
/-- all the pairs, where both directions count -/
theorem pair4 {a1 b1 a2 b2 c1 d1 c2 d2 : Int} (h1 : 0 < b1) (h2 : 0 < b2) (h3 : 0 < d1) (h4 : 0 < d2) :
    ((mxP (mxP (-1, 1) (a1, b1)) (a2, b2)).1 * (mnP (mnP (2, 1) (c1, d1)) (c2, d2)).2 < (mnP (mnP (2, 1) (c1, d1)) (c2, d2)).1 * (mxP (mxP (-1, 1) (a1, b1)) (a2, b2)).2 ∧ (mxP (mxP (-1, 1) (a1, b1)) (a2, b2)).1 < (mxP (mxP (-1, 1) (a1, b1)) (a2, b2)).2 ∧ 0 < (mnP (mnP (2, 1) (c1, d1)) (c2, d2)).1) ↔
    (a1 * d1 < c1 * b1 ∧ a1 * d2 < c2 * b1 ∧ a2 * d1 < c1 * b2 ∧ a2 * d2 < c2 * b2 ∧ a1 < b1 ∧ a2 < b2 ∧ 0 < c1 ∧ 0 < c2) := by
  have p1 : 0 < (mxP (-1, 1) (a1, b1)).2 := mxP_pos (by decide) h1
  have p2 : 0 < (mnP (2, 1) (c1, d1)).2 := mnP_pos (by decide) h3
  have p3 : 0 < (mnP (mnP (2, 1) (c1, d1)) (c2, d2)).2 := mnP_pos p2 h4
  generalize hT : mnP (mnP (2, 1) (c1, d1)) (c2, d2) = T at p3
  have F1 : ∀ e f : Int, 0 < f → ((mxP (mxP (-1, 1) (a1, b1)) (a2, b2)).1 * f < e * (mxP (mxP (-1, 1) (a1, b1)) (a2, b2)).2 ↔ ((-1) * f < e ∧ a1 * f < e * b1 ∧ a2 * f < e * b2)) := by
    intro e f hf
    rw [mxP_lt p1 h2 hf, mxP_lt (by decide) h1 hf]
    simp only [Int.mul_one]
    constructor
    · rintro ⟨⟨q1, q2⟩, q3⟩; exact ⟨q1, q2, q3⟩
    · rintro ⟨q1, q2, q3⟩; exact ⟨⟨q1, q2⟩, q3⟩
  have T1 : ∀ e f : Int, 0 < f → (e * T.2 < T.1 * f ↔ (e < 2 * f ∧ e * d1 < c1 * f ∧ e * d2 < c2 * f)) := by
    intro e f hf
    rw [← hT, mnP_gt p2 h4 hf, mnP_gt (by decide) h3 hf]
    simp only [Int.mul_one]
    constructor
    · rintro ⟨⟨q1, q2⟩, q3⟩; exact ⟨q1, q2, q3⟩
    · rintro ⟨q1, q2, q3⟩; exact ⟨⟨q1, q2⟩, q3⟩
  have g1 := F1 1 1 (by decide)
  have t0 := T1 0 1 (by decide)
  simp only [Int.mul_one, Int.one_mul, Int.zero_mul] at g1 t0
  rw [F1 T.1 T.2 p3, g1, t0]
  have ta := T1 a1 b1 h1
  have tb := T1 a2 b2 h2
  have tm := T1 (-1) 1 (by decide)
  simp only [Int.mul_one] at tm
  constructor
  · rintro ⟨⟨q1, q2, q3⟩, ⟨q4, q5, q6⟩, q7, q8, q9⟩
    obtain ⟨w1, w2, w3⟩ := ta.mp q2
    obtain ⟨w4, w5, w6⟩ := tb.mp q3
    exact ⟨w2, w3, w5, w6, q5, q6, q8, q9⟩
  · rintro ⟨w1, w2, w3, w4, w5, w6, w7, w8⟩
    have z1 : (-1) * d1 < c1 := by omega
    have z2 : (-1) * d2 < c2 := by omega
    refine ⟨⟨tm.mpr ⟨by decide, z1, z2⟩, ta.mpr ⟨by omega, w1, w2⟩, tb.mpr ⟨by omega, w3, w4⟩⟩, ⟨by decide, w5, w6⟩, by decide, w7, w8⟩
/-- one direction alone counts -/
theorem pair2 {a1 b1 c1 d1 : Int} (h1 : 0 < b1) (h3 : 0 < d1) :
    ((mxP (-1, 1) (a1, b1)).1 * (mnP (2, 1) (c1, d1)).2 < (mnP (2, 1) (c1, d1)).1 * (mxP (-1, 1) (a1, b1)).2 ∧ (mxP (-1, 1) (a1, b1)).1 < (mxP (-1, 1) (a1, b1)).2 ∧ 0 < (mnP (2, 1) (c1, d1)).1) ↔
    (a1 * d1 < c1 * b1 ∧ a1 < b1 ∧ 0 < c1) := by
  have p2 : 0 < (mnP (2, 1) (c1, d1)).2 := mnP_pos (by decide) h3
  generalize hT : mnP (2, 1) (c1, d1) = T at p2
  have F1 : ∀ e f : Int, 0 < f → ((mxP (-1, 1) (a1, b1)).1 * f < e * (mxP (-1, 1) (a1, b1)).2 ↔ ((-1) * f < e ∧ a1 * f < e * b1)) := by
    intro e f hf
    rw [mxP_lt (by decide) h1 hf]
    simp only [Int.mul_one]
  have T1 : ∀ e f : Int, 0 < f → (e * T.2 < T.1 * f ↔ (e < 2 * f ∧ e * d1 < c1 * f)) := by
    intro e f hf
    rw [← hT, mnP_gt (by decide) h3 hf]
    simp only [Int.mul_one]
  have g1 := F1 1 1 (by decide)
  have t0 := T1 0 1 (by decide)
  simp only [Int.mul_one, Int.one_mul, Int.zero_mul] at g1 t0
  rw [F1 T.1 T.2 p2, g1, t0]
  have ta := T1 a1 b1 h1
  have tm := T1 (-1) 1 (by decide)
  simp only [Int.mul_one] at tm
  constructor
  · rintro ⟨⟨q1, q2⟩, ⟨q4, q5⟩, q7, q8⟩
    exact ⟨(ta.mp q2).2, q5, q8⟩
  · rintro ⟨w1, w5, w7⟩
    exact ⟨⟨tm.mpr ⟨by decide, by omega⟩, ta.mpr ⟨by omega, w1⟩⟩, ⟨by decide, w5⟩, by decide, w7⟩
